section BL
theorem bX0_countWays_0 {g : AG} {ad : Nat → Nat} {d : Nat} {Q : AO → SG → Prop} {rc rs : Nat} {σ : SG} {x1 : Int}  (hx1 : iR x1) (hS : SR σ) (H : Cl g ad d mX5_full 0 0 [(.ref (ad 48))] σ (Ki fun r1 s1 => Cl g ad d mJ7_fill_53178 0 0 [(.ref (ad 86)), (vi 0)] s1 (Kv fun s2 => (iR x1 → iR r1 → iR 0 → SR (setI s2 86 0 1) → Wb g ad d mX0_countWays Q 25 [some (.ref (ad 85)), some (vi x1), some (vi r1), some (vi 0), none] [] (setI s2 86 0 1) rc rs)))) : Wb g ad d mX0_countWays Q 0 [some (.ref (ad 85)), some (vi x1), none, none, none] [] σ rc rs := by
  refine sb_aload_n (pc' := 1) rfl rfl dX0_countWays_0 ?_
  refine sb_getC (pc' := 4) rfl fc_85_0 wd_611 dX0_countWays_1 ?_
  obtain ⟨d1, hd1, H⟩ := H
  refine sb_callVN (pc' := 7) rfl rfl (rc := rc) (rs := rs) (mc' := 0) (ms' := 0) (As := []) (st := []) of_48 rfl rfl (Nat.le_of_ble_eq_true rfl) hd1 kX5_full ⟨wd_853, wd_744, wd_8⟩ dX0_countWays_4 (Eb.mono H ?_)
  rintro o s1 ⟨r1, rfl, hr1, hs1, H⟩
  show Wb g ad d mX0_countWays Q 7 [some (.ref (ad 85)), some (vi x1), none, none, none] [(vi r1)] s1 rc rs
  refine sb_istore_n (pc' := 8) rfl (L' := [some (.ref (ad 85)), some (vi x1), some (vi r1), none, none]) rfl (by decide) dX0_countWays_7 ?_
  refine sb_aload_n (pc' := 9) rfl rfl dX0_countWays_8 ?_
  refine sb_getC (pc' := 12) rfl fc_85_1 wd_612 dX0_countWays_9 ?_
  refine sb_iconst (pc' := 13) rfl dX0_countWays_12 ?_
  obtain ⟨d2, hd2, H⟩ := H
  refine sb_callS (pc' := 16) rfl rfl (rc := rc) (rs := rs) (mc' := 0) (ms' := 0) (As := [(.ref (ad 86)), (vi 0)]) (st := [])  rfl rfl (Nat.le_of_ble_eq_true rfl) hd2 kJ7_fill_53178 ⟨wd_854, wd_773⟩ dX0_countWays_13 (Eb.mono H ?_)
  rintro o s2 ⟨rfl, hs2, H⟩
  show Wb g ad d mX0_countWays Q 16 [some (.ref (ad 85)), some (vi x1), some (vi r1), none, none] [] s2 rc rs
  refine sb_aload_n (pc' := 17) rfl rfl dX0_countWays_16 ?_
  refine sb_getC (pc' := 20) rfl fc_85_1 wd_612 dX0_countWays_17 ?_
  refine sb_iconst (pc' := 21) rfl dX0_countWays_20 ?_
  refine sb_iconst (pc' := 22) rfl dX0_countWays_21 ?_
  refine sb_iast (pc' := 23) rfl aI_86 (by decide) (by decide)  dX0_countWays_22 ?_
  refine sb_iconst (pc' := 24) rfl dX0_countWays_23 ?_
  refine sb_istore_n (pc' := 25) rfl (L' := [some (.ref (ad 85)), some (vi x1), some (vi r1), some (vi 0), none]) rfl (by decide) dX0_countWays_24 ?_
  exact (H hx1 hr1 (iR_lit rfl) (SR_setI hs2 (iR_lit rfl)))
theorem bX0_countWays_25 {g : AG} {ad : Nat → Nat} {d : Nat} {Q : AO → SG → Prop} {rc rs : Nat} {σ : SG} {x1 x2 x3 : Int}  (hx1 : iR x1) (hx2 : iR x2) (hx3 : iR x3) (hS : SR σ) (H : iR (x2 * 7) ∧ (((x2 * 7) ≤ x3 → (iR x1 → iR x2 → iR 0 → iR 0 → SR σ → Wb g ad d mX0_countWays Q 59 [some (.ref (ad 85)), some (vi x1), some (vi x2), some (vi 0), some (vi 0)] [] σ rc rs)) ∧ (¬ (x2 * 7) ≤ x3 → (0 ≤ x3 ∧ x3 < 448) ∧ (((ia σ 86 x3) = 0 → iR (x3 + 1) ∧ (iR x1 → iR x2 → iR (x3 + 1) → SR σ → Wb g ad d mX0_countWays Q 25 [some (.ref (ad 85)), some (vi x1), some (vi x2), some (vi (x3 + 1)), none] [] σ rc rs)) ∧ (¬ (ia σ 86 x3) = 0 → Cl g ad d mX0_countFrom 0 0 [(.ref (ad 85)), (vi x3), (vi x1)] σ (Kv fun s4 => iR (x3 + 1) ∧ (iR x1 → iR x2 → iR (x3 + 1) → SR s4 → Wb g ad d mX0_countWays Q 25 [some (.ref (ad 85)), some (vi x1), some (vi x2), some (vi (x3 + 1)), none] [] s4 rc rs))))))) : Wb g ad d mX0_countWays Q 25 [some (.ref (ad 85)), some (vi x1), some (vi x2), some (vi x3), none] [] σ rc rs := by
  refine sb_iload_n (pc' := 26) rfl rfl dX0_countWays_25 ?_
  refine sb_iload_n (pc' := 27) rfl rfl dX0_countWays_26 ?_
  refine sb_bipush (pc' := 29) rfl (z := 7) (by decide) dX0_countWays_27 ?_
  refine sb_imul (pc' := 30) rfl dX0_countWays_29 ?_
  obtain ⟨o1, H⟩ := H
  refine sb_icmp_ge (pc' := 33) (tgt := 54) rfl (by decide) hx3 o1 dX0_countWays_30 ?_ ?_
  · intro cc; have H := H.1 cc
    refine sb_iconst (pc' := 55) rfl dX0_countWays_54 ?_
    refine sb_istore_n (pc' := 56) rfl (L' := [some (.ref (ad 85)), some (vi x1), some (vi x2), some (vi 0), none]) rfl (by decide) dX0_countWays_55 ?_
    refine sb_iconst (pc' := 57) rfl dX0_countWays_56 ?_
    refine sb_istore (pc' := 59) rfl (L' := [some (.ref (ad 85)), some (vi x1), some (vi x2), some (vi 0), some (vi 0)]) rfl (by decide) dX0_countWays_57 ?_
    exact (H hx1 hx2 (iR_lit rfl) (iR_lit rfl) hS)
  · intro cc; have H := H.2 cc
    refine sb_aload_n (pc' := 34) rfl rfl dX0_countWays_33 ?_
    refine sb_getC (pc' := 37) rfl fc_85_1 wd_612 dX0_countWays_34 ?_
    refine sb_iload_n (pc' := 38) rfl rfl dX0_countWays_37 ?_
    obtain ⟨o2, H⟩ := H
    refine sb_iald (pc' := 39) rfl aI_86 o2.1 o2.2 dX0_countWays_38 ?_
    refine sb_if_eq (pc' := 42) (tgt := 48) rfl (by decide) (SR_ia hS _ _) dX0_countWays_39 ?_ ?_
    · intro cc; have H := H.1 cc
      refine sb_iinc (pc' := 51) rfl rfl (L' := [some (.ref (ad 85)), some (vi x1), some (vi x2), some (vi (x3 + 1)), none]) rfl (by decide) dX0_countWays_48 ?_
      refine sb_goto (tgt := 25) (by decide) dX0_countWays_51 ?_
      obtain ⟨o3, H⟩ := H
      exact (H hx1 hx2 o3 hS)
    · intro cc; have H := H.2 cc
      refine sb_aload_n (pc' := 43) rfl rfl dX0_countWays_42 ?_
      refine sb_iload_n (pc' := 44) rfl rfl dX0_countWays_43 ?_
      refine sb_iload_n (pc' := 45) rfl rfl dX0_countWays_44 ?_
      obtain ⟨d4, hd4, H⟩ := H
      refine sb_callV (pc' := 48) rfl rfl (rc := rc) (rs := rs) (mc' := 0) (ms' := 0) (As := [(vi x3), (vi x1)]) (st := []) of_85 rfl rfl (Nat.le_of_ble_eq_true rfl) hd4 kX0_countFrom ⟨wd_855, wd_857, wd_29⟩ dX0_countWays_45 (Eb.mono H ?_)
      rintro o s4 ⟨rfl, hs4, H⟩
      show Wb g ad d mX0_countWays Q 48 [some (.ref (ad 85)), some (vi x1), some (vi x2), some (vi x3), none] [] s4 rc rs
      refine sb_iinc (pc' := 51) rfl rfl (L' := [some (.ref (ad 85)), some (vi x1), some (vi x2), some (vi (x3 + 1)), none]) rfl (by decide) dX0_countWays_48 ?_
      refine sb_goto (tgt := 25) (by decide) dX0_countWays_51 ?_
      obtain ⟨o5, H⟩ := H
      exact (H hx1 hx2 o5 hs4)
theorem bX0_countWays_59 {g : AG} {ad : Nat → Nat} {d : Nat} {Q : AO → SG → Prop} {rc rs : Nat} {σ : SG} {x1 x2 x3 x4 : Int}  (hx1 : iR x1) (hx2 : iR x2) (hx3 : iR x3) (hx4 : iR x4) (hS : SR σ) (H : ((7 ≤ x4 → (iR x3 → SR σ → Q (.inl (some (vi x3))) σ)) ∧ (¬ 7 ≤ x4 → (0 ≤ (x2 * 7) + x4 ∧ (x2 * 7) + x4 < 448) ∧ Cl g ad d mJ9_min_7cf53 0 0 [(vi 1000000000), (vi (x3 + (ia σ 86 ((x2 * 7) + x4))))] σ (Ki fun r2 s2 => iR (x4 + 1) ∧ (iR x1 → iR x2 → iR r2 → iR (x4 + 1) → SR s2 → Wb g ad d mX0_countWays Q 59 [some (.ref (ad 85)), some (vi x1), some (vi x2), some (vi r2), some (vi (x4 + 1))] [] s2 rc rs))))) : Wb g ad d mX0_countWays Q 59 [some (.ref (ad 85)), some (vi x1), some (vi x2), some (vi x3), some (vi x4)] [] σ rc rs := by
  refine sb_iload (pc' := 61) rfl rfl dX0_countWays_59 ?_
  refine sb_bipush (pc' := 63) rfl (z := 7) (by decide) dX0_countWays_61 ?_
  refine sb_icmp_ge (pc' := 66) (tgt := 92) rfl (by decide) hx4 (iR_lit rfl) dX0_countWays_63 ?_ ?_
  · intro cc; have H := H.1 cc
    refine sb_iload_n (pc' := 93) rfl rfl dX0_countWays_92 ?_
    exact sb_iret rfl rfl dX0_countWays_93 (H hx3 hS)
  · intro cc; have H := H.2 cc
    refine sb_ldc (pc' := 68) rfl (z := 1000000000) rfl wd_860 dX0_countWays_66 ?_
    refine sb_iload_n (pc' := 69) rfl rfl dX0_countWays_68 ?_
    refine sb_aload_n (pc' := 70) rfl rfl dX0_countWays_69 ?_
    refine sb_getC (pc' := 73) rfl fc_85_1 wd_612 dX0_countWays_70 ?_
    refine sb_iload_n (pc' := 74) rfl rfl dX0_countWays_73 ?_
    refine sb_bipush (pc' := 76) rfl (z := 7) (by decide) dX0_countWays_74 ?_
    refine sb_imul (pc' := 77) rfl dX0_countWays_76 ?_
    refine sb_iload (pc' := 79) rfl rfl dX0_countWays_77 ?_
    refine sb_iadd (pc' := 80) rfl dX0_countWays_79 ?_
    obtain ⟨o1, H⟩ := H
    refine sb_iald (pc' := 81) rfl aI_86 o1.1 o1.2 dX0_countWays_80 ?_
    refine sb_iadd (pc' := 82) rfl dX0_countWays_81 ?_
    obtain ⟨d2, hd2, H⟩ := H
    refine sb_callS (pc' := 85) rfl rfl (rc := rc) (rs := rs) (mc' := 0) (ms' := 0) (As := [(vi 1000000000), (vi (x3 + (ia σ 86 ((x2 * 7) + x4))))]) (st := [])  rfl rfl (Nat.le_of_ble_eq_true rfl) hd2 kJ9_min_7cf53 ⟨wd_861, wd_776⟩ dX0_countWays_82 (Eb.mono H ?_)
    rintro o s2 ⟨r2, rfl, hr2, hs2, H⟩
    show Wb g ad d mX0_countWays Q 85 [some (.ref (ad 85)), some (vi x1), some (vi x2), some (vi x3), some (vi x4)] [(vi r2)] s2 rc rs
    refine sb_istore_n (pc' := 86) rfl (L' := [some (.ref (ad 85)), some (vi x1), some (vi x2), some (vi r2), some (vi x4)]) rfl (by decide) dX0_countWays_85 ?_
    refine sb_iinc (pc' := 89) rfl rfl (L' := [some (.ref (ad 85)), some (vi x1), some (vi x2), some (vi r2), some (vi (x4 + 1))]) rfl (by decide) dX0_countWays_86 ?_
    refine sb_goto (tgt := 59) (by decide) dX0_countWays_89 ?_
    obtain ⟨o3, H⟩ := H
    exact (H hx1 hx2 hr2 o3 hs2)
theorem bX0_countFrom_0 {g : AG} {ad : Nat → Nat} {d : Nat} {Q : AO → SG → Prop} {rc rs : Nat} {σ : SG} {x1 x2 : Int}  (hx1 : iR x1) (hx2 : iR x2) (hS : SR σ) (H : (iR x1 → iR x2 → iR (bDiv x1 7) → iR 0 → SR σ → Wb g ad d mX0_countFrom Q 8 [some (.ref (ad 85)), some (vi x1), some (vi x2), some (vi (bDiv x1 7)), some (vi 0), none] [] σ rc rs)) : Wb g ad d mX0_countFrom Q 0 [some (.ref (ad 85)), some (vi x1), some (vi x2), none, none, none] [] σ rc rs := by
  refine sb_iload_n (pc' := 1) rfl rfl dX0_countFrom_0 ?_
  refine sb_bipush (pc' := 3) rfl (z := 7) (by decide) dX0_countFrom_1 ?_
  refine sb_idiv (pc' := 4) rfl (iR_lit rfl) (by decide) dX0_countFrom_3 ?_
  refine sb_istore_n (pc' := 5) rfl (L' := [some (.ref (ad 85)), some (vi x1), some (vi x2), some (vi (bDiv x1 7)), none, none]) rfl (by decide) dX0_countFrom_4 ?_
  refine sb_iconst (pc' := 6) rfl dX0_countFrom_5 ?_
  refine sb_istore (pc' := 8) rfl (L' := [some (.ref (ad 85)), some (vi x1), some (vi x2), some (vi (bDiv x1 7)), some (vi 0), none]) rfl (by decide) dX0_countFrom_6 ?_
  exact (H hx1 hx2 (iR_b _) (iR_lit rfl) hS)
theorem bX0_countFrom_8 {g : AG} {ad : Nat → Nat} {d : Nat} {Q : AO → SG → Prop} {rc rs : Nat} {σ : SG} {x1 x2 x3 x4 : Int}  (hx1 : iR x1) (hx2 : iR x2) (hx3 : iR x3) (hx4 : iR x4) (hS : SR σ) (H : (((sc σ 48 9) ≤ x4 → (SR σ → Q (.inl none) σ)) ∧ (¬ (sc σ 48 9) ≤ x4 → (0 ≤ x4 ∧ x4 < 186) ∧ ((¬ (bAnd x3 (ia σ 51 x4)) = 0 → iR (x4 + 1) ∧ (iR x1 → iR x2 → iR x3 → iR (x4 + 1) → SR σ → Wb g ad d mX0_countFrom Q 8 [some (.ref (ad 85)), some (vi x1), some (vi x2), some (vi x3), some (vi (x4 + 1)), none] [] σ rc rs)) ∧ ((bAnd x3 (ia σ 51 x4)) = 0 → Cl g ad d mX5_gap 0 0 [(.ref (ad 48)), (vi x4), (vi (bRem x1 7))] σ (Ki fun r3 s3 => ((x2 < r3 → iR (x4 + 1) ∧ (iR x1 → iR x2 → iR x3 → iR (x4 + 1) → SR s3 → Wb g ad d mX0_countFrom Q 8 [some (.ref (ad 85)), some (vi x1), some (vi x2), some (vi x3), some (vi (x4 + 1)), none] [] s3 rc rs)) ∧ (¬ x2 < r3 → (0 ≤ ((bOr x3 (ia s3 51 x4)) * 7) + (ia s3 50 x4) ∧ ((bOr x3 (ia s3 51 x4)) * 7) + (ia s3 50 x4) < 448) ∧ (0 ≤ x1 ∧ x1 < 448) ∧ Cl g ad d mJ9_min_7cf53 0 0 [(vi 1000000000), (vi ((ia s3 86 (((bOr x3 (ia s3 51 x4)) * 7) + (ia s3 50 x4))) + (ia s3 86 x1)))] s3 (Ki fun r7 s7 => iR (x4 + 1) ∧ (iR x1 → iR x2 → iR x3 → iR (x4 + 1) → SR (setI s7 86 (((bOr x3 (ia s3 51 x4)) * 7) + (ia s3 50 x4)) r7) → Wb g ad d mX0_countFrom Q 8 [some (.ref (ad 85)), some (vi x1), some (vi x2), some (vi x3), some (vi (x4 + 1)), none] [] (setI s7 86 (((bOr x3 (ia s3 51 x4)) * 7) + (ia s3 50 x4)) r7) rc rs)))))))))) : Wb g ad d mX0_countFrom Q 8 [some (.ref (ad 85)), some (vi x1), some (vi x2), some (vi x3), some (vi x4), none] [] σ rc rs := by
  refine sb_iload (pc' := 10) rfl rfl dX0_countFrom_8 ?_
  refine sb_aload_n (pc' := 11) rfl rfl dX0_countFrom_10 ?_
  refine sb_getC (pc' := 14) rfl fc_85_0 wd_611 dX0_countFrom_11 ?_
  refine sb_getIN (pc' := 17) rfl fi_48_9 wd_390 dX0_countFrom_14 ?_
  refine sb_icmp_ge (pc' := 20) (tgt := 112) rfl (by decide) hx4 (SR_sc hS _ _) dX0_countFrom_17 ?_ ?_
  · intro cc; have H := H.1 cc
    exact sb_vret rfl dX0_countFrom_112 (H hS)
  · intro cc; have H := H.2 cc
    refine sb_iload_n (pc' := 21) rfl rfl dX0_countFrom_20 ?_
    refine sb_aload_n (pc' := 22) rfl rfl dX0_countFrom_21 ?_
    refine sb_getC (pc' := 25) rfl fc_85_0 wd_611 dX0_countFrom_22 ?_
    refine sb_getCN (pc' := 28) rfl fc_48_2 wd_369 dX0_countFrom_25 ?_
    refine sb_iload (pc' := 30) rfl rfl dX0_countFrom_28 ?_
    obtain ⟨o1, H⟩ := H
    refine sb_iald (pc' := 31) rfl aI_51 o1.1 o1.2 dX0_countFrom_30 ?_
    refine sb_iand (pc' := 32) rfl dX0_countFrom_31 ?_
    refine sb_if_ne (pc' := 35) (tgt := 106) rfl (by decide) (iR_b _) dX0_countFrom_32 ?_ ?_
    · intro cc; have H := H.1 cc
      refine sb_iinc (pc' := 109) rfl rfl (L' := [some (.ref (ad 85)), some (vi x1), some (vi x2), some (vi x3), some (vi (x4 + 1)), none]) rfl (by decide) dX0_countFrom_106 ?_
      refine sb_goto (tgt := 8) (by decide) dX0_countFrom_109 ?_
      obtain ⟨o2, H⟩ := H
      exact (H hx1 hx2 hx3 o2 hS)
    · intro cc; have H := H.2 cc
      refine sb_aload_n (pc' := 36) rfl rfl dX0_countFrom_35 ?_
      refine sb_getC (pc' := 39) rfl fc_85_0 wd_611 dX0_countFrom_36 ?_
      refine sb_iload (pc' := 41) rfl rfl dX0_countFrom_39 ?_
      refine sb_iload_n (pc' := 42) rfl rfl dX0_countFrom_41 ?_
      refine sb_bipush (pc' := 44) rfl (z := 7) (by decide) dX0_countFrom_42 ?_
      refine sb_irem (pc' := 45) rfl (iR_lit rfl) (by decide) dX0_countFrom_44 ?_
      obtain ⟨d3, hd3, H⟩ := H
      refine sb_callVN (pc' := 48) rfl rfl (rc := rc) (rs := rs) (mc' := 0) (ms' := 0) (As := [(vi x4), (vi (bRem x1 7))]) (st := []) of_48 rfl rfl (Nat.le_of_ble_eq_true rfl) hd3 kX5_gap ⟨wd_859, wd_818, wd_22⟩ dX0_countFrom_45 (Eb.mono H ?_)
      rintro o s3 ⟨r3, rfl, hr3, hs3, H⟩
      show Wb g ad d mX0_countFrom Q 48 [some (.ref (ad 85)), some (vi x1), some (vi x2), some (vi x3), some (vi x4), none] [(vi r3)] s3 rc rs
      refine sb_iload_n (pc' := 49) rfl rfl dX0_countFrom_48 ?_
      refine sb_icmp_gt (pc' := 52) (tgt := 106) rfl (by decide) hr3 hx2 dX0_countFrom_49 ?_ ?_
      · intro cc; have H := H.1 cc
        refine sb_iinc (pc' := 109) rfl rfl (L' := [some (.ref (ad 85)), some (vi x1), some (vi x2), some (vi x3), some (vi (x4 + 1)), none]) rfl (by decide) dX0_countFrom_106 ?_
        refine sb_goto (tgt := 8) (by decide) dX0_countFrom_109 ?_
        obtain ⟨o4, H⟩ := H
        exact (H hx1 hx2 hx3 o4 hs3)
      · intro cc; have H := H.2 cc
        refine sb_iload_n (pc' := 53) rfl rfl dX0_countFrom_52 ?_
        refine sb_aload_n (pc' := 54) rfl rfl dX0_countFrom_53 ?_
        refine sb_getC (pc' := 57) rfl fc_85_0 wd_611 dX0_countFrom_54 ?_
        refine sb_getCN (pc' := 60) rfl fc_48_2 wd_369 dX0_countFrom_57 ?_
        refine sb_iload (pc' := 62) rfl rfl dX0_countFrom_60 ?_
        refine sb_iald (pc' := 63) rfl aI_51 o1.1 o1.2 dX0_countFrom_62 ?_
        refine sb_ior (pc' := 64) rfl dX0_countFrom_63 ?_
        refine sb_bipush (pc' := 66) rfl (z := 7) (by decide) dX0_countFrom_64 ?_
        refine sb_imul (pc' := 67) rfl dX0_countFrom_66 ?_
        refine sb_aload_n (pc' := 68) rfl rfl dX0_countFrom_67 ?_
        refine sb_getC (pc' := 71) rfl fc_85_0 wd_611 dX0_countFrom_68 ?_
        refine sb_getCN (pc' := 74) rfl fc_48_1 wd_365 dX0_countFrom_71 ?_
        refine sb_iload (pc' := 76) rfl rfl dX0_countFrom_74 ?_
        refine sb_iald (pc' := 77) rfl aI_50 o1.1 o1.2 dX0_countFrom_76 ?_
        refine sb_iadd (pc' := 78) rfl dX0_countFrom_77 ?_
        refine sb_istore (pc' := 80) rfl (L' := [some (.ref (ad 85)), some (vi x1), some (vi x2), some (vi x3), some (vi x4), some (vi (((bOr x3 (ia s3 51 x4)) * 7) + (ia s3 50 x4)))]) rfl (by decide) dX0_countFrom_78 ?_
        refine sb_aload_n (pc' := 81) rfl rfl dX0_countFrom_80 ?_
        refine sb_getC (pc' := 84) rfl fc_85_1 wd_612 dX0_countFrom_81 ?_
        refine sb_iload (pc' := 86) rfl rfl dX0_countFrom_84 ?_
        refine sb_ldc (pc' := 88) rfl (z := 1000000000) rfl wd_860 dX0_countFrom_86 ?_
        refine sb_aload_n (pc' := 89) rfl rfl dX0_countFrom_88 ?_
        refine sb_getC (pc' := 92) rfl fc_85_1 wd_612 dX0_countFrom_89 ?_
        refine sb_iload (pc' := 94) rfl rfl dX0_countFrom_92 ?_
        obtain ⟨o5, H⟩ := H
        refine sb_iald (pc' := 95) rfl aI_86 o5.1 o5.2 dX0_countFrom_94 ?_
        refine sb_aload_n (pc' := 96) rfl rfl dX0_countFrom_95 ?_
        refine sb_getC (pc' := 99) rfl fc_85_1 wd_612 dX0_countFrom_96 ?_
        refine sb_iload_n (pc' := 100) rfl rfl dX0_countFrom_99 ?_
        obtain ⟨o6, H⟩ := H
        refine sb_iald (pc' := 101) rfl aI_86 o6.1 o6.2 dX0_countFrom_100 ?_
        refine sb_iadd (pc' := 102) rfl dX0_countFrom_101 ?_
        obtain ⟨d7, hd7, H⟩ := H
        refine sb_callS (pc' := 105) rfl rfl (rc := rc) (rs := rs) (mc' := 0) (ms' := 0) (As := [(vi 1000000000), (vi ((ia s3 86 (((bOr x3 (ia s3 51 x4)) * 7) + (ia s3 50 x4))) + (ia s3 86 x1)))]) (st := [(vi (((bOr x3 (ia s3 51 x4)) * 7) + (ia s3 50 x4))), (.ref (ad 86))])  rfl rfl (Nat.le_of_ble_eq_true rfl) hd7 kJ9_min_7cf53 ⟨wd_861, wd_776⟩ dX0_countFrom_102 (Eb.mono H ?_)
        rintro o s7 ⟨r7, rfl, hr7, hs7, H⟩
        show Wb g ad d mX0_countFrom Q 105 [some (.ref (ad 85)), some (vi x1), some (vi x2), some (vi x3), some (vi x4), some (vi (((bOr x3 (ia s3 51 x4)) * 7) + (ia s3 50 x4)))] [(vi r7), (vi (((bOr x3 (ia s3 51 x4)) * 7) + (ia s3 50 x4))), (.ref (ad 86))] s7 rc rs
        refine sb_iast (pc' := 106) rfl aI_86 o5.1 o5.2  dX0_countFrom_105 ?_
        refine sb_iinc (pc' := 109) rfl rfl (L' := [some (.ref (ad 85)), some (vi x1), some (vi x2), some (vi x3), some (vi (x4 + 1)), some (vi (((bOr x3 (ia s3 51 x4)) * 7) + (ia s3 50 x4)))]) rfl (by decide) dX0_countFrom_106 ?_
        refine sb_goto (tgt := 8) (by decide) dX0_countFrom_109 ?_
        obtain ⟨o8, H⟩ := H
        refine Wb.forget [true, true, true, true, true, false] ?_
        exact (H hx1 hx2 hx3 o8 (SR_setI hs7 hr7))
theorem bX0_cheapestTelling_0 {g : AG} {ad : Nat → Nat} {d : Nat} {Q : AO → SG → Prop} {rc rs : Nat} {σ : SG} {x2 x3 x4 : Int} {c1 n1 : Nat} (hc1 : aI c1 n1) (hx2 : iR x2) (hx3 : iR x3) (hx4 : iR x4) (hS : SR σ) (H : Cl g ad d mX5_full 0 0 [(.ref (ad 48))] σ (Ki fun r1 s1 => Cl g ad d mJ7_fill_53178 0 0 [(.ref (ad 87)), (vi 1000000)] s1 (Kv fun s2 => (iR x2 → iR x3 → iR x4 → iR r1 → iR 0 → SR (setI s2 87 0 0) → Wb g ad d mX0_cheapestTelling Q 28 [some (.ref (ad 85)), some (.ref (ad c1)), some (vi x2), some (vi x3), some (vi x4), some (vi r1), some (vi 0), none] [] (setI s2 87 0 0) rc rs)))) : Wb g ad d mX0_cheapestTelling Q 0 [some (.ref (ad 85)), some (.ref (ad c1)), some (vi x2), some (vi x3), some (vi x4), none, none, none] [] σ rc rs := by
  refine sb_aload_n (pc' := 1) rfl rfl dX0_cheapestTelling_0 ?_
  refine sb_getC (pc' := 4) rfl fc_85_0 wd_611 dX0_cheapestTelling_1 ?_
  obtain ⟨d1, hd1, H⟩ := H
  refine sb_callVN (pc' := 7) rfl rfl (rc := rc) (rs := rs) (mc' := 0) (ms' := 0) (As := []) (st := []) of_48 rfl rfl (Nat.le_of_ble_eq_true rfl) hd1 kX5_full ⟨wd_853, wd_744, wd_8⟩ dX0_cheapestTelling_4 (Eb.mono H ?_)
  rintro o s1 ⟨r1, rfl, hr1, hs1, H⟩
  show Wb g ad d mX0_cheapestTelling Q 7 [some (.ref (ad 85)), some (.ref (ad c1)), some (vi x2), some (vi x3), some (vi x4), none, none, none] [(vi r1)] s1 rc rs
  refine sb_istore (pc' := 9) rfl (L' := [some (.ref (ad 85)), some (.ref (ad c1)), some (vi x2), some (vi x3), some (vi x4), some (vi r1), none, none]) rfl (by decide) dX0_cheapestTelling_7 ?_
  refine sb_aload_n (pc' := 10) rfl rfl dX0_cheapestTelling_9 ?_
  refine sb_getC (pc' := 13) rfl fc_85_2 wd_613 dX0_cheapestTelling_10 ?_
  refine sb_ldc (pc' := 15) rfl (z := 1000000) rfl wd_1469 dX0_cheapestTelling_13 ?_
  obtain ⟨d2, hd2, H⟩ := H
  refine sb_callS (pc' := 18) rfl rfl (rc := rc) (rs := rs) (mc' := 0) (ms' := 0) (As := [(.ref (ad 87)), (vi 1000000)]) (st := [])  rfl rfl (Nat.le_of_ble_eq_true rfl) hd2 kJ7_fill_53178 ⟨wd_854, wd_773⟩ dX0_cheapestTelling_15 (Eb.mono H ?_)
  rintro o s2 ⟨rfl, hs2, H⟩
  show Wb g ad d mX0_cheapestTelling Q 18 [some (.ref (ad 85)), some (.ref (ad c1)), some (vi x2), some (vi x3), some (vi x4), some (vi r1), none, none] [] s2 rc rs
  refine sb_aload_n (pc' := 19) rfl rfl dX0_cheapestTelling_18 ?_
  refine sb_getC (pc' := 22) rfl fc_85_2 wd_613 dX0_cheapestTelling_19 ?_
  refine sb_iconst (pc' := 23) rfl dX0_cheapestTelling_22 ?_
  refine sb_iconst (pc' := 24) rfl dX0_cheapestTelling_23 ?_
  refine sb_iast (pc' := 25) rfl aI_87 (by decide) (by decide)  dX0_cheapestTelling_24 ?_
  refine sb_iconst (pc' := 26) rfl dX0_cheapestTelling_25 ?_
  refine sb_istore (pc' := 28) rfl (L' := [some (.ref (ad 85)), some (.ref (ad c1)), some (vi x2), some (vi x3), some (vi x4), some (vi r1), some (vi 0), none]) rfl (by decide) dX0_cheapestTelling_26 ?_
  exact (H hx2 hx3 hx4 hr1 (iR_lit rfl) (SR_setI hs2 (iR_lit rfl)))
theorem bX0_cheapestTelling_28 {g : AG} {ad : Nat → Nat} {d : Nat} {Q : AO → SG → Prop} {rc rs : Nat} {σ : SG} {x2 x3 x4 x5 x6 : Int} {c1 n1 : Nat} (hc1 : aI c1 n1) (hx2 : iR x2) (hx3 : iR x3) (hx4 : iR x4) (hx5 : iR x5) (hx6 : iR x6) (hS : SR σ) (H : iR ((x5 * 7) * 19) ∧ ((((x5 * 7) * 19) ≤ x6 → (iR x2 → iR x3 → iR x4 → iR x5 → iR 1000000 → iR 0 → SR σ → Wb g ad d mX0_cheapestTelling Q 77 [some (.ref (ad 85)), some (.ref (ad c1)), some (vi x2), some (vi x3), some (vi x4), some (vi x5), some (vi 1000000), some (vi 0)] [] σ rc rs)) ∧ (¬ ((x5 * 7) * 19) ≤ x6 → (0 ≤ x6 ∧ x6 < 8512) ∧ ((1000000 ≤ (ia σ 87 x6) → iR (x6 + 1) ∧ (iR x2 → iR x3 → iR x4 → iR x5 → iR (x6 + 1) → SR σ → Wb g ad d mX0_cheapestTelling Q 28 [some (.ref (ad 85)), some (.ref (ad c1)), some (vi x2), some (vi x3), some (vi x4), some (vi x5), some (vi (x6 + 1)), none] [] σ rc rs)) ∧ (¬ 1000000 ≤ (ia σ 87 x6) → Cl g ad d mX0_tellFrom 0 0 [(.ref (ad 85)), (vi x6), (.ref (ad c1)), (vi x2), (vi x3), (vi x4)] σ (Kv fun s4 => iR (x6 + 1) ∧ (iR x2 → iR x3 → iR x4 → iR x5 → iR (x6 + 1) → SR s4 → Wb g ad d mX0_cheapestTelling Q 28 [some (.ref (ad 85)), some (.ref (ad c1)), some (vi x2), some (vi x3), some (vi x4), some (vi x5), some (vi (x6 + 1)), none] [] s4 rc rs))))))) : Wb g ad d mX0_cheapestTelling Q 28 [some (.ref (ad 85)), some (.ref (ad c1)), some (vi x2), some (vi x3), some (vi x4), some (vi x5), some (vi x6), none] [] σ rc rs := by
  refine sb_iload (pc' := 30) rfl rfl dX0_cheapestTelling_28 ?_
  refine sb_iload (pc' := 32) rfl rfl dX0_cheapestTelling_30 ?_
  refine sb_bipush (pc' := 34) rfl (z := 7) (by decide) dX0_cheapestTelling_32 ?_
  refine sb_imul (pc' := 35) rfl dX0_cheapestTelling_34 ?_
  refine sb_bipush (pc' := 37) rfl (z := 19) (by decide) dX0_cheapestTelling_35 ?_
  refine sb_imul (pc' := 38) rfl dX0_cheapestTelling_37 ?_
  obtain ⟨o1, H⟩ := H
  refine sb_icmp_ge (pc' := 41) (tgt := 70) rfl (by decide) hx6 o1 dX0_cheapestTelling_38 ?_ ?_
  · intro cc; have H := H.1 cc
    refine sb_ldc (pc' := 72) rfl (z := 1000000) rfl wd_1469 dX0_cheapestTelling_70 ?_
    refine sb_istore (pc' := 74) rfl (L' := [some (.ref (ad 85)), some (.ref (ad c1)), some (vi x2), some (vi x3), some (vi x4), some (vi x5), some (vi 1000000), none]) rfl (by decide) dX0_cheapestTelling_72 ?_
    refine sb_iconst (pc' := 75) rfl dX0_cheapestTelling_74 ?_
    refine sb_istore (pc' := 77) rfl (L' := [some (.ref (ad 85)), some (.ref (ad c1)), some (vi x2), some (vi x3), some (vi x4), some (vi x5), some (vi 1000000), some (vi 0)]) rfl (by decide) dX0_cheapestTelling_75 ?_
    exact (H hx2 hx3 hx4 hx5 (iR_lit rfl) (iR_lit rfl) hS)
  · intro cc; have H := H.2 cc
    refine sb_aload_n (pc' := 42) rfl rfl dX0_cheapestTelling_41 ?_
    refine sb_getC (pc' := 45) rfl fc_85_2 wd_613 dX0_cheapestTelling_42 ?_
    refine sb_iload (pc' := 47) rfl rfl dX0_cheapestTelling_45 ?_
    obtain ⟨o2, H⟩ := H
    refine sb_iald (pc' := 48) rfl aI_87 o2.1 o2.2 dX0_cheapestTelling_47 ?_
    refine sb_ldc (pc' := 50) rfl (z := 1000000) rfl wd_1469 dX0_cheapestTelling_48 ?_
    refine sb_icmp_ge (pc' := 53) (tgt := 64) rfl (by decide) (SR_ia hS _ _) (iR_lit rfl) dX0_cheapestTelling_50 ?_ ?_
    · intro cc; have H := H.1 cc
      refine sb_iinc (pc' := 67) rfl rfl (L' := [some (.ref (ad 85)), some (.ref (ad c1)), some (vi x2), some (vi x3), some (vi x4), some (vi x5), some (vi (x6 + 1)), none]) rfl (by decide) dX0_cheapestTelling_64 ?_
      refine sb_goto (tgt := 28) (by decide) dX0_cheapestTelling_67 ?_
      obtain ⟨o3, H⟩ := H
      exact (H hx2 hx3 hx4 hx5 o3 hS)
    · intro cc; have H := H.2 cc
      refine sb_aload_n (pc' := 54) rfl rfl dX0_cheapestTelling_53 ?_
      refine sb_iload (pc' := 56) rfl rfl dX0_cheapestTelling_54 ?_
      refine sb_aload_n (pc' := 57) rfl rfl dX0_cheapestTelling_56 ?_
      refine sb_iload_n (pc' := 58) rfl rfl dX0_cheapestTelling_57 ?_
      refine sb_iload_n (pc' := 59) rfl rfl dX0_cheapestTelling_58 ?_
      refine sb_iload (pc' := 61) rfl rfl dX0_cheapestTelling_59 ?_
      obtain ⟨d4, hd4, H⟩ := H
      refine sb_callV (pc' := 64) rfl rfl (rc := rc) (rs := rs) (mc' := 0) (ms' := 0) (As := [(vi x6), (.ref (ad c1)), (vi x2), (vi x3), (vi x4)]) (st := []) of_85 rfl rfl (Nat.le_of_ble_eq_true rfl) hd4 kX0_tellFrom ⟨wd_1470, wd_1472, wd_90⟩ dX0_cheapestTelling_61 (Eb.mono H ?_)
      rintro o s4 ⟨rfl, hs4, H⟩
      show Wb g ad d mX0_cheapestTelling Q 64 [some (.ref (ad 85)), some (.ref (ad c1)), some (vi x2), some (vi x3), some (vi x4), some (vi x5), some (vi x6), none] [] s4 rc rs
      refine sb_iinc (pc' := 67) rfl rfl (L' := [some (.ref (ad 85)), some (.ref (ad c1)), some (vi x2), some (vi x3), some (vi x4), some (vi x5), some (vi (x6 + 1)), none]) rfl (by decide) dX0_cheapestTelling_64 ?_
      refine sb_goto (tgt := 28) (by decide) dX0_cheapestTelling_67 ?_
      obtain ⟨o5, H⟩ := H
      exact (H hx2 hx3 hx4 hx5 o5 hs4)
theorem bX0_cheapestTelling_77 {g : AG} {ad : Nat → Nat} {d : Nat} {Q : AO → SG → Prop} {rc rs : Nat} {σ : SG} {x2 x3 x4 x5 x6 x7 : Int} {c1 n1 : Nat} (hc1 : aI c1 n1) (hx2 : iR x2) (hx3 : iR x3) (hx4 : iR x4) (hx5 : iR x5) (hx6 : iR x6) (hx7 : iR x7) (hS : SR σ) (H : ((7 ≤ x7 → ((¬ x6 = 1000000 → Cl g ad d mX0_wordAhead 0 0 [(.ref (ad c1)), (vi x2)] σ (Ki fun r1 s1 => Cl g ad d mX5_ending 0 0 [(.ref (ad 48)), (vi r1)] s1 (Ki fun r2 s2 => iR (x6 + r2) ∧ (iR (x6 + r2) → SR s2 → Q (.inl (some (vi (x6 + r2)))) s2)))) ∧ (x6 = 1000000 → (iR ((-1)) → SR σ → Q (.inl (some (vi ((-1))))) σ)))) ∧ (¬ 7 ≤ x7 → (0 ≤ (((x5 * 7) + x7) * 19) + x2 ∧ (((x5 * 7) + x7) * 19) + x2 < 8512) ∧ Cl g ad d mJ9_min_7cf53 0 0 [(vi x6), (vi (ia σ 87 ((((x5 * 7) + x7) * 19) + x2)))] σ (Ki fun r5 s5 => iR (x7 + 1) ∧ (iR x2 → iR x3 → iR x4 → iR x5 → iR r5 → iR (x7 + 1) → SR s5 → Wb g ad d mX0_cheapestTelling Q 77 [some (.ref (ad 85)), some (.ref (ad c1)), some (vi x2), some (vi x3), some (vi x4), some (vi x5), some (vi r5), some (vi (x7 + 1))] [] s5 rc rs))))) : Wb g ad d mX0_cheapestTelling Q 77 [some (.ref (ad 85)), some (.ref (ad c1)), some (vi x2), some (vi x3), some (vi x4), some (vi x5), some (vi x6), some (vi x7)] [] σ rc rs := by
  refine sb_iload (pc' := 79) rfl rfl dX0_cheapestTelling_77 ?_
  refine sb_bipush (pc' := 81) rfl (z := 7) (by decide) dX0_cheapestTelling_79 ?_
  refine sb_icmp_ge (pc' := 84) (tgt := 115) rfl (by decide) hx7 (iR_lit rfl) dX0_cheapestTelling_81 ?_ ?_
  · intro cc; have H := H.1 cc
    refine sb_iload (pc' := 117) rfl rfl dX0_cheapestTelling_115 ?_
    refine sb_ldc (pc' := 119) rfl (z := 1000000) rfl wd_1469 dX0_cheapestTelling_117 ?_
    refine sb_icmp_ne (pc' := 122) (tgt := 126) rfl (by decide) hx6 (iR_lit rfl) dX0_cheapestTelling_119 ?_ ?_
    · intro cc; have H := H.1 cc
      refine sb_iload (pc' := 128) rfl rfl dX0_cheapestTelling_126 ?_
      refine sb_aload_n (pc' := 129) rfl rfl dX0_cheapestTelling_128 ?_
      refine sb_getC (pc' := 132) rfl fc_85_0 wd_611 dX0_cheapestTelling_129 ?_
      refine sb_aload_n (pc' := 133) rfl rfl dX0_cheapestTelling_132 ?_
      refine sb_iload_n (pc' := 134) rfl rfl dX0_cheapestTelling_133 ?_
      obtain ⟨d1, hd1, H⟩ := H
      refine sb_callS (pc' := 137) rfl rfl (rc := rc) (rs := rs) (mc' := 0) (ms' := 0) (As := [(.ref (ad c1)), (vi x2)]) (st := [(.ref (ad 48)), (vi x6)])  rfl rfl (Nat.le_of_ble_eq_true rfl) hd1 kX0_wordAhead ⟨wd_1474, wd_1475⟩ dX0_cheapestTelling_134 (Eb.mono H ?_)
      rintro o s1 ⟨r1, rfl, hr1, hs1, H⟩
      show Wb g ad d mX0_cheapestTelling Q 137 [some (.ref (ad 85)), some (.ref (ad c1)), some (vi x2), some (vi x3), some (vi x4), some (vi x5), some (vi x6), some (vi x7)] [(vi r1), (.ref (ad 48)), (vi x6)] s1 rc rs
      obtain ⟨d2, hd2, H⟩ := H
      refine sb_callVN (pc' := 140) rfl rfl (rc := rc) (rs := rs) (mc' := 0) (ms' := 0) (As := [(vi r1)]) (st := [(vi x6)]) of_48 rfl rfl (Nat.le_of_ble_eq_true rfl) hd2 kX5_ending ⟨wd_1483, wd_801, wd_18⟩ dX0_cheapestTelling_137 (Eb.mono H ?_)
      rintro o s2 ⟨r2, rfl, hr2, hs2, H⟩
      show Wb g ad d mX0_cheapestTelling Q 140 [some (.ref (ad 85)), some (.ref (ad c1)), some (vi x2), some (vi x3), some (vi x4), some (vi x5), some (vi x6), some (vi x7)] [(vi r2), (vi x6)] s2 rc rs
      refine sb_iadd (pc' := 141) rfl dX0_cheapestTelling_140 ?_
      obtain ⟨o3, H⟩ := H
      exact sb_iret rfl rfl dX0_cheapestTelling_141 (H o3 hs2)
    · intro cc; have H := H.2 cc
      refine sb_iconst (pc' := 123) rfl dX0_cheapestTelling_122 ?_
      refine sb_goto (tgt := 141) (by decide) dX0_cheapestTelling_123 ?_
      exact sb_iret rfl rfl dX0_cheapestTelling_141 (H (iR_lit rfl) hS)
  · intro cc; have H := H.2 cc
    refine sb_iload (pc' := 86) rfl rfl dX0_cheapestTelling_84 ?_
    refine sb_aload_n (pc' := 87) rfl rfl dX0_cheapestTelling_86 ?_
    refine sb_getC (pc' := 90) rfl fc_85_2 wd_613 dX0_cheapestTelling_87 ?_
    refine sb_iload (pc' := 92) rfl rfl dX0_cheapestTelling_90 ?_
    refine sb_bipush (pc' := 94) rfl (z := 7) (by decide) dX0_cheapestTelling_92 ?_
    refine sb_imul (pc' := 95) rfl dX0_cheapestTelling_94 ?_
    refine sb_iload (pc' := 97) rfl rfl dX0_cheapestTelling_95 ?_
    refine sb_iadd (pc' := 98) rfl dX0_cheapestTelling_97 ?_
    refine sb_bipush (pc' := 100) rfl (z := 19) (by decide) dX0_cheapestTelling_98 ?_
    refine sb_imul (pc' := 101) rfl dX0_cheapestTelling_100 ?_
    refine sb_iload_n (pc' := 102) rfl rfl dX0_cheapestTelling_101 ?_
    refine sb_iadd (pc' := 103) rfl dX0_cheapestTelling_102 ?_
    obtain ⟨o4, H⟩ := H
    refine sb_iald (pc' := 104) rfl aI_87 o4.1 o4.2 dX0_cheapestTelling_103 ?_
    obtain ⟨d5, hd5, H⟩ := H
    refine sb_callS (pc' := 107) rfl rfl (rc := rc) (rs := rs) (mc' := 0) (ms' := 0) (As := [(vi x6), (vi (ia σ 87 ((((x5 * 7) + x7) * 19) + x2)))]) (st := [])  rfl rfl (Nat.le_of_ble_eq_true rfl) hd5 kJ9_min_7cf53 ⟨wd_861, wd_776⟩ dX0_cheapestTelling_104 (Eb.mono H ?_)
    rintro o s5 ⟨r5, rfl, hr5, hs5, H⟩
    show Wb g ad d mX0_cheapestTelling Q 107 [some (.ref (ad 85)), some (.ref (ad c1)), some (vi x2), some (vi x3), some (vi x4), some (vi x5), some (vi x6), some (vi x7)] [(vi r5)] s5 rc rs
    refine sb_istore (pc' := 109) rfl (L' := [some (.ref (ad 85)), some (.ref (ad c1)), some (vi x2), some (vi x3), some (vi x4), some (vi x5), some (vi r5), some (vi x7)]) rfl (by decide) dX0_cheapestTelling_107 ?_
    refine sb_iinc (pc' := 112) rfl rfl (L' := [some (.ref (ad 85)), some (.ref (ad c1)), some (vi x2), some (vi x3), some (vi x4), some (vi x5), some (vi r5), some (vi (x7 + 1))]) rfl (by decide) dX0_cheapestTelling_109 ?_
    refine sb_goto (tgt := 77) (by decide) dX0_cheapestTelling_112 ?_
    obtain ⟨o6, H⟩ := H
    exact (H hx2 hx3 hx4 hx5 hr5 o6 hs5)
theorem bX0_tellFrom_0 {g : AG} {ad : Nat → Nat} {d : Nat} {Q : AO → SG → Prop} {rc rs : Nat} {σ : SG} {x1 x3 x4 x5 : Int} {c2 n2 : Nat} (hc2 : aI c2 n2) (hx1 : iR x1) (hx3 : iR x3) (hx4 : iR x4) (hx5 : iR x5) (hS : SR σ) (H : Cl g ad d mX0_wordAhead 0 0 [(.ref (ad c2)), (vi (bRem x1 19))] σ (Ki fun r1 s1 => (iR x1 → iR x3 → iR x4 → iR x5 → iR (bRem x1 19) → iR (bRem (bDiv x1 19) 7) → iR (bDiv x1 133) → iR r1 → iR 0 → SR s1 → Wb g ad d mX0_tellFrom Q 33 [some (.ref (ad 85)), some (vi x1), some (.ref (ad c2)), some (vi x3), some (vi x4), some (vi x5), some (vi (bRem x1 19)), some (vi (bRem (bDiv x1 19) 7)), some (vi (bDiv x1 133)), some (vi r1), some (vi 0), none, none, none] [] s1 rc rs))) : Wb g ad d mX0_tellFrom Q 0 [some (.ref (ad 85)), some (vi x1), some (.ref (ad c2)), some (vi x3), some (vi x4), some (vi x5), none, none, none, none, none, none, none, none] [] σ rc rs := by
  refine sb_iload_n (pc' := 1) rfl rfl dX0_tellFrom_0 ?_
  refine sb_bipush (pc' := 3) rfl (z := 19) (by decide) dX0_tellFrom_1 ?_
  refine sb_irem (pc' := 4) rfl (iR_lit rfl) (by decide) dX0_tellFrom_3 ?_
  refine sb_istore (pc' := 6) rfl (L' := [some (.ref (ad 85)), some (vi x1), some (.ref (ad c2)), some (vi x3), some (vi x4), some (vi x5), some (vi (bRem x1 19)), none, none, none, none, none, none, none]) rfl (by decide) dX0_tellFrom_4 ?_
  refine sb_iload_n (pc' := 7) rfl rfl dX0_tellFrom_6 ?_
  refine sb_bipush (pc' := 9) rfl (z := 19) (by decide) dX0_tellFrom_7 ?_
  refine sb_idiv (pc' := 10) rfl (iR_lit rfl) (by decide) dX0_tellFrom_9 ?_
  refine sb_bipush (pc' := 12) rfl (z := 7) (by decide) dX0_tellFrom_10 ?_
  refine sb_irem (pc' := 13) rfl (iR_lit rfl) (by decide) dX0_tellFrom_12 ?_
  refine sb_istore (pc' := 15) rfl (L' := [some (.ref (ad 85)), some (vi x1), some (.ref (ad c2)), some (vi x3), some (vi x4), some (vi x5), some (vi (bRem x1 19)), some (vi (bRem (bDiv x1 19) 7)), none, none, none, none, none, none]) rfl (by decide) dX0_tellFrom_13 ?_
  refine sb_iload_n (pc' := 16) rfl rfl dX0_tellFrom_15 ?_
  refine sb_sipush (pc' := 19) rfl (z := 133) (by decide) dX0_tellFrom_16 ?_
  refine sb_idiv (pc' := 20) rfl (iR_lit rfl) (by decide) dX0_tellFrom_19 ?_
  refine sb_istore (pc' := 22) rfl (L' := [some (.ref (ad 85)), some (vi x1), some (.ref (ad c2)), some (vi x3), some (vi x4), some (vi x5), some (vi (bRem x1 19)), some (vi (bRem (bDiv x1 19) 7)), some (vi (bDiv x1 133)), none, none, none, none, none]) rfl (by decide) dX0_tellFrom_20 ?_
  refine sb_aload_n (pc' := 23) rfl rfl dX0_tellFrom_22 ?_
  refine sb_iload (pc' := 25) rfl rfl dX0_tellFrom_23 ?_
  obtain ⟨d1, hd1, H⟩ := H
  refine sb_callS (pc' := 28) rfl rfl (rc := rc) (rs := rs) (mc' := 0) (ms' := 0) (As := [(.ref (ad c2)), (vi (bRem x1 19))]) (st := [])  rfl rfl (Nat.le_of_ble_eq_true rfl) hd1 kX0_wordAhead ⟨wd_1474, wd_1475⟩ dX0_tellFrom_25 (Eb.mono H ?_)
  rintro o s1 ⟨r1, rfl, hr1, hs1, H⟩
  show Wb g ad d mX0_tellFrom Q 28 [some (.ref (ad 85)), some (vi x1), some (.ref (ad c2)), some (vi x3), some (vi x4), some (vi x5), some (vi (bRem x1 19)), some (vi (bRem (bDiv x1 19) 7)), some (vi (bDiv x1 133)), none, none, none, none, none] [(vi r1)] s1 rc rs
  refine sb_istore (pc' := 30) rfl (L' := [some (.ref (ad 85)), some (vi x1), some (.ref (ad c2)), some (vi x3), some (vi x4), some (vi x5), some (vi (bRem x1 19)), some (vi (bRem (bDiv x1 19) 7)), some (vi (bDiv x1 133)), some (vi r1), none, none, none, none]) rfl (by decide) dX0_tellFrom_28 ?_
  refine sb_iconst (pc' := 31) rfl dX0_tellFrom_30 ?_
  refine sb_istore (pc' := 33) rfl (L' := [some (.ref (ad 85)), some (vi x1), some (.ref (ad c2)), some (vi x3), some (vi x4), some (vi x5), some (vi (bRem x1 19)), some (vi (bRem (bDiv x1 19) 7)), some (vi (bDiv x1 133)), some (vi r1), some (vi 0), none, none, none]) rfl (by decide) dX0_tellFrom_31 ?_
  exact (H hx1 hx3 hx4 hx5 (iR_b _) (iR_b _) (iR_b _) hr1 (iR_lit rfl) hs1)
theorem bX0_tellFrom_33 {g : AG} {ad : Nat → Nat} {d : Nat} {Q : AO → SG → Prop} {rc rs : Nat} {σ : SG} {x1 x3 x4 x5 x6 x7 x8 x9 x10 : Int} {c2 n2 : Nat} (hc2 : aI c2 n2) (hx1 : iR x1) (hx3 : iR x3) (hx4 : iR x4) (hx5 : iR x5) (hx6 : iR x6) (hx7 : iR x7) (hx8 : iR x8) (hx9 : iR x9) (hx10 : iR x10) (hS : SR σ) (H : (((sc σ 48 9) ≤ x10 → (SR σ → Q (.inl none) σ)) ∧ (¬ (sc σ 48 9) ≤ x10 → Cl g ad d mX5_gap 0 0 [(.ref (ad 48)), (vi x10), (vi x7)] σ (Ki fun r1 s1 => (0 ≤ x10 ∧ x10 < 186) ∧ ((¬ (bAnd x8 (ia s1 51 x10)) = 0 → (iR x1 → iR x3 → iR x4 → iR x5 → iR x6 → iR x7 → iR x8 → iR x9 → iR x10 → iR r1 → SR s1 → Wb g ad d mX0_tellFrom Q 185 [some (.ref (ad 85)), some (vi x1), some (.ref (ad c2)), some (vi x3), some (vi x4), some (vi x5), some (vi x6), some (vi x7), some (vi x8), some (vi x9), some (vi x10), some (vi r1), none, none] [] s1 rc rs)) ∧ ((bAnd x8 (ia s1 51 x10)) = 0 → ((x5 < r1 → (iR x1 → iR x3 → iR x4 → iR x5 → iR x6 → iR x7 → iR x8 → iR x9 → iR x10 → iR r1 → SR s1 → Wb g ad d mX0_tellFrom Q 185 [some (.ref (ad 85)), some (vi x1), some (.ref (ad c2)), some (vi x3), some (vi x4), some (vi x5), some (vi x6), some (vi x7), some (vi x8), some (vi x9), some (vi x10), some (vi r1), none, none] [] s1 rc rs)) ∧ (¬ x5 < r1 → Cl g ad d mX0_tells 0 0 [(.ref (ad 85)), (vi x10), (.ref (ad c2)), (vi x6), (vi x3)] s1 (Ki fun r3 s3 => ((r3 = 0 → (iR x1 → iR x3 → iR x4 → iR x5 → iR x6 → iR x7 → iR x8 → iR x9 → iR x10 → iR r1 → SR s3 → Wb g ad d mX0_tellFrom Q 185 [some (.ref (ad 85)), some (vi x1), some (.ref (ad c2)), some (vi x3), some (vi x4), some (vi x5), some (vi x6), some (vi x7), some (vi x8), some (vi x9), some (vi x10), some (vi r1), none, none] [] s3 rc rs)) ∧ (¬ r3 = 0 → (0 ≤ (((((bOr x8 (ia s3 51 x10)) * 7) + (ia s3 50 x10)) * 19) + x6) + (ia s3 54 x10) ∧ (((((bOr x8 (ia s3 51 x10)) * 7) + (ia s3 50 x10)) * 19) + x6) + (ia s3 54 x10) < 8512) ∧ (0 ≤ x1 ∧ x1 < 8512) ∧ Cl g ad d mX5_standing 0 0 [(.ref (ad 48)), (vi x10), (vi x9)] s3 (Ki fun r6 s6 => Cl g ad d mJ9_min_7cf53 0 0 [(vi (ia s3 87 ((((((bOr x8 (ia s3 51 x10)) * 7) + (ia s3 50 x10)) * 19) + x6) + (ia s3 54 x10)))), (vi (((ia s3 87 x1) + r6) + (x4 * r1)))] s6 (Ki fun r7 s7 => (iR x1 → iR x3 → iR x4 → iR x5 → iR x6 → iR x7 → iR x8 → iR x9 → iR x10 → iR r1 → SR (setI s7 87 ((((((bOr x8 (ia s3 51 x10)) * 7) + (ia s3 50 x10)) * 19) + x6) + (ia s3 54 x10)) r7) → Wb g ad d mX0_tellFrom Q 185 [some (.ref (ad 85)), some (vi x1), some (.ref (ad c2)), some (vi x3), some (vi x4), some (vi x5), some (vi x6), some (vi x7), some (vi x8), some (vi x9), some (vi x10), some (vi r1), none, none] [] (setI s7 87 ((((((bOr x8 (ia s3 51 x10)) * 7) + (ia s3 50 x10)) * 19) + x6) + (ia s3 54 x10)) r7) rc rs)))))))))))))) : Wb g ad d mX0_tellFrom Q 33 [some (.ref (ad 85)), some (vi x1), some (.ref (ad c2)), some (vi x3), some (vi x4), some (vi x5), some (vi x6), some (vi x7), some (vi x8), some (vi x9), some (vi x10), none, none, none] [] σ rc rs := by
  refine sb_iload (pc' := 35) rfl rfl dX0_tellFrom_33 ?_
  refine sb_aload_n (pc' := 36) rfl rfl dX0_tellFrom_35 ?_
  refine sb_getC (pc' := 39) rfl fc_85_0 wd_611 dX0_tellFrom_36 ?_
  refine sb_getIN (pc' := 42) rfl fi_48_9 wd_390 dX0_tellFrom_39 ?_
  refine sb_icmp_ge (pc' := 45) (tgt := 191) rfl (by decide) hx10 (SR_sc hS _ _) dX0_tellFrom_42 ?_ ?_
  · intro cc; have H := H.1 cc
    exact sb_vret rfl dX0_tellFrom_191 (H hS)
  · intro cc; have H := H.2 cc
    refine sb_aload_n (pc' := 46) rfl rfl dX0_tellFrom_45 ?_
    refine sb_getC (pc' := 49) rfl fc_85_0 wd_611 dX0_tellFrom_46 ?_
    refine sb_iload (pc' := 51) rfl rfl dX0_tellFrom_49 ?_
    refine sb_iload (pc' := 53) rfl rfl dX0_tellFrom_51 ?_
    obtain ⟨d1, hd1, H⟩ := H
    refine sb_callVN (pc' := 56) rfl rfl (rc := rc) (rs := rs) (mc' := 0) (ms' := 0) (As := [(vi x10), (vi x7)]) (st := []) of_48 rfl rfl (Nat.le_of_ble_eq_true rfl) hd1 kX5_gap ⟨wd_859, wd_818, wd_22⟩ dX0_tellFrom_53 (Eb.mono H ?_)
    rintro o s1 ⟨r1, rfl, hr1, hs1, H⟩
    show Wb g ad d mX0_tellFrom Q 56 [some (.ref (ad 85)), some (vi x1), some (.ref (ad c2)), some (vi x3), some (vi x4), some (vi x5), some (vi x6), some (vi x7), some (vi x8), some (vi x9), some (vi x10), none, none, none] [(vi r1)] s1 rc rs
    refine sb_istore (pc' := 58) rfl (L' := [some (.ref (ad 85)), some (vi x1), some (.ref (ad c2)), some (vi x3), some (vi x4), some (vi x5), some (vi x6), some (vi x7), some (vi x8), some (vi x9), some (vi x10), some (vi r1), none, none]) rfl (by decide) dX0_tellFrom_56 ?_
    refine sb_iload (pc' := 60) rfl rfl dX0_tellFrom_58 ?_
    refine sb_aload_n (pc' := 61) rfl rfl dX0_tellFrom_60 ?_
    refine sb_getC (pc' := 64) rfl fc_85_0 wd_611 dX0_tellFrom_61 ?_
    refine sb_getCN (pc' := 67) rfl fc_48_2 wd_369 dX0_tellFrom_64 ?_
    refine sb_iload (pc' := 69) rfl rfl dX0_tellFrom_67 ?_
    obtain ⟨o2, H⟩ := H
    refine sb_iald (pc' := 70) rfl aI_51 o2.1 o2.2 dX0_tellFrom_69 ?_
    refine sb_iand (pc' := 71) rfl dX0_tellFrom_70 ?_
    refine sb_if_ne (pc' := 74) (tgt := 185) rfl (by decide) (iR_b _) dX0_tellFrom_71 ?_ ?_
    · intro cc; have H := H.1 cc
      exact (H hx1 hx3 hx4 hx5 hx6 hx7 hx8 hx9 hx10 hr1 hs1)
    · intro cc; have H := H.2 cc
      refine sb_iload (pc' := 76) rfl rfl dX0_tellFrom_74 ?_
      refine sb_iload (pc' := 78) rfl rfl dX0_tellFrom_76 ?_
      refine sb_icmp_gt (pc' := 81) (tgt := 185) rfl (by decide) hr1 hx5 dX0_tellFrom_78 ?_ ?_
      · intro cc; have H := H.1 cc
        exact (H hx1 hx3 hx4 hx5 hx6 hx7 hx8 hx9 hx10 hr1 hs1)
      · intro cc; have H := H.2 cc
        refine sb_aload_n (pc' := 82) rfl rfl dX0_tellFrom_81 ?_
        refine sb_iload (pc' := 84) rfl rfl dX0_tellFrom_82 ?_
        refine sb_aload_n (pc' := 85) rfl rfl dX0_tellFrom_84 ?_
        refine sb_iload (pc' := 87) rfl rfl dX0_tellFrom_85 ?_
        refine sb_iload_n (pc' := 88) rfl rfl dX0_tellFrom_87 ?_
        obtain ⟨d3, hd3, H⟩ := H
        refine sb_callV (pc' := 91) rfl rfl (rc := rc) (rs := rs) (mc' := 0) (ms' := 0) (As := [(vi x10), (.ref (ad c2)), (vi x6), (vi x3)]) (st := []) of_85 rfl rfl (Nat.le_of_ble_eq_true rfl) hd3 kX0_tells ⟨wd_1477, wd_1479, wd_91⟩ dX0_tellFrom_88 (Eb.mono H ?_)
        rintro o s3 ⟨r3, rfl, hr3, hs3, H⟩
        show Wb g ad d mX0_tellFrom Q 91 [some (.ref (ad 85)), some (vi x1), some (.ref (ad c2)), some (vi x3), some (vi x4), some (vi x5), some (vi x6), some (vi x7), some (vi x8), some (vi x9), some (vi x10), some (vi r1), none, none] [(vi r3)] s3 rc rs
        refine sb_if_eq (pc' := 94) (tgt := 185) rfl (by decide) hr3 dX0_tellFrom_91 ?_ ?_
        · intro cc; have H := H.1 cc
          exact (H hx1 hx3 hx4 hx5 hx6 hx7 hx8 hx9 hx10 hr1 hs3)
        · intro cc; have H := H.2 cc
          refine sb_iload (pc' := 96) rfl rfl dX0_tellFrom_94 ?_
          refine sb_aload_n (pc' := 97) rfl rfl dX0_tellFrom_96 ?_
          refine sb_getC (pc' := 100) rfl fc_85_0 wd_611 dX0_tellFrom_97 ?_
          refine sb_getCN (pc' := 103) rfl fc_48_2 wd_369 dX0_tellFrom_100 ?_
          refine sb_iload (pc' := 105) rfl rfl dX0_tellFrom_103 ?_
          refine sb_iald (pc' := 106) rfl aI_51 o2.1 o2.2 dX0_tellFrom_105 ?_
          refine sb_ior (pc' := 107) rfl dX0_tellFrom_106 ?_
          refine sb_bipush (pc' := 109) rfl (z := 7) (by decide) dX0_tellFrom_107 ?_
          refine sb_imul (pc' := 110) rfl dX0_tellFrom_109 ?_
          refine sb_aload_n (pc' := 111) rfl rfl dX0_tellFrom_110 ?_
          refine sb_getC (pc' := 114) rfl fc_85_0 wd_611 dX0_tellFrom_111 ?_
          refine sb_getCN (pc' := 117) rfl fc_48_1 wd_365 dX0_tellFrom_114 ?_
          refine sb_iload (pc' := 119) rfl rfl dX0_tellFrom_117 ?_
          refine sb_iald (pc' := 120) rfl aI_50 o2.1 o2.2 dX0_tellFrom_119 ?_
          refine sb_iadd (pc' := 121) rfl dX0_tellFrom_120 ?_
          refine sb_istore (pc' := 123) rfl (L' := [some (.ref (ad 85)), some (vi x1), some (.ref (ad c2)), some (vi x3), some (vi x4), some (vi x5), some (vi x6), some (vi x7), some (vi x8), some (vi x9), some (vi x10), some (vi r1), some (vi (((bOr x8 (ia s3 51 x10)) * 7) + (ia s3 50 x10))), none]) rfl (by decide) dX0_tellFrom_121 ?_
          refine sb_iload (pc' := 125) rfl rfl dX0_tellFrom_123 ?_
          refine sb_bipush (pc' := 127) rfl (z := 19) (by decide) dX0_tellFrom_125 ?_
          refine sb_imul (pc' := 128) rfl dX0_tellFrom_127 ?_
          refine sb_iload (pc' := 130) rfl rfl dX0_tellFrom_128 ?_
          refine sb_iadd (pc' := 131) rfl dX0_tellFrom_130 ?_
          refine sb_aload_n (pc' := 132) rfl rfl dX0_tellFrom_131 ?_
          refine sb_getC (pc' := 135) rfl fc_85_0 wd_611 dX0_tellFrom_132 ?_
          refine sb_getCN (pc' := 138) rfl fc_48_5 wd_381 dX0_tellFrom_135 ?_
          refine sb_iload (pc' := 140) rfl rfl dX0_tellFrom_138 ?_
          refine sb_iald (pc' := 141) rfl aI_54 o2.1 o2.2 dX0_tellFrom_140 ?_
          refine sb_iadd (pc' := 142) rfl dX0_tellFrom_141 ?_
          refine sb_istore (pc' := 144) rfl (L' := [some (.ref (ad 85)), some (vi x1), some (.ref (ad c2)), some (vi x3), some (vi x4), some (vi x5), some (vi x6), some (vi x7), some (vi x8), some (vi x9), some (vi x10), some (vi r1), some (vi (((bOr x8 (ia s3 51 x10)) * 7) + (ia s3 50 x10))), some (vi ((((((bOr x8 (ia s3 51 x10)) * 7) + (ia s3 50 x10)) * 19) + x6) + (ia s3 54 x10)))]) rfl (by decide) dX0_tellFrom_142 ?_
          refine sb_aload_n (pc' := 145) rfl rfl dX0_tellFrom_144 ?_
          refine sb_getC (pc' := 148) rfl fc_85_2 wd_613 dX0_tellFrom_145 ?_
          refine sb_iload (pc' := 150) rfl rfl dX0_tellFrom_148 ?_
          refine sb_aload_n (pc' := 151) rfl rfl dX0_tellFrom_150 ?_
          refine sb_getC (pc' := 154) rfl fc_85_2 wd_613 dX0_tellFrom_151 ?_
          refine sb_iload (pc' := 156) rfl rfl dX0_tellFrom_154 ?_
          obtain ⟨o4, H⟩ := H
          refine sb_iald (pc' := 157) rfl aI_87 o4.1 o4.2 dX0_tellFrom_156 ?_
          refine sb_aload_n (pc' := 158) rfl rfl dX0_tellFrom_157 ?_
          refine sb_getC (pc' := 161) rfl fc_85_2 wd_613 dX0_tellFrom_158 ?_
          refine sb_iload_n (pc' := 162) rfl rfl dX0_tellFrom_161 ?_
          obtain ⟨o5, H⟩ := H
          refine sb_iald (pc' := 163) rfl aI_87 o5.1 o5.2 dX0_tellFrom_162 ?_
          refine sb_aload_n (pc' := 164) rfl rfl dX0_tellFrom_163 ?_
          refine sb_getC (pc' := 167) rfl fc_85_0 wd_611 dX0_tellFrom_164 ?_
          refine sb_iload (pc' := 169) rfl rfl dX0_tellFrom_167 ?_
          refine sb_iload (pc' := 171) rfl rfl dX0_tellFrom_169 ?_
          obtain ⟨d6, hd6, H⟩ := H
          refine sb_callVN (pc' := 174) rfl rfl (rc := rc) (rs := rs) (mc' := 0) (ms' := 0) (As := [(vi x10), (vi x9)]) (st := [(vi (ia s3 87 x1)), (vi (ia s3 87 ((((((bOr x8 (ia s3 51 x10)) * 7) + (ia s3 50 x10)) * 19) + x6) + (ia s3 54 x10)))), (vi ((((((bOr x8 (ia s3 51 x10)) * 7) + (ia s3 50 x10)) * 19) + x6) + (ia s3 54 x10))), (.ref (ad 87))]) of_48 rfl rfl (Nat.le_of_ble_eq_true rfl) hd6 kX5_standing ⟨wd_1482, wd_829, wd_24⟩ dX0_tellFrom_171 (Eb.mono H ?_)
          rintro o s6 ⟨r6, rfl, hr6, hs6, H⟩
          show Wb g ad d mX0_tellFrom Q 174 [some (.ref (ad 85)), some (vi x1), some (.ref (ad c2)), some (vi x3), some (vi x4), some (vi x5), some (vi x6), some (vi x7), some (vi x8), some (vi x9), some (vi x10), some (vi r1), some (vi (((bOr x8 (ia s3 51 x10)) * 7) + (ia s3 50 x10))), some (vi ((((((bOr x8 (ia s3 51 x10)) * 7) + (ia s3 50 x10)) * 19) + x6) + (ia s3 54 x10)))] [(vi r6), (vi (ia s3 87 x1)), (vi (ia s3 87 ((((((bOr x8 (ia s3 51 x10)) * 7) + (ia s3 50 x10)) * 19) + x6) + (ia s3 54 x10)))), (vi ((((((bOr x8 (ia s3 51 x10)) * 7) + (ia s3 50 x10)) * 19) + x6) + (ia s3 54 x10))), (.ref (ad 87))] s6 rc rs
          refine sb_iadd (pc' := 175) rfl dX0_tellFrom_174 ?_
          refine sb_iload (pc' := 177) rfl rfl dX0_tellFrom_175 ?_
          refine sb_iload (pc' := 179) rfl rfl dX0_tellFrom_177 ?_
          refine sb_imul (pc' := 180) rfl dX0_tellFrom_179 ?_
          refine sb_iadd (pc' := 181) rfl dX0_tellFrom_180 ?_
          obtain ⟨d7, hd7, H⟩ := H
          refine sb_callS (pc' := 184) rfl rfl (rc := rc) (rs := rs) (mc' := 0) (ms' := 0) (As := [(vi (ia s3 87 ((((((bOr x8 (ia s3 51 x10)) * 7) + (ia s3 50 x10)) * 19) + x6) + (ia s3 54 x10)))), (vi (((ia s3 87 x1) + r6) + (x4 * r1)))]) (st := [(vi ((((((bOr x8 (ia s3 51 x10)) * 7) + (ia s3 50 x10)) * 19) + x6) + (ia s3 54 x10))), (.ref (ad 87))])  rfl rfl (Nat.le_of_ble_eq_true rfl) hd7 kJ9_min_7cf53 ⟨wd_861, wd_776⟩ dX0_tellFrom_181 (Eb.mono H ?_)
          rintro o s7 ⟨r7, rfl, hr7, hs7, H⟩
          show Wb g ad d mX0_tellFrom Q 184 [some (.ref (ad 85)), some (vi x1), some (.ref (ad c2)), some (vi x3), some (vi x4), some (vi x5), some (vi x6), some (vi x7), some (vi x8), some (vi x9), some (vi x10), some (vi r1), some (vi (((bOr x8 (ia s3 51 x10)) * 7) + (ia s3 50 x10))), some (vi ((((((bOr x8 (ia s3 51 x10)) * 7) + (ia s3 50 x10)) * 19) + x6) + (ia s3 54 x10)))] [(vi r7), (vi ((((((bOr x8 (ia s3 51 x10)) * 7) + (ia s3 50 x10)) * 19) + x6) + (ia s3 54 x10))), (.ref (ad 87))] s7 rc rs
          refine sb_iast (pc' := 185) rfl aI_87 o4.1 o4.2  dX0_tellFrom_184 ?_
          refine Wb.forget [true, true, true, true, true, true, true, true, true, true, true, true, false, false] ?_
          exact (H hx1 hx3 hx4 hx5 hx6 hx7 hx8 hx9 hx10 hr1 (SR_setI hs7 hr7))
theorem bX0_tellFrom_185 {g : AG} {ad : Nat → Nat} {d : Nat} {Q : AO → SG → Prop} {rc rs : Nat} {σ : SG} {x1 x3 x4 x5 x6 x7 x8 x9 x10 x11 : Int} {c2 n2 : Nat} (hc2 : aI c2 n2) (hx1 : iR x1) (hx3 : iR x3) (hx4 : iR x4) (hx5 : iR x5) (hx6 : iR x6) (hx7 : iR x7) (hx8 : iR x8) (hx9 : iR x9) (hx10 : iR x10) (hx11 : iR x11) (hS : SR σ) (H : iR (x10 + 1) ∧ (iR x1 → iR x3 → iR x4 → iR x5 → iR x6 → iR x7 → iR x8 → iR x9 → iR (x10 + 1) → SR σ → Wb g ad d mX0_tellFrom Q 33 [some (.ref (ad 85)), some (vi x1), some (.ref (ad c2)), some (vi x3), some (vi x4), some (vi x5), some (vi x6), some (vi x7), some (vi x8), some (vi x9), some (vi (x10 + 1)), none, none, none] [] σ rc rs)) : Wb g ad d mX0_tellFrom Q 185 [some (.ref (ad 85)), some (vi x1), some (.ref (ad c2)), some (vi x3), some (vi x4), some (vi x5), some (vi x6), some (vi x7), some (vi x8), some (vi x9), some (vi x10), some (vi x11), none, none] [] σ rc rs := by
  refine sb_iinc (pc' := 188) rfl rfl (L' := [some (.ref (ad 85)), some (vi x1), some (.ref (ad c2)), some (vi x3), some (vi x4), some (vi x5), some (vi x6), some (vi x7), some (vi x8), some (vi x9), some (vi (x10 + 1)), some (vi x11), none, none]) rfl (by decide) dX0_tellFrom_185 ?_
  refine sb_goto (tgt := 33) (by decide) dX0_tellFrom_188 ?_
  obtain ⟨o1, H⟩ := H
  refine Wb.forget [true, true, true, true, true, true, true, true, true, true, true, false, false, false] ?_
  exact (H hx1 hx3 hx4 hx5 hx6 hx7 hx8 hx9 o1 hS)
theorem bX0_tells_0 {g : AG} {ad : Nat → Nat} {d : Nat} {Q : AO → SG → Prop} {rc rs : Nat} {σ : SG} {x1 x3 x4 : Int} {c2 n2 : Nat} (hc2 : aI c2 n2) (hx1 : iR x1) (hx3 : iR x3) (hx4 : iR x4) (hS : SR σ) (H : (0 ≤ x1 ∧ x1 < 186) ∧ iR (x3 + (ia σ 54 x1)) ∧ ((x4 < (x3 + (ia σ 54 x1)) → (iR 0 → SR σ → Q (.inl (some (vi 0))) σ)) ∧ (¬ x4 < (x3 + (ia σ 54 x1)) → Cl g ad d mX2_sameRow 0 0 [(.ref (ad 53)), (vi (x1 * 3)), (.ref (ad c2)), (vi x3), (vi (ia σ 54 x1))] σ (Ki fun r3 s3 => ((r3 = 0 → (iR 0 → SR s3 → Q (.inl (some (vi 0))) s3)) ∧ (¬ r3 = 0 → (iR 1 → SR s3 → Q (.inl (some (vi 1))) s3))))))) : Wb g ad d mX0_tells Q 0 [some (.ref (ad 85)), some (vi x1), some (.ref (ad c2)), some (vi x3), some (vi x4), none] [] σ rc rs := by
  refine sb_aload_n (pc' := 1) rfl rfl dX0_tells_0 ?_
  refine sb_getC (pc' := 4) rfl fc_85_0 wd_611 dX0_tells_1 ?_
  refine sb_getCN (pc' := 7) rfl fc_48_5 wd_381 dX0_tells_4 ?_
  refine sb_iload_n (pc' := 8) rfl rfl dX0_tells_7 ?_
  obtain ⟨o1, H⟩ := H
  refine sb_iald (pc' := 9) rfl aI_54 o1.1 o1.2 dX0_tells_8 ?_
  refine sb_istore (pc' := 11) rfl (L' := [some (.ref (ad 85)), some (vi x1), some (.ref (ad c2)), some (vi x3), some (vi x4), some (vi (ia σ 54 x1))]) rfl (by decide) dX0_tells_9 ?_
  refine sb_iload_n (pc' := 12) rfl rfl dX0_tells_11 ?_
  refine sb_iload (pc' := 14) rfl rfl dX0_tells_12 ?_
  refine sb_iadd (pc' := 15) rfl dX0_tells_14 ?_
  refine sb_iload (pc' := 17) rfl rfl dX0_tells_15 ?_
  obtain ⟨o2, H⟩ := H
  refine sb_icmp_gt (pc' := 20) (tgt := 44) rfl (by decide) o2 hx4 dX0_tells_17 ?_ ?_
  · intro cc; have H := H.1 cc
    refine sb_iconst (pc' := 45) rfl dX0_tells_44 ?_
    exact sb_iret rfl (nar_z2 (Or.inl rfl)) dX0_tells_45 (H (iR_lit rfl) hS)
  · intro cc; have H := H.2 cc
    refine sb_aload_n (pc' := 21) rfl rfl dX0_tells_20 ?_
    refine sb_getC (pc' := 24) rfl fc_85_0 wd_611 dX0_tells_21 ?_
    refine sb_getCN (pc' := 27) rfl fc_48_4 wd_378 dX0_tells_24 ?_
    refine sb_iload_n (pc' := 28) rfl rfl dX0_tells_27 ?_
    refine sb_iconst (pc' := 29) rfl dX0_tells_28 ?_
    refine sb_imul (pc' := 30) rfl dX0_tells_29 ?_
    refine sb_aload_n (pc' := 31) rfl rfl dX0_tells_30 ?_
    refine sb_iload_n (pc' := 32) rfl rfl dX0_tells_31 ?_
    refine sb_iload (pc' := 34) rfl rfl dX0_tells_32 ?_
    obtain ⟨d3, hd3, H⟩ := H
    refine sb_callSN (pc' := 37) rfl rfl (rc := rc) (rs := rs) (mc' := 0) (ms' := 0) (As := [(.ref (ad 53)), (vi (x1 * 3)), (.ref (ad c2)), (vi x3), (vi (ia σ 54 x1))]) (st := [])  rfl rfl (Nat.le_of_ble_eq_true rfl) hd3 kX2_sameRow ⟨wd_1481, wd_721⟩ dX0_tells_34 (Eb.mono H ?_)
    rintro o s3 ⟨r3, rfl, hr3, hs3, H⟩
    show Wb g ad d mX0_tells Q 37 [some (.ref (ad 85)), some (vi x1), some (.ref (ad c2)), some (vi x3), some (vi x4), some (vi (ia σ 54 x1))] [(vi r3)] s3 rc rs
    refine sb_if_eq (pc' := 40) (tgt := 44) rfl (by decide) hr3 dX0_tells_37 ?_ ?_
    · intro cc; have H := H.1 cc
      refine sb_iconst (pc' := 45) rfl dX0_tells_44 ?_
      exact sb_iret rfl (nar_z2 (Or.inl rfl)) dX0_tells_45 (H (iR_lit rfl) hs3)
    · intro cc; have H := H.2 cc
      refine sb_iconst (pc' := 41) rfl dX0_tells_40 ?_
      refine sb_goto (tgt := 45) (by decide) dX0_tells_41 ?_
      exact sb_iret rfl (nar_z2 (Or.inr rfl)) dX0_tells_45 (H (iR_lit rfl) hs3)
theorem bX0_wordAhead_0 {g : AG} {ad : Nat → Nat} {d : Nat} {Q : AO → SG → Prop} {rc rs : Nat} {σ : SG} {x1 : Int} {c0 n0 : Nat} (hc0 : aI c0 n0) (hx1 : iR x1) (hS : SR σ) (H : ((¬ x1 = 0 → (0 ≤ x1 - 1 ∧ x1 - 1 < n0) ∧ (iR (ia σ c0 (x1 - 1)) → SR σ → Q (.inl (some (vi (ia σ c0 (x1 - 1))))) σ)) ∧ (x1 = 0 → (iR 40 → SR σ → Q (.inl (some (vi 40))) σ)))) : Wb g ad d mX0_wordAhead Q 0 [some (.ref (ad c0)), some (vi x1)] [] σ rc rs := by
  refine sb_iload_n (pc' := 1) rfl rfl dX0_wordAhead_0 ?_
  refine sb_if_ne (pc' := 4) (tgt := 9) rfl (by decide) hx1 dX0_wordAhead_1 ?_ ?_
  · intro cc; have H := H.1 cc
    refine sb_aload_n (pc' := 10) rfl rfl dX0_wordAhead_9 ?_
    refine sb_iload_n (pc' := 11) rfl rfl dX0_wordAhead_10 ?_
    refine sb_iconst (pc' := 12) rfl dX0_wordAhead_11 ?_
    refine sb_isub (pc' := 13) rfl dX0_wordAhead_12 ?_
    obtain ⟨o1, H⟩ := H
    refine sb_iald (pc' := 14) rfl hc0 o1.1 o1.2 dX0_wordAhead_13 ?_
    exact sb_iret rfl rfl dX0_wordAhead_14 (H (SR_ia hS _ _) hS)
  · intro cc; have H := H.2 cc
    refine sb_bipush (pc' := 6) rfl (z := 40) (by decide) dX0_wordAhead_4 ?_
    refine sb_goto (tgt := 14) (by decide) dX0_wordAhead_6 ?_
    exact sb_iret rfl rfl dX0_wordAhead_14 (H (iR_lit rfl) hS)
theorem bX1_mask_0 {g : AG} {ad : Nat → Nat} {d : Nat} {Q : AO → SG → Prop} {rc rs : Nat} {σ : SG} {x1 : Int}  (hx1 : iR x1) (hS : SR σ) (H : (0 ≤ x1 ∧ x1 < 7913) ∧ (iR (bDiv (ia σ 60 x1) 287) → SR σ → Q (.inl (some (vi (bDiv (ia σ 60 x1) 287)))) σ)) : Wb g ad d mX1_mask Q 0 [some (.ref (ad 58)), some (vi x1)] [] σ rc rs := by
  refine sb_aload_n (pc' := 1) rfl rfl dX1_mask_0 ?_
  refine sb_getC (pc' := 4) rfl fc_58_2 wd_432 dX1_mask_1 ?_
  refine sb_iload_n (pc' := 5) rfl rfl dX1_mask_4 ?_
  obtain ⟨o1, H⟩ := H
  refine sb_iald (pc' := 6) rfl aI_60 o1.1 o1.2 dX1_mask_5 ?_
  refine sb_sipush (pc' := 9) rfl (z := 287) (by decide) dX1_mask_6 ?_
  refine sb_idiv (pc' := 10) rfl (iR_lit rfl) (by decide) dX1_mask_9 ?_
  exact sb_iret rfl rfl dX1_mask_10 (H (iR_b _) hS)
theorem bX1_behind_0 {g : AG} {ad : Nat → Nat} {d : Nat} {Q : AO → SG → Prop} {rc rs : Nat} {σ : SG} {x1 : Int}  (hx1 : iR x1) (hS : SR σ) (H : (0 ≤ x1 ∧ x1 < 7913) ∧ (iR (bRem (bDiv (ia σ 60 x1) 41) 7) → SR σ → Q (.inl (some (vi (bRem (bDiv (ia σ 60 x1) 41) 7)))) σ)) : Wb g ad d mX1_behind Q 0 [some (.ref (ad 58)), some (vi x1)] [] σ rc rs := by
  refine sb_aload_n (pc' := 1) rfl rfl dX1_behind_0 ?_
  refine sb_getC (pc' := 4) rfl fc_58_2 wd_432 dX1_behind_1 ?_
  refine sb_iload_n (pc' := 5) rfl rfl dX1_behind_4 ?_
  obtain ⟨o1, H⟩ := H
  refine sb_iald (pc' := 6) rfl aI_60 o1.1 o1.2 dX1_behind_5 ?_
  refine sb_bipush (pc' := 8) rfl (z := 41) (by decide) dX1_behind_6 ?_
  refine sb_idiv (pc' := 9) rfl (iR_lit rfl) (by decide) dX1_behind_8 ?_
  refine sb_bipush (pc' := 11) rfl (z := 7) (by decide) dX1_behind_9 ?_
  refine sb_irem (pc' := 12) rfl (iR_lit rfl) (by decide) dX1_behind_11 ?_
  exact sb_iret rfl rfl dX1_behind_12 (H (iR_b _) hS)
theorem bX1_last_0 {g : AG} {ad : Nat → Nat} {d : Nat} {Q : AO → SG → Prop} {rc rs : Nat} {σ : SG} {x1 : Int}  (hx1 : iR x1) (hS : SR σ) (H : (0 ≤ x1 ∧ x1 < 7913) ∧ (iR (bRem (ia σ 60 x1) 41) → SR σ → Q (.inl (some (vi (bRem (ia σ 60 x1) 41)))) σ)) : Wb g ad d mX1_last Q 0 [some (.ref (ad 58)), some (vi x1)] [] σ rc rs := by
  refine sb_aload_n (pc' := 1) rfl rfl dX1_last_0 ?_
  refine sb_getC (pc' := 4) rfl fc_58_2 wd_432 dX1_last_1 ?_
  refine sb_iload_n (pc' := 5) rfl rfl dX1_last_4 ?_
  obtain ⟨o1, H⟩ := H
  refine sb_iald (pc' := 6) rfl aI_60 o1.1 o1.2 dX1_last_5 ?_
  refine sb_bipush (pc' := 8) rfl (z := 41) (by decide) dX1_last_6 ?_
  refine sb_irem (pc' := 9) rfl (iR_lit rfl) (by decide) dX1_last_8 ?_
  exact sb_iret rfl rfl dX1_last_9 (H (iR_b _) hS)
theorem bX1_cheapest_0 {g : AG} {ad : Nat → Nat} {d : Nat} {Q : AO → SG → Prop} {rc rs : Nat} {σ : SG}    (hS : SR σ) (H : (iR (ia σ 61 0) → SR σ → Q (.inl (some (vi (ia σ 61 0)))) σ)) : Wb g ad d mX1_cheapest Q 0 [some (.ref (ad 58))] [] σ rc rs := by
  refine sb_aload_n (pc' := 1) rfl rfl dX1_cheapest_0 ?_
  refine sb_getC (pc' := 4) rfl fc_58_3 wd_433 dX1_cheapest_1 ?_
  refine sb_iconst (pc' := 5) rfl dX1_cheapest_4 ?_
  refine sb_iald (pc' := 6) rfl aI_61 (by decide) (by decide) dX1_cheapest_5 ?_
  exact sb_iret rfl rfl dX1_cheapest_6 (H (SR_ia hS _ _) hS)
theorem bX1_codeBehind_0 {g : AG} {ad : Nat → Nat} {d : Nat} {Q : AO → SG → Prop} {rc rs : Nat} {σ : SG} {x1 x2 x3 : Int}  (hx1 : iR x1) (hx2 : iR x2) (hx3 : iR x3) (hS : SR σ) (H : (0 ≤ x3 ∧ x3 < 186) ∧ ((¬ (ia σ 56 x3) = ((-1)) → iR (((((bOr x1 (ia σ 51 x3)) * 7) + (ia σ 50 x3)) * 41) + (ia σ 56 x3)) ∧ (iR (((((bOr x1 (ia σ 51 x3)) * 7) + (ia σ 50 x3)) * 41) + (ia σ 56 x3)) → SR σ → Q (.inl (some (vi (((((bOr x1 (ia σ 51 x3)) * 7) + (ia σ 50 x3)) * 41) + (ia σ 56 x3))))) σ)) ∧ ((ia σ 56 x3) = ((-1)) → iR (((((bOr x1 (ia σ 51 x3)) * 7) + (ia σ 50 x3)) * 41) + x2) ∧ (iR (((((bOr x1 (ia σ 51 x3)) * 7) + (ia σ 50 x3)) * 41) + x2) → SR σ → Q (.inl (some (vi (((((bOr x1 (ia σ 51 x3)) * 7) + (ia σ 50 x3)) * 41) + x2)))) σ)))) : Wb g ad d mX1_codeBehind Q 0 [some (.ref (ad 58)), some (vi x1), some (vi x2), some (vi x3), none] [] σ rc rs := by
  refine sb_iload_n (pc' := 1) rfl rfl dX1_codeBehind_0 ?_
  refine sb_aload_n (pc' := 2) rfl rfl dX1_codeBehind_1 ?_
  refine sb_getC (pc' := 5) rfl fc_58_0 wd_430 dX1_codeBehind_2 ?_
  refine sb_getCN (pc' := 8) rfl fc_48_2 wd_370 dX1_codeBehind_5 ?_
  refine sb_iload_n (pc' := 9) rfl rfl dX1_codeBehind_8 ?_
  obtain ⟨o1, H⟩ := H
  refine sb_iald (pc' := 10) rfl aI_51 o1.1 o1.2 dX1_codeBehind_9 ?_
  refine sb_ior (pc' := 11) rfl dX1_codeBehind_10 ?_
  refine sb_bipush (pc' := 13) rfl (z := 7) (by decide) dX1_codeBehind_11 ?_
  refine sb_imul (pc' := 14) rfl dX1_codeBehind_13 ?_
  refine sb_aload_n (pc' := 15) rfl rfl dX1_codeBehind_14 ?_
  refine sb_getC (pc' := 18) rfl fc_58_0 wd_430 dX1_codeBehind_15 ?_
  refine sb_getCN (pc' := 21) rfl fc_48_1 wd_367 dX1_codeBehind_18 ?_
  refine sb_iload_n (pc' := 22) rfl rfl dX1_codeBehind_21 ?_
  refine sb_iald (pc' := 23) rfl aI_50 o1.1 o1.2 dX1_codeBehind_22 ?_
  refine sb_iadd (pc' := 24) rfl dX1_codeBehind_23 ?_
  refine sb_istore (pc' := 26) rfl (L' := [some (.ref (ad 58)), some (vi x1), some (vi x2), some (vi x3), some (vi (((bOr x1 (ia σ 51 x3)) * 7) + (ia σ 50 x3)))]) rfl (by decide) dX1_codeBehind_24 ?_
  refine sb_iload (pc' := 28) rfl rfl dX1_codeBehind_26 ?_
  refine sb_bipush (pc' := 30) rfl (z := 41) (by decide) dX1_codeBehind_28 ?_
  refine sb_imul (pc' := 31) rfl dX1_codeBehind_30 ?_
  refine sb_aload_n (pc' := 32) rfl rfl dX1_codeBehind_31 ?_
  refine sb_getC (pc' := 35) rfl fc_58_0 wd_430 dX1_codeBehind_32 ?_
  refine sb_getCN (pc' := 38) rfl fc_48_7 wd_385 dX1_codeBehind_35 ?_
  refine sb_iload_n (pc' := 39) rfl rfl dX1_codeBehind_38 ?_
  refine sb_iald (pc' := 40) rfl aI_56 o1.1 o1.2 dX1_codeBehind_39 ?_
  refine sb_iconst (pc' := 41) rfl dX1_codeBehind_40 ?_
  refine sb_icmp_ne (pc' := 44) (tgt := 48) rfl (by decide) (SR_ia hS _ _) (iR_lit rfl) dX1_codeBehind_41 ?_ ?_
  · intro cc; have H := H.1 cc
    refine sb_aload_n (pc' := 49) rfl rfl dX1_codeBehind_48 ?_
    refine sb_getC (pc' := 52) rfl fc_58_0 wd_430 dX1_codeBehind_49 ?_
    refine sb_getCN (pc' := 55) rfl fc_48_7 wd_385 dX1_codeBehind_52 ?_
    refine sb_iload_n (pc' := 56) rfl rfl dX1_codeBehind_55 ?_
    refine sb_iald (pc' := 57) rfl aI_56 o1.1 o1.2 dX1_codeBehind_56 ?_
    refine sb_iadd (pc' := 58) rfl dX1_codeBehind_57 ?_
    obtain ⟨o2, H⟩ := H
    exact sb_iret rfl rfl dX1_codeBehind_58 (H o2 hS)
  · intro cc; have H := H.2 cc
    refine sb_iload_n (pc' := 45) rfl rfl dX1_codeBehind_44 ?_
    refine sb_goto (tgt := 57) (by decide) dX1_codeBehind_45 ?_
    refine sb_iadd (pc' := 58) rfl dX1_codeBehind_57 ?_
    obtain ⟨o3, H⟩ := H
    exact sb_iret rfl rfl dX1_codeBehind_58 (H o3 hS)
theorem bX1_follow_0 {g : AG} {ad : Nat → Nat} {d : Nat} {Q : AO → SG → Prop} {rc rs : Nat} {σ : SG} {x1 x2 x3 : Int}  (hx1 : iR x1) (hx2 : iR x2) (hx3 : iR x3) (hS : SR σ) (H : Cl g ad d mX1_codeBehind 0 0 [(.ref (ad 58)), (vi x1), (vi x2), (vi x3)] σ (Ki fun r1 s1 => (0 ≤ r1 ∧ r1 < 18368) ∧ iR ((ia s1 59 r1) - 1) ∧ (iR ((ia s1 59 r1) - 1) → SR s1 → Q (.inl (some (vi ((ia s1 59 r1) - 1)))) s1))) : Wb g ad d mX1_follow Q 0 [some (.ref (ad 58)), some (vi x1), some (vi x2), some (vi x3)] [] σ rc rs := by
  refine sb_aload_n (pc' := 1) rfl rfl dX1_follow_0 ?_
  refine sb_getC (pc' := 4) rfl fc_58_1 wd_431 dX1_follow_1 ?_
  refine sb_aload_n (pc' := 5) rfl rfl dX1_follow_4 ?_
  refine sb_iload_n (pc' := 6) rfl rfl dX1_follow_5 ?_
  refine sb_iload_n (pc' := 7) rfl rfl dX1_follow_6 ?_
  refine sb_iload_n (pc' := 8) rfl rfl dX1_follow_7 ?_
  obtain ⟨d1, hd1, H⟩ := H
  refine sb_callV (pc' := 11) rfl rfl (rc := rc) (rs := rs) (mc' := 0) (ms' := 0) (As := [(vi x1), (vi x2), (vi x3)]) (st := [(.ref (ad 59))]) of_58 rfl rfl (Nat.le_of_ble_eq_true rfl) hd1 kX1_codeBehind ⟨wd_763, wd_765, wd_11⟩ dX1_follow_8 (Eb.mono H ?_)
  rintro o s1 ⟨r1, rfl, hr1, hs1, H⟩
  show Wb g ad d mX1_follow Q 11 [some (.ref (ad 58)), some (vi x1), some (vi x2), some (vi x3)] [(vi r1), (.ref (ad 59))] s1 rc rs
  obtain ⟨o2, H⟩ := H
  refine sb_iald (pc' := 12) rfl aI_59 o2.1 o2.2 dX1_follow_11 ?_
  refine sb_iconst (pc' := 13) rfl dX1_follow_12 ?_
  refine sb_isub (pc' := 14) rfl dX1_follow_13 ?_
  obtain ⟨o3, H⟩ := H
  exact sb_iret rfl rfl dX1_follow_14 (H o3 hs1)
theorem bX1_explore_0 {g : AG} {ad : Nat → Nat} {d : Nat} {Q : AO → SG → Prop} {rc rs : Nat} {σ : SG}    (hS : SR σ) (H : (iR 0 → SR σ → Wb g ad d mX1_explore Q 2 [some (.ref (ad 58)), some (vi 0), none] [] σ rc rs)) : Wb g ad d mX1_explore Q 0 [some (.ref (ad 58)), none, none] [] σ rc rs := by
  refine sb_iconst (pc' := 1) rfl dX1_explore_0 ?_
  refine sb_istore_n (pc' := 2) rfl (L' := [some (.ref (ad 58)), some (vi 0), none]) rfl (by decide) dX1_explore_1 ?_
  exact (H (iR_lit rfl) hS)
theorem bX1_explore_2 {g : AG} {ad : Nat → Nat} {d : Nat} {Q : AO → SG → Prop} {rc rs : Nat} {σ : SG} {x1 : Int}  (hx1 : iR x1) (hS : SR σ) (H : (((sc σ 58 5) ≤ x1 → (iR 0 → SR (setI (setS σ 58 5 0) 59 40 ((-1))) → Wb g ad d mX1_explore Q 43 [some (.ref (ad 58)), some (vi 0), none] [] (setI (setS σ 58 5 0) 59 40 ((-1))) rc rs)) ∧ (¬ (sc σ 58 5) ≤ x1 → (0 ≤ x1 ∧ x1 < 7913) ∧ (0 ≤ ia σ 60 x1 ∧ ia σ 60 x1 < 18368) ∧ iR (x1 + 1) ∧ (iR (x1 + 1) → SR (setI σ 59 (ia σ 60 x1) 0) → Wb g ad d mX1_explore Q 2 [some (.ref (ad 58)), some (vi (x1 + 1)), none] [] (setI σ 59 (ia σ 60 x1) 0) rc rs)))) : Wb g ad d mX1_explore Q 2 [some (.ref (ad 58)), some (vi x1), none] [] σ rc rs := by
  refine sb_iload_n (pc' := 3) rfl rfl dX1_explore_2 ?_
  refine sb_aload_n (pc' := 4) rfl rfl dX1_explore_3 ?_
  refine sb_getI (pc' := 7) rfl fi_58_5 wd_438 dX1_explore_4 ?_
  refine sb_icmp_ge (pc' := 10) (tgt := 28) rfl (by decide) hx1 (SR_sc hS _ _) dX1_explore_7 ?_ ?_
  · intro cc; have H := H.1 cc
    refine sb_aload_n (pc' := 29) rfl rfl dX1_explore_28 ?_
    refine sb_iconst (pc' := 30) rfl dX1_explore_29 ?_
    refine sb_putI (pc' := 33) rfl fi_58_5 (Or.inl rfl) wd_438 dX1_explore_30 ?_
    refine sb_aload_n (pc' := 34) rfl rfl dX1_explore_33 ?_
    refine sb_getC (pc' := 37) rfl fc_58_1 wd_431 dX1_explore_34 ?_
    refine sb_bipush (pc' := 39) rfl (z := 40) (by decide) dX1_explore_37 ?_
    refine sb_iconst (pc' := 40) rfl dX1_explore_39 ?_
    refine sb_iast (pc' := 41) rfl aI_59 (by decide) (by decide)  dX1_explore_40 ?_
    refine sb_iconst (pc' := 42) rfl dX1_explore_41 ?_
    refine sb_istore_n (pc' := 43) rfl (L' := [some (.ref (ad 58)), some (vi 0), none]) rfl (by decide) dX1_explore_42 ?_
    exact (H (iR_lit rfl) (SR_setI (SR_setS hS (iR_lit rfl)) (iR_lit rfl)))
  · intro cc; have H := H.2 cc
    refine sb_aload_n (pc' := 11) rfl rfl dX1_explore_10 ?_
    refine sb_getC (pc' := 14) rfl fc_58_1 wd_431 dX1_explore_11 ?_
    refine sb_aload_n (pc' := 15) rfl rfl dX1_explore_14 ?_
    refine sb_getC (pc' := 18) rfl fc_58_2 wd_432 dX1_explore_15 ?_
    refine sb_iload_n (pc' := 19) rfl rfl dX1_explore_18 ?_
    obtain ⟨o1, H⟩ := H
    refine sb_iald (pc' := 20) rfl aI_60 o1.1 o1.2 dX1_explore_19 ?_
    refine sb_iconst (pc' := 21) rfl dX1_explore_20 ?_
    obtain ⟨o2, H⟩ := H
    refine sb_iast (pc' := 22) rfl aI_59 o2.1 o2.2  dX1_explore_21 ?_
    refine sb_iinc (pc' := 25) rfl rfl (L' := [some (.ref (ad 58)), some (vi (x1 + 1)), none]) rfl (by decide) dX1_explore_22 ?_
    refine sb_goto (tgt := 2) (by decide) dX1_explore_25 ?_
    obtain ⟨o3, H⟩ := H
    exact (H o3 (SR_setI hS (iR_lit rfl)))
theorem bX1_explore_43 {g : AG} {ad : Nat → Nat} {d : Nat} {Q : AO → SG → Prop} {rc rs : Nat} {σ : SG} {x1 : Int}  (hx1 : iR x1) (hS : SR σ) (H : (((sc σ 48 10) < x1 → (0 ≤ (sc σ 48 10) + 1 ∧ (sc σ 48 10) + 1 < 8) ∧ (SR (setI σ 62 ((sc σ 48 10) + 1) (sc σ 58 5)) → Q (.inl none) (setI σ 62 ((sc σ 48 10) + 1) (sc σ 58 5)))) ∧ (¬ (sc σ 48 10) < x1 → (0 ≤ x1 ∧ x1 < 8) ∧ (iR x1 → iR 0 → SR (setI σ 62 x1 (sc σ 58 5)) → Wb g ad d mX1_explore Q 66 [some (.ref (ad 58)), some (vi x1), some (vi 0)] [] (setI σ 62 x1 (sc σ 58 5)) rc rs)))) : Wb g ad d mX1_explore Q 43 [some (.ref (ad 58)), some (vi x1), none] [] σ rc rs := by
  refine sb_iload_n (pc' := 44) rfl rfl dX1_explore_43 ?_
  refine sb_aload_n (pc' := 45) rfl rfl dX1_explore_44 ?_
  refine sb_getC (pc' := 48) rfl fc_58_0 wd_430 dX1_explore_45 ?_
  refine sb_getIN (pc' := 51) rfl fi_48_10 wd_397 dX1_explore_48 ?_
  refine sb_icmp_gt (pc' := 54) (tgt := 102) rfl (by decide) hx1 (SR_sc hS _ _) dX1_explore_51 ?_ ?_
  · intro cc; have H := H.1 cc
    refine sb_aload_n (pc' := 103) rfl rfl dX1_explore_102 ?_
    refine sb_getC (pc' := 106) rfl fc_58_4 wd_435 dX1_explore_103 ?_
    refine sb_aload_n (pc' := 107) rfl rfl dX1_explore_106 ?_
    refine sb_getC (pc' := 110) rfl fc_58_0 wd_430 dX1_explore_107 ?_
    refine sb_getIN (pc' := 113) rfl fi_48_10 wd_397 dX1_explore_110 ?_
    refine sb_iconst (pc' := 114) rfl dX1_explore_113 ?_
    refine sb_iadd (pc' := 115) rfl dX1_explore_114 ?_
    refine sb_aload_n (pc' := 116) rfl rfl dX1_explore_115 ?_
    refine sb_getI (pc' := 119) rfl fi_58_5 wd_438 dX1_explore_116 ?_
    obtain ⟨o1, H⟩ := H
    refine sb_iast (pc' := 120) rfl aI_62 o1.1 o1.2  dX1_explore_119 ?_
    exact sb_vret rfl dX1_explore_120 (H (SR_setI hS (SR_sc hS _ _)))
  · intro cc; have H := H.2 cc
    refine sb_aload_n (pc' := 55) rfl rfl dX1_explore_54 ?_
    refine sb_getC (pc' := 58) rfl fc_58_4 wd_435 dX1_explore_55 ?_
    refine sb_iload_n (pc' := 59) rfl rfl dX1_explore_58 ?_
    refine sb_aload_n (pc' := 60) rfl rfl dX1_explore_59 ?_
    refine sb_getI (pc' := 63) rfl fi_58_5 wd_438 dX1_explore_60 ?_
    obtain ⟨o2, H⟩ := H
    refine sb_iast (pc' := 64) rfl aI_62 o2.1 o2.2  dX1_explore_63 ?_
    refine sb_iconst (pc' := 65) rfl dX1_explore_64 ?_
    refine sb_istore_n (pc' := 66) rfl (L' := [some (.ref (ad 58)), some (vi x1), some (vi 0)]) rfl (by decide) dX1_explore_65 ?_
    exact (H hx1 (iR_lit rfl) (SR_setI hS (SR_sc hS _ _)))
theorem bX1_explore_66 {g : AG} {ad : Nat → Nat} {d : Nat} {Q : AO → SG → Prop} {rc rs : Nat} {σ : SG} {x1 x2 : Int}  (hx1 : iR x1) (hx2 : iR x2) (hS : SR σ) (H : Cl g ad d mX5_full 0 0 [(.ref (ad 48))] σ (Ki fun r1 s1 => ((r1 < x2 → iR (x1 + 1) ∧ (iR (x1 + 1) → SR s1 → Wb g ad d mX1_explore Q 43 [some (.ref (ad 58)), some (vi (x1 + 1)), none] [] s1 rc rs)) ∧ (¬ r1 < x2 → Cl g ad d mJ6_bitCount_0f7a4 0 0 [(vi x2)] s1 (Ki fun r3 s3 => ((¬ r3 = x1 → iR (x2 + 1) ∧ (iR x1 → iR (x2 + 1) → SR s3 → Wb g ad d mX1_explore Q 66 [some (.ref (ad 58)), some (vi x1), some (vi (x2 + 1))] [] s3 rc rs)) ∧ (r3 = x1 → Cl g ad d mX1_exploreMask 0 0 [(.ref (ad 58)), (vi x2)] s3 (Kv fun s5 => iR (x2 + 1) ∧ (iR x1 → iR (x2 + 1) → SR s5 → Wb g ad d mX1_explore Q 66 [some (.ref (ad 58)), some (vi x1), some (vi (x2 + 1))] [] s5 rc rs))))))))) : Wb g ad d mX1_explore Q 66 [some (.ref (ad 58)), some (vi x1), some (vi x2)] [] σ rc rs := by
  refine sb_iload_n (pc' := 67) rfl rfl dX1_explore_66 ?_
  refine sb_aload_n (pc' := 68) rfl rfl dX1_explore_67 ?_
  refine sb_getC (pc' := 71) rfl fc_58_0 wd_430 dX1_explore_68 ?_
  obtain ⟨d1, hd1, H⟩ := H
  refine sb_callVN (pc' := 74) rfl rfl (rc := rc) (rs := rs) (mc' := 0) (ms' := 0) (As := []) (st := [(vi x2)]) of_48 rfl rfl (Nat.le_of_ble_eq_true rfl) hd1 kX5_full ⟨wd_742, wd_744, wd_8⟩ dX1_explore_71 (Eb.mono H ?_)
  rintro o s1 ⟨r1, rfl, hr1, hs1, H⟩
  show Wb g ad d mX1_explore Q 74 [some (.ref (ad 58)), some (vi x1), some (vi x2)] [(vi r1), (vi x2)] s1 rc rs
  refine sb_icmp_gt (pc' := 77) (tgt := 96) rfl (by decide) hx2 hr1 dX1_explore_74 ?_ ?_
  · intro cc; have H := H.1 cc
    refine sb_iinc (pc' := 99) rfl rfl (L' := [some (.ref (ad 58)), some (vi (x1 + 1)), some (vi x2)]) rfl (by decide) dX1_explore_96 ?_
    refine sb_goto (tgt := 43) (by decide) dX1_explore_99 ?_
    obtain ⟨o2, H⟩ := H
    refine Wb.forget [true, true, false] ?_
    exact (H o2 hs1)
  · intro cc; have H := H.2 cc
    refine sb_iload_n (pc' := 78) rfl rfl dX1_explore_77 ?_
    obtain ⟨d3, hd3, H⟩ := H
    refine sb_callS (pc' := 81) rfl rfl (rc := rc) (rs := rs) (mc' := 0) (ms' := 0) (As := [(vi x2)]) (st := [])  rfl rfl (Nat.le_of_ble_eq_true rfl) hd3 kJ6_bitCount_0f7a4 ⟨wd_746, wd_747⟩ dX1_explore_78 (Eb.mono H ?_)
    rintro o s3 ⟨r3, rfl, hr3, hs3, H⟩
    show Wb g ad d mX1_explore Q 81 [some (.ref (ad 58)), some (vi x1), some (vi x2)] [(vi r3)] s3 rc rs
    refine sb_iload_n (pc' := 82) rfl rfl dX1_explore_81 ?_
    refine sb_icmp_ne (pc' := 85) (tgt := 90) rfl (by decide) hr3 hx1 dX1_explore_82 ?_ ?_
    · intro cc; have H := H.1 cc
      refine sb_iinc (pc' := 93) rfl rfl (L' := [some (.ref (ad 58)), some (vi x1), some (vi (x2 + 1))]) rfl (by decide) dX1_explore_90 ?_
      refine sb_goto (tgt := 66) (by decide) dX1_explore_93 ?_
      obtain ⟨o4, H⟩ := H
      exact (H hx1 o4 hs3)
    · intro cc; have H := H.2 cc
      refine sb_aload_n (pc' := 86) rfl rfl dX1_explore_85 ?_
      refine sb_iload_n (pc' := 87) rfl rfl dX1_explore_86 ?_
      obtain ⟨d5, hd5, H⟩ := H
      refine sb_callV (pc' := 90) rfl rfl (rc := rc) (rs := rs) (mc' := 0) (ms' := 0) (As := [(vi x2)]) (st := []) of_58 rfl rfl (Nat.le_of_ble_eq_true rfl) hd5 kX1_exploreMask ⟨wd_752, wd_754, wd_9⟩ dX1_explore_87 (Eb.mono H ?_)
      rintro o s5 ⟨rfl, hs5, H⟩
      show Wb g ad d mX1_explore Q 90 [some (.ref (ad 58)), some (vi x1), some (vi x2)] [] s5 rc rs
      refine sb_iinc (pc' := 93) rfl rfl (L' := [some (.ref (ad 58)), some (vi x1), some (vi (x2 + 1))]) rfl (by decide) dX1_explore_90 ?_
      refine sb_goto (tgt := 66) (by decide) dX1_explore_93 ?_
      obtain ⟨o6, H⟩ := H
      exact (H hx1 o6 hs5)
theorem bX1_exploreMask_0 {g : AG} {ad : Nat → Nat} {d : Nat} {Q : AO → SG → Prop} {rc rs : Nat} {σ : SG} {x1 : Int}  (hx1 : iR x1) (hS : SR σ) (H : (iR x1 → iR 0 → SR σ → Wb g ad d mX1_exploreMask Q 2 [some (.ref (ad 58)), some (vi x1), some (vi 0), none, none, none] [] σ rc rs)) : Wb g ad d mX1_exploreMask Q 0 [some (.ref (ad 58)), some (vi x1), none, none, none, none] [] σ rc rs := by
  refine sb_iconst (pc' := 1) rfl dX1_exploreMask_0 ?_
  refine sb_istore_n (pc' := 2) rfl (L' := [some (.ref (ad 58)), some (vi x1), some (vi 0), none, none, none]) rfl (by decide) dX1_exploreMask_1 ?_
  exact (H hx1 (iR_lit rfl) hS)
theorem bX1_exploreMask_2 {g : AG} {ad : Nat → Nat} {d : Nat} {Q : AO → SG → Prop} {rc rs : Nat} {σ : SG} {x1 x2 : Int}  (hx1 : iR x1) (hx2 : iR x2) (hS : SR σ) (H : (((sc σ 48 10) < x2 → (SR σ → Q (.inl none) σ)) ∧ (¬ (sc σ 48 10) < x2 → Cl g ad d mX1_mayEnd 0 0 [(vi x1), (vi x2)] σ (Ki fun r1 s1 => ((r1 = 0 → (iR x1 → iR x2 → iR 0 → iR 0 → SR s1 → Wb g ad d mX1_exploreMask Q 31 [some (.ref (ad 58)), some (vi x1), some (vi x2), some (vi 0), some (vi 0), none] [] s1 rc rs)) ∧ (¬ r1 = 0 → (iR x1 → iR x2 → iR 41 → iR 0 → SR s1 → Wb g ad d mX1_exploreMask Q 31 [some (.ref (ad 58)), some (vi x1), some (vi x2), some (vi 41), some (vi 0), none] [] s1 rc rs))))))) : Wb g ad d mX1_exploreMask Q 2 [some (.ref (ad 58)), some (vi x1), some (vi x2), none, none, none] [] σ rc rs := by
  refine sb_iload_n (pc' := 3) rfl rfl dX1_exploreMask_2 ?_
  refine sb_aload_n (pc' := 4) rfl rfl dX1_exploreMask_3 ?_
  refine sb_getC (pc' := 7) rfl fc_58_0 wd_430 dX1_exploreMask_4 ?_
  refine sb_getIN (pc' := 10) rfl fi_48_10 wd_397 dX1_exploreMask_7 ?_
  refine sb_icmp_gt (pc' := 13) (tgt := 123) rfl (by decide) hx2 (SR_sc hS _ _) dX1_exploreMask_10 ?_ ?_
  · intro cc; have H := H.1 cc
    exact sb_vret rfl dX1_exploreMask_123 (H hS)
  · intro cc; have H := H.2 cc
    refine sb_iload_n (pc' := 14) rfl rfl dX1_exploreMask_13 ?_
    refine sb_iload_n (pc' := 15) rfl rfl dX1_exploreMask_14 ?_
    obtain ⟨d1, hd1, H⟩ := H
    refine sb_callS (pc' := 18) rfl rfl (rc := rc) (rs := rs) (mc' := 0) (ms' := 0) (As := [(vi x1), (vi x2)]) (st := [])  rfl rfl (Nat.le_of_ble_eq_true rfl) hd1 kX1_mayEnd ⟨wd_756, wd_757⟩ dX1_exploreMask_15 (Eb.mono H ?_)
    rintro o s1 ⟨r1, rfl, hr1, hs1, H⟩
    show Wb g ad d mX1_exploreMask Q 18 [some (.ref (ad 58)), some (vi x1), some (vi x2), none, none, none] [(vi r1)] s1 rc rs
    refine sb_if_eq (pc' := 21) (tgt := 26) rfl (by decide) hr1 dX1_exploreMask_18 ?_ ?_
    · intro cc; have H := H.1 cc
      refine sb_iconst (pc' := 27) rfl dX1_exploreMask_26 ?_
      refine sb_istore_n (pc' := 28) rfl (L' := [some (.ref (ad 58)), some (vi x1), some (vi x2), some (vi 0), none, none]) rfl (by decide) dX1_exploreMask_27 ?_
      refine sb_iconst (pc' := 29) rfl dX1_exploreMask_28 ?_
      refine sb_istore (pc' := 31) rfl (L' := [some (.ref (ad 58)), some (vi x1), some (vi x2), some (vi 0), some (vi 0), none]) rfl (by decide) dX1_exploreMask_29 ?_
      exact (H hx1 hx2 (iR_lit rfl) (iR_lit rfl) hs1)
    · intro cc; have H := H.2 cc
      refine sb_bipush (pc' := 23) rfl (z := 41) (by decide) dX1_exploreMask_21 ?_
      refine sb_goto (tgt := 27) (by decide) dX1_exploreMask_23 ?_
      refine sb_istore_n (pc' := 28) rfl (L' := [some (.ref (ad 58)), some (vi x1), some (vi x2), some (vi 41), none, none]) rfl (by decide) dX1_exploreMask_27 ?_
      refine sb_iconst (pc' := 29) rfl dX1_exploreMask_28 ?_
      refine sb_istore (pc' := 31) rfl (L' := [some (.ref (ad 58)), some (vi x1), some (vi x2), some (vi 41), some (vi 0), none]) rfl (by decide) dX1_exploreMask_29 ?_
      exact (H hx1 hx2 (iR_lit rfl) (iR_lit rfl) hs1)
theorem bX1_exploreMask_31 {g : AG} {ad : Nat → Nat} {d : Nat} {Q : AO → SG → Prop} {rc rs : Nat} {σ : SG} {x1 x2 x3 x4 : Int}  (hx1 : iR x1) (hx2 : iR x2) (hx3 : iR x3) (hx4 : iR x4) (hS : SR σ) (H : ((x3 ≤ x4 → iR (x2 + 1) ∧ (iR x1 → iR (x2 + 1) → SR σ → Wb g ad d mX1_exploreMask Q 2 [some (.ref (ad 58)), some (vi x1), some (vi (x2 + 1)), none, none, none] [] σ rc rs)) ∧ (¬ x3 ≤ x4 → (0 ≤ (((x1 * 7) + x2) * 41) + x4 ∧ (((x1 * 7) + x2) * 41) + x4 < 18368) ∧ ((¬ (ia σ 59 ((((x1 * 7) + x2) * 41) + x4)) = ((-1)) → iR (x4 + 1) ∧ (iR x1 → iR x2 → iR x3 → iR (x4 + 1) → SR σ → Wb g ad d mX1_exploreMask Q 31 [some (.ref (ad 58)), some (vi x1), some (vi x2), some (vi x3), some (vi (x4 + 1)), none] [] σ rc rs)) ∧ ((ia σ 59 ((((x1 * 7) + x2) * 41) + x4)) = ((-1)) → ((7913 ≤ (sc σ 58 5) → iR (x4 + 1) ∧ (iR x1 → iR x2 → iR x3 → iR (x4 + 1) → SR σ → Wb g ad d mX1_exploreMask Q 31 [some (.ref (ad 58)), some (vi x1), some (vi x2), some (vi x3), some (vi (x4 + 1)), none] [] σ rc rs)) ∧ (¬ 7913 ≤ (sc σ 58 5) → (0 ≤ sc σ 58 5 ∧ sc σ 58 5 < 7913) ∧ iR ((((x1 * 7) + x2) * 41) + x4) ∧ iR ((sc (setI σ 60 (sc σ 58 5) ((((x1 * 7) + x2) * 41) + x4)) 58 5) + 1) ∧ Cl g ad d mX1_meetFrom 0 0 [(.ref (ad 58)), (vi x1), (vi x4)] (setI (setS (setI σ 60 (sc σ 58 5) ((((x1 * 7) + x2) * 41) + x4)) 58 5 ((sc (setI σ 60 (sc σ 58 5) ((((x1 * 7) + x2) * 41) + x4)) 58 5) + 1)) 59 ((((x1 * 7) + x2) * 41) + x4) (sc (setS (setI σ 60 (sc σ 58 5) ((((x1 * 7) + x2) * 41) + x4)) 58 5 ((sc (setI σ 60 (sc σ 58 5) ((((x1 * 7) + x2) * 41) + x4)) 58 5) + 1)) 58 5)) (Kv fun s8 => iR (x4 + 1) ∧ (iR x1 → iR x2 → iR x3 → iR (x4 + 1) → SR s8 → Wb g ad d mX1_exploreMask Q 31 [some (.ref (ad 58)), some (vi x1), some (vi x2), some (vi x3), some (vi (x4 + 1)), none] [] s8 rc rs))))))))) : Wb g ad d mX1_exploreMask Q 31 [some (.ref (ad 58)), some (vi x1), some (vi x2), some (vi x3), some (vi x4), none] [] σ rc rs := by
  refine sb_iload (pc' := 33) rfl rfl dX1_exploreMask_31 ?_
  refine sb_iload_n (pc' := 34) rfl rfl dX1_exploreMask_33 ?_
  refine sb_icmp_ge (pc' := 37) (tgt := 117) rfl (by decide) hx4 hx3 dX1_exploreMask_34 ?_ ?_
  · intro cc; have H := H.1 cc
    refine sb_iinc (pc' := 120) rfl rfl (L' := [some (.ref (ad 58)), some (vi x1), some (vi (x2 + 1)), some (vi x3), some (vi x4), none]) rfl (by decide) dX1_exploreMask_117 ?_
    refine sb_goto (tgt := 2) (by decide) dX1_exploreMask_120 ?_
    obtain ⟨o1, H⟩ := H
    refine Wb.forget [true, true, true, false, false, false] ?_
    exact (H hx1 o1 hS)
  · intro cc; have H := H.2 cc
    refine sb_iload_n (pc' := 38) rfl rfl dX1_exploreMask_37 ?_
    refine sb_bipush (pc' := 40) rfl (z := 7) (by decide) dX1_exploreMask_38 ?_
    refine sb_imul (pc' := 41) rfl dX1_exploreMask_40 ?_
    refine sb_iload_n (pc' := 42) rfl rfl dX1_exploreMask_41 ?_
    refine sb_iadd (pc' := 43) rfl dX1_exploreMask_42 ?_
    refine sb_bipush (pc' := 45) rfl (z := 41) (by decide) dX1_exploreMask_43 ?_
    refine sb_imul (pc' := 46) rfl dX1_exploreMask_45 ?_
    refine sb_iload (pc' := 48) rfl rfl dX1_exploreMask_46 ?_
    refine sb_iadd (pc' := 49) rfl dX1_exploreMask_48 ?_
    refine sb_istore (pc' := 51) rfl (L' := [some (.ref (ad 58)), some (vi x1), some (vi x2), some (vi x3), some (vi x4), some (vi ((((x1 * 7) + x2) * 41) + x4))]) rfl (by decide) dX1_exploreMask_49 ?_
    refine sb_aload_n (pc' := 52) rfl rfl dX1_exploreMask_51 ?_
    refine sb_getC (pc' := 55) rfl fc_58_1 wd_431 dX1_exploreMask_52 ?_
    refine sb_iload (pc' := 57) rfl rfl dX1_exploreMask_55 ?_
    obtain ⟨o2, H⟩ := H
    refine sb_iald (pc' := 58) rfl aI_59 o2.1 o2.2 dX1_exploreMask_57 ?_
    refine sb_iconst (pc' := 59) rfl dX1_exploreMask_58 ?_
    refine sb_icmp_ne (pc' := 62) (tgt := 111) rfl (by decide) (SR_ia hS _ _) (iR_lit rfl) dX1_exploreMask_59 ?_ ?_
    · intro cc; have H := H.1 cc
      refine sb_iinc (pc' := 114) rfl rfl (L' := [some (.ref (ad 58)), some (vi x1), some (vi x2), some (vi x3), some (vi (x4 + 1)), some (vi ((((x1 * 7) + x2) * 41) + x4))]) rfl (by decide) dX1_exploreMask_111 ?_
      refine sb_goto (tgt := 31) (by decide) dX1_exploreMask_114 ?_
      obtain ⟨o3, H⟩ := H
      refine Wb.forget [true, true, true, true, true, false] ?_
      exact (H hx1 hx2 hx3 o3 hS)
    · intro cc; have H := H.2 cc
      refine sb_aload_n (pc' := 63) rfl rfl dX1_exploreMask_62 ?_
      refine sb_getI (pc' := 66) rfl fi_58_5 wd_438 dX1_exploreMask_63 ?_
      refine sb_sipush (pc' := 69) rfl (z := 7913) (by decide) dX1_exploreMask_66 ?_
      refine sb_icmp_ge (pc' := 72) (tgt := 111) rfl (by decide) (SR_sc hS _ _) (iR_lit rfl) dX1_exploreMask_69 ?_ ?_
      · intro cc; have H := H.1 cc
        refine sb_iinc (pc' := 114) rfl rfl (L' := [some (.ref (ad 58)), some (vi x1), some (vi x2), some (vi x3), some (vi (x4 + 1)), some (vi ((((x1 * 7) + x2) * 41) + x4))]) rfl (by decide) dX1_exploreMask_111 ?_
        refine sb_goto (tgt := 31) (by decide) dX1_exploreMask_114 ?_
        obtain ⟨o4, H⟩ := H
        refine Wb.forget [true, true, true, true, true, false] ?_
        exact (H hx1 hx2 hx3 o4 hS)
      · intro cc; have H := H.2 cc
        refine sb_aload_n (pc' := 73) rfl rfl dX1_exploreMask_72 ?_
        refine sb_getC (pc' := 76) rfl fc_58_2 wd_432 dX1_exploreMask_73 ?_
        refine sb_aload_n (pc' := 77) rfl rfl dX1_exploreMask_76 ?_
        refine sb_getI (pc' := 80) rfl fi_58_5 wd_438 dX1_exploreMask_77 ?_
        refine sb_iload (pc' := 82) rfl rfl dX1_exploreMask_80 ?_
        obtain ⟨o5, H⟩ := H
        obtain ⟨o6, H⟩ := H
        refine sb_iast (pc' := 83) rfl aI_60 o5.1 o5.2  dX1_exploreMask_82 ?_
        refine sb_aload_n (pc' := 84) rfl rfl dX1_exploreMask_83 ?_
        refine sb_dup (pc' := 85) rfl rfl dX1_exploreMask_84 ?_
        refine sb_getI (pc' := 88) rfl fi_58_5 wd_438 dX1_exploreMask_85 ?_
        refine sb_iconst (pc' := 89) rfl dX1_exploreMask_88 ?_
        refine sb_iadd (pc' := 90) rfl dX1_exploreMask_89 ?_
        obtain ⟨o7, H⟩ := H
        refine sb_putI (pc' := 93) rfl fi_58_5 (Or.inl rfl) wd_438 dX1_exploreMask_90 ?_
        refine sb_aload_n (pc' := 94) rfl rfl dX1_exploreMask_93 ?_
        refine sb_getC (pc' := 97) rfl fc_58_1 wd_431 dX1_exploreMask_94 ?_
        refine sb_iload (pc' := 99) rfl rfl dX1_exploreMask_97 ?_
        refine sb_aload_n (pc' := 100) rfl rfl dX1_exploreMask_99 ?_
        refine sb_getI (pc' := 103) rfl fi_58_5 wd_438 dX1_exploreMask_100 ?_
        refine sb_iast (pc' := 104) rfl aI_59 o2.1 o2.2  dX1_exploreMask_103 ?_
        refine sb_aload_n (pc' := 105) rfl rfl dX1_exploreMask_104 ?_
        refine sb_iload_n (pc' := 106) rfl rfl dX1_exploreMask_105 ?_
        refine sb_iload (pc' := 108) rfl rfl dX1_exploreMask_106 ?_
        obtain ⟨d8, hd8, H⟩ := H
        refine sb_callV (pc' := 111) rfl rfl (rc := rc) (rs := rs) (mc' := 0) (ms' := 0) (As := [(vi x1), (vi x4)]) (st := []) of_58 rfl rfl (Nat.le_of_ble_eq_true rfl) hd8 kX1_meetFrom ⟨wd_759, wd_761, wd_10⟩ dX1_exploreMask_108 (Eb.mono H ?_)
        rintro o s8 ⟨rfl, hs8, H⟩
        show Wb g ad d mX1_exploreMask Q 111 [some (.ref (ad 58)), some (vi x1), some (vi x2), some (vi x3), some (vi x4), some (vi ((((x1 * 7) + x2) * 41) + x4))] [] s8 rc rs
        refine sb_iinc (pc' := 114) rfl rfl (L' := [some (.ref (ad 58)), some (vi x1), some (vi x2), some (vi x3), some (vi (x4 + 1)), some (vi ((((x1 * 7) + x2) * 41) + x4))]) rfl (by decide) dX1_exploreMask_111 ?_
        refine sb_goto (tgt := 31) (by decide) dX1_exploreMask_114 ?_
        obtain ⟨o9, H⟩ := H
        refine Wb.forget [true, true, true, true, true, false] ?_
        exact (H hx1 hx2 hx3 o9 hs8)
theorem bX1_mayEnd_0 {g : AG} {ad : Nat → Nat} {d : Nat} {Q : AO → SG → Prop} {rc rs : Nat} {σ : SG} {x0 x1 : Int}  (hx0 : iR x0) (hx1 : iR x1) (hS : SR σ) (H : ((¬ x1 = 0 → (((bAnd (bShr x0 (x1 - 1)) 1) = 0 → (iR 0 → SR σ → Q (.inl (some (vi 0))) σ)) ∧ (¬ (bAnd (bShr x0 (x1 - 1)) 1) = 0 → (iR 1 → SR σ → Q (.inl (some (vi 1))) σ)))) ∧ (x1 = 0 → ((¬ x0 = 0 → (iR 0 → SR σ → Q (.inl (some (vi 0))) σ)) ∧ (x0 = 0 → (iR 1 → SR σ → Q (.inl (some (vi 1))) σ)))))) : Wb g ad d mX1_mayEnd Q 0 [some (vi x0), some (vi x1)] [] σ rc rs := by
  refine sb_iload_n (pc' := 1) rfl rfl dX1_mayEnd_0 ?_
  refine sb_if_ne (pc' := 4) (tgt := 16) rfl (by decide) hx1 dX1_mayEnd_1 ?_ ?_
  · intro cc; have H := H.1 cc
    refine sb_iload_n (pc' := 17) rfl rfl dX1_mayEnd_16 ?_
    refine sb_iload_n (pc' := 18) rfl rfl dX1_mayEnd_17 ?_
    refine sb_iconst (pc' := 19) rfl dX1_mayEnd_18 ?_
    refine sb_isub (pc' := 20) rfl dX1_mayEnd_19 ?_
    refine sb_ishr (pc' := 21) rfl dX1_mayEnd_20 ?_
    refine sb_iconst (pc' := 22) rfl dX1_mayEnd_21 ?_
    refine sb_iand (pc' := 23) rfl dX1_mayEnd_22 ?_
    refine sb_if_eq (pc' := 26) (tgt := 30) rfl (by decide) (iR_b _) dX1_mayEnd_23 ?_ ?_
    · intro cc; have H := H.1 cc
      refine sb_iconst (pc' := 31) rfl dX1_mayEnd_30 ?_
      exact sb_iret rfl (nar_z2 (Or.inl rfl)) dX1_mayEnd_31 (H (iR_lit rfl) hS)
    · intro cc; have H := H.2 cc
      refine sb_iconst (pc' := 27) rfl dX1_mayEnd_26 ?_
      refine sb_goto (tgt := 31) (by decide) dX1_mayEnd_27 ?_
      exact sb_iret rfl (nar_z2 (Or.inr rfl)) dX1_mayEnd_31 (H (iR_lit rfl) hS)
  · intro cc; have H := H.2 cc
    refine sb_iload_n (pc' := 5) rfl rfl dX1_mayEnd_4 ?_
    refine sb_if_ne (pc' := 8) (tgt := 12) rfl (by decide) hx0 dX1_mayEnd_5 ?_ ?_
    · intro cc; have H := H.1 cc
      refine sb_iconst (pc' := 13) rfl dX1_mayEnd_12 ?_
      refine sb_goto (tgt := 31) (by decide) dX1_mayEnd_13 ?_
      exact sb_iret rfl (nar_z2 (Or.inl rfl)) dX1_mayEnd_31 (H (iR_lit rfl) hS)
    · intro cc; have H := H.2 cc
      refine sb_iconst (pc' := 9) rfl dX1_mayEnd_8 ?_
      refine sb_goto (tgt := 31) (by decide) dX1_mayEnd_9 ?_
      exact sb_iret rfl (nar_z2 (Or.inr rfl)) dX1_mayEnd_31 (H (iR_lit rfl) hS)
theorem bX1_meetFrom_0 {g : AG} {ad : Nat → Nat} {d : Nat} {Q : AO → SG → Prop} {rc rs : Nat} {σ : SG} {x1 x2 : Int}  (hx1 : iR x1) (hx2 : iR x2) (hS : SR σ) (H : (iR x1 → iR x2 → iR 0 → SR σ → Wb g ad d mX1_meetFrom Q 2 [some (.ref (ad 58)), some (vi x1), some (vi x2), some (vi 0)] [] σ rc rs)) : Wb g ad d mX1_meetFrom Q 0 [some (.ref (ad 58)), some (vi x1), some (vi x2), none] [] σ rc rs := by
  refine sb_iconst (pc' := 1) rfl dX1_meetFrom_0 ?_
  refine sb_istore_n (pc' := 2) rfl (L' := [some (.ref (ad 58)), some (vi x1), some (vi x2), some (vi 0)]) rfl (by decide) dX1_meetFrom_1 ?_
  exact (H hx1 hx2 (iR_lit rfl) hS)
theorem bX1_meetFrom_2 {g : AG} {ad : Nat → Nat} {d : Nat} {Q : AO → SG → Prop} {rc rs : Nat} {σ : SG} {x1 x2 x3 : Int}  (hx1 : iR x1) (hx2 : iR x2) (hx3 : iR x3) (hS : SR σ) (H : (((sc σ 48 9) ≤ x3 → (SR σ → Q (.inl none) σ)) ∧ (¬ (sc σ 48 9) ≤ x3 → (0 ≤ x3 ∧ x3 < 186) ∧ ((¬ (bAnd x1 (ia σ 51 x3)) = 0 → iR (x3 + 1) ∧ (iR x1 → iR x2 → iR (x3 + 1) → SR σ → Wb g ad d mX1_meetFrom Q 2 [some (.ref (ad 58)), some (vi x1), some (vi x2), some (vi (x3 + 1))] [] σ rc rs)) ∧ ((bAnd x1 (ia σ 51 x3)) = 0 → Cl g ad d mX1_codeBehind 0 0 [(.ref (ad 58)), (vi x1), (vi x2), (vi x3)] σ (Ki fun r3 s3 => (0 ≤ r3 ∧ r3 < 18368) ∧ iR (x3 + 1) ∧ (iR x1 → iR x2 → iR (x3 + 1) → SR (setI s3 59 r3 ((-1))) → Wb g ad d mX1_meetFrom Q 2 [some (.ref (ad 58)), some (vi x1), some (vi x2), some (vi (x3 + 1))] [] (setI s3 59 r3 ((-1))) rc rs))))))) : Wb g ad d mX1_meetFrom Q 2 [some (.ref (ad 58)), some (vi x1), some (vi x2), some (vi x3)] [] σ rc rs := by
  refine sb_iload_n (pc' := 3) rfl rfl dX1_meetFrom_2 ?_
  refine sb_aload_n (pc' := 4) rfl rfl dX1_meetFrom_3 ?_
  refine sb_getC (pc' := 7) rfl fc_58_0 wd_430 dX1_meetFrom_4 ?_
  refine sb_getIN (pc' := 10) rfl fi_48_9 wd_393 dX1_meetFrom_7 ?_
  refine sb_icmp_ge (pc' := 13) (tgt := 46) rfl (by decide) hx3 (SR_sc hS _ _) dX1_meetFrom_10 ?_ ?_
  · intro cc; have H := H.1 cc
    exact sb_vret rfl dX1_meetFrom_46 (H hS)
  · intro cc; have H := H.2 cc
    refine sb_iload_n (pc' := 14) rfl rfl dX1_meetFrom_13 ?_
    refine sb_aload_n (pc' := 15) rfl rfl dX1_meetFrom_14 ?_
    refine sb_getC (pc' := 18) rfl fc_58_0 wd_430 dX1_meetFrom_15 ?_
    refine sb_getCN (pc' := 21) rfl fc_48_2 wd_370 dX1_meetFrom_18 ?_
    refine sb_iload_n (pc' := 22) rfl rfl dX1_meetFrom_21 ?_
    obtain ⟨o1, H⟩ := H
    refine sb_iald (pc' := 23) rfl aI_51 o1.1 o1.2 dX1_meetFrom_22 ?_
    refine sb_iand (pc' := 24) rfl dX1_meetFrom_23 ?_
    refine sb_if_ne (pc' := 27) (tgt := 40) rfl (by decide) (iR_b _) dX1_meetFrom_24 ?_ ?_
    · intro cc; have H := H.1 cc
      refine sb_iinc (pc' := 43) rfl rfl (L' := [some (.ref (ad 58)), some (vi x1), some (vi x2), some (vi (x3 + 1))]) rfl (by decide) dX1_meetFrom_40 ?_
      refine sb_goto (tgt := 2) (by decide) dX1_meetFrom_43 ?_
      obtain ⟨o2, H⟩ := H
      exact (H hx1 hx2 o2 hS)
    · intro cc; have H := H.2 cc
      refine sb_aload_n (pc' := 28) rfl rfl dX1_meetFrom_27 ?_
      refine sb_getC (pc' := 31) rfl fc_58_1 wd_431 dX1_meetFrom_28 ?_
      refine sb_aload_n (pc' := 32) rfl rfl dX1_meetFrom_31 ?_
      refine sb_iload_n (pc' := 33) rfl rfl dX1_meetFrom_32 ?_
      refine sb_iload_n (pc' := 34) rfl rfl dX1_meetFrom_33 ?_
      refine sb_iload_n (pc' := 35) rfl rfl dX1_meetFrom_34 ?_
      obtain ⟨d3, hd3, H⟩ := H
      refine sb_callV (pc' := 38) rfl rfl (rc := rc) (rs := rs) (mc' := 0) (ms' := 0) (As := [(vi x1), (vi x2), (vi x3)]) (st := [(.ref (ad 59))]) of_58 rfl rfl (Nat.le_of_ble_eq_true rfl) hd3 kX1_codeBehind ⟨wd_763, wd_765, wd_11⟩ dX1_meetFrom_35 (Eb.mono H ?_)
      rintro o s3 ⟨r3, rfl, hr3, hs3, H⟩
      show Wb g ad d mX1_meetFrom Q 38 [some (.ref (ad 58)), some (vi x1), some (vi x2), some (vi x3)] [(vi r3), (.ref (ad 59))] s3 rc rs
      refine sb_iconst (pc' := 39) rfl dX1_meetFrom_38 ?_
      obtain ⟨o4, H⟩ := H
      refine sb_iast (pc' := 40) rfl aI_59 o4.1 o4.2  dX1_meetFrom_39 ?_
      refine sb_iinc (pc' := 43) rfl rfl (L' := [some (.ref (ad 58)), some (vi x1), some (vi x2), some (vi (x3 + 1))]) rfl (by decide) dX1_meetFrom_40 ?_
      refine sb_goto (tgt := 2) (by decide) dX1_meetFrom_43 ?_
      obtain ⟨o5, H⟩ := H
      exact (H hx1 hx2 o5 (SR_setI hs3 (iR_lit rfl)))
theorem bX1_reckon_0 {g : AG} {ad : Nat → Nat} {d : Nat} {Q : AO → SG → Prop} {rc rs : Nat} {σ : SG} {x1 x2 x3 : Int}  (hx1 : iR x1) (hx2 : iR x2) (hx3 : iR x3) (hS : SR σ) (H : (0 ≤ sc (setS (setS (setS σ 58 6 x1) 58 7 x2) 58 8 x3) 48 10 ∧ sc (setS (setS (setS σ 58 6 x1) 58 7 x2) 58 8 x3) 48 10 < 8) ∧ iR ((sc (setS (setS (setS σ 58 6 x1) 58 7 x2) 58 8 x3) 58 5) - 1) ∧ (iR x1 → iR x2 → iR x3 → iR (ia (setS (setS (setS σ 58 6 x1) 58 7 x2) 58 8 x3) 62 (sc (setS (setS (setS σ 58 6 x1) 58 7 x2) 58 8 x3) 48 10)) → iR ((sc (setS (setS (setS σ 58 6 x1) 58 7 x2) 58 8 x3) 58 5) - 1) → SR (setS (setS (setS σ 58 6 x1) 58 7 x2) 58 8 x3) → Wb g ad d mX1_reckon Q 37 [some (.ref (ad 58)), some (vi x1), some (vi x2), some (vi x3), some (vi (ia (setS (setS (setS σ 58 6 x1) 58 7 x2) 58 8 x3) 62 (sc (setS (setS (setS σ 58 6 x1) 58 7 x2) 58 8 x3) 48 10))), some (vi ((sc (setS (setS (setS σ 58 6 x1) 58 7 x2) 58 8 x3) 58 5) - 1))] [] (setS (setS (setS σ 58 6 x1) 58 7 x2) 58 8 x3) rc rs)) : Wb g ad d mX1_reckon Q 0 [some (.ref (ad 58)), some (vi x1), some (vi x2), some (vi x3), none, none] [] σ rc rs := by
  refine sb_aload_n (pc' := 1) rfl rfl dX1_reckon_0 ?_
  refine sb_iload_n (pc' := 2) rfl rfl dX1_reckon_1 ?_
  refine sb_putI (pc' := 5) rfl fi_58_6 (Or.inl rfl) wd_440 dX1_reckon_2 ?_
  refine sb_aload_n (pc' := 6) rfl rfl dX1_reckon_5 ?_
  refine sb_iload_n (pc' := 7) rfl rfl dX1_reckon_6 ?_
  refine sb_putI (pc' := 10) rfl fi_58_7 (Or.inl rfl) wd_442 dX1_reckon_7 ?_
  refine sb_aload_n (pc' := 11) rfl rfl dX1_reckon_10 ?_
  refine sb_iload_n (pc' := 12) rfl rfl dX1_reckon_11 ?_
  refine sb_putI (pc' := 15) rfl fi_58_8 (Or.inl rfl) wd_443 dX1_reckon_12 ?_
  refine sb_aload_n (pc' := 16) rfl rfl dX1_reckon_15 ?_
  refine sb_getC (pc' := 19) rfl fc_58_4 wd_435 dX1_reckon_16 ?_
  refine sb_aload_n (pc' := 20) rfl rfl dX1_reckon_19 ?_
  refine sb_getC (pc' := 23) rfl fc_58_0 wd_430 dX1_reckon_20 ?_
  refine sb_getIN (pc' := 26) rfl fi_48_10 wd_397 dX1_reckon_23 ?_
  obtain ⟨o1, H⟩ := H
  refine sb_iald (pc' := 27) rfl aI_62 o1.1 o1.2 dX1_reckon_26 ?_
  refine sb_istore (pc' := 29) rfl (L' := [some (.ref (ad 58)), some (vi x1), some (vi x2), some (vi x3), some (vi (ia (setS (setS (setS σ 58 6 x1) 58 7 x2) 58 8 x3) 62 (sc (setS (setS (setS σ 58 6 x1) 58 7 x2) 58 8 x3) 48 10))), none]) rfl (by decide) dX1_reckon_27 ?_
  refine sb_aload_n (pc' := 30) rfl rfl dX1_reckon_29 ?_
  refine sb_getI (pc' := 33) rfl fi_58_5 wd_438 dX1_reckon_30 ?_
  refine sb_iconst (pc' := 34) rfl dX1_reckon_33 ?_
  refine sb_isub (pc' := 35) rfl dX1_reckon_34 ?_
  refine sb_istore (pc' := 37) rfl (L' := [some (.ref (ad 58)), some (vi x1), some (vi x2), some (vi x3), some (vi (ia (setS (setS (setS σ 58 6 x1) 58 7 x2) 58 8 x3) 62 (sc (setS (setS (setS σ 58 6 x1) 58 7 x2) 58 8 x3) 48 10))), some (vi ((sc (setS (setS (setS σ 58 6 x1) 58 7 x2) 58 8 x3) 58 5) - 1))]) rfl (by decide) dX1_reckon_35 ?_
  obtain ⟨o2, H⟩ := H
  exact (H hx1 hx2 hx3 (SR_ia (SR_setS (SR_setS (SR_setS hS hx1) hx2) hx3) _ _) o2 (SR_setS (SR_setS (SR_setS hS hx1) hx2) hx3))
theorem bX1_reckon_37 {g : AG} {ad : Nat → Nat} {d : Nat} {Q : AO → SG → Prop} {rc rs : Nat} {σ : SG} {x1 x2 x3 x4 x5 : Int}  (hx1 : iR x1) (hx2 : iR x2) (hx3 : iR x3) (hx4 : iR x4) (hx5 : iR x5) (hS : SR σ) (H : ((x5 < 0 → (SR σ → Q (.inl none) σ)) ∧ (¬ x5 < 0 → ((x5 < x4 → Cl g ad d mX1_leastRest 0 0 [(.ref (ad 58)), (vi x5)] σ (Ki fun r1 s1 => (0 ≤ x5 ∧ x5 < 7913) ∧ iR (x5 + (-1)) ∧ (iR x1 → iR x2 → iR x3 → iR x4 → iR (x5 + (-1)) → SR (setI s1 61 x5 r1) → Wb g ad d mX1_reckon Q 37 [some (.ref (ad 58)), some (vi x1), some (vi x2), some (vi x3), some (vi x4), some (vi (x5 + (-1)))] [] (setI s1 61 x5 r1) rc rs))) ∧ (¬ x5 < x4 → Cl g ad d mX1_last 0 0 [(.ref (ad 58)), (vi x5)] σ (Ki fun r4 s4 => Cl g ad d mX5_ending 0 0 [(.ref (ad 48)), (vi r4)] s4 (Ki fun r5 s5 => (0 ≤ x5 ∧ x5 < 7913) ∧ iR (x5 + (-1)) ∧ (iR x1 → iR x2 → iR x3 → iR x4 → iR (x5 + (-1)) → SR (setI s5 61 x5 r5) → Wb g ad d mX1_reckon Q 37 [some (.ref (ad 58)), some (vi x1), some (vi x2), some (vi x3), some (vi x4), some (vi (x5 + (-1)))] [] (setI s5 61 x5 r5) rc rs)))))))) : Wb g ad d mX1_reckon Q 37 [some (.ref (ad 58)), some (vi x1), some (vi x2), some (vi x3), some (vi x4), some (vi x5)] [] σ rc rs := by
  refine sb_iload (pc' := 39) rfl rfl dX1_reckon_37 ?_
  refine sb_if_lt (pc' := 42) (tgt := 84) rfl (by decide) hx5 dX1_reckon_39 ?_ ?_
  · intro cc; have H := H.1 cc
    exact sb_vret rfl dX1_reckon_84 (H hS)
  · intro cc; have H := H.2 cc
    refine sb_aload_n (pc' := 43) rfl rfl dX1_reckon_42 ?_
    refine sb_getC (pc' := 46) rfl fc_58_3 wd_433 dX1_reckon_43 ?_
    refine sb_iload (pc' := 48) rfl rfl dX1_reckon_46 ?_
    refine sb_iload (pc' := 50) rfl rfl dX1_reckon_48 ?_
    refine sb_iload (pc' := 52) rfl rfl dX1_reckon_50 ?_
    refine sb_icmp_lt (pc' := 55) (tgt := 71) rfl (by decide) hx5 hx4 dX1_reckon_52 ?_ ?_
    · intro cc; have H := H.1 cc
      refine sb_aload_n (pc' := 72) rfl rfl dX1_reckon_71 ?_
      refine sb_iload (pc' := 74) rfl rfl dX1_reckon_72 ?_
      obtain ⟨d1, hd1, H⟩ := H
      refine sb_callV (pc' := 77) rfl rfl (rc := rc) (rs := rs) (mc' := 0) (ms' := 0) (As := [(vi x5)]) (st := [(vi x5), (.ref (ad 61))]) of_58 rfl rfl (Nat.le_of_ble_eq_true rfl) hd1 kX1_leastRest ⟨wd_803, wd_805, wd_19⟩ dX1_reckon_74 (Eb.mono H ?_)
      rintro o s1 ⟨r1, rfl, hr1, hs1, H⟩
      show Wb g ad d mX1_reckon Q 77 [some (.ref (ad 58)), some (vi x1), some (vi x2), some (vi x3), some (vi x4), some (vi x5)] [(vi r1), (vi x5), (.ref (ad 61))] s1 rc rs
      obtain ⟨o2, H⟩ := H
      refine sb_iast (pc' := 78) rfl aI_61 o2.1 o2.2  dX1_reckon_77 ?_
      refine sb_iinc (pc' := 81) rfl rfl (L' := [some (.ref (ad 58)), some (vi x1), some (vi x2), some (vi x3), some (vi x4), some (vi (x5 + (-1)))]) rfl (by decide) dX1_reckon_78 ?_
      refine sb_goto (tgt := 37) (by decide) dX1_reckon_81 ?_
      obtain ⟨o3, H⟩ := H
      exact (H hx1 hx2 hx3 hx4 o3 (SR_setI hs1 hr1))
    · intro cc; have H := H.2 cc
      refine sb_aload_n (pc' := 56) rfl rfl dX1_reckon_55 ?_
      refine sb_getC (pc' := 59) rfl fc_58_0 wd_430 dX1_reckon_56 ?_
      refine sb_aload_n (pc' := 60) rfl rfl dX1_reckon_59 ?_
      refine sb_iload (pc' := 62) rfl rfl dX1_reckon_60 ?_
      obtain ⟨d4, hd4, H⟩ := H
      refine sb_callV (pc' := 65) rfl rfl (rc := rc) (rs := rs) (mc' := 0) (ms' := 0) (As := [(vi x5)]) (st := [(.ref (ad 48)), (vi x5), (.ref (ad 61))]) of_58 rfl rfl (Nat.le_of_ble_eq_true rfl) hd4 kX1_last ⟨wd_795, wd_797, wd_17⟩ dX1_reckon_62 (Eb.mono H ?_)
      rintro o s4 ⟨r4, rfl, hr4, hs4, H⟩
      show Wb g ad d mX1_reckon Q 65 [some (.ref (ad 58)), some (vi x1), some (vi x2), some (vi x3), some (vi x4), some (vi x5)] [(vi r4), (.ref (ad 48)), (vi x5), (.ref (ad 61))] s4 rc rs
      obtain ⟨d5, hd5, H⟩ := H
      refine sb_callVN (pc' := 68) rfl rfl (rc := rc) (rs := rs) (mc' := 0) (ms' := 0) (As := [(vi r4)]) (st := [(vi x5), (.ref (ad 61))]) of_48 rfl rfl (Nat.le_of_ble_eq_true rfl) hd5 kX5_ending ⟨wd_799, wd_801, wd_18⟩ dX1_reckon_65 (Eb.mono H ?_)
      rintro o s5 ⟨r5, rfl, hr5, hs5, H⟩
      show Wb g ad d mX1_reckon Q 68 [some (.ref (ad 58)), some (vi x1), some (vi x2), some (vi x3), some (vi x4), some (vi x5)] [(vi r5), (vi x5), (.ref (ad 61))] s5 rc rs
      refine sb_goto (tgt := 77) (by decide) dX1_reckon_68 ?_
      obtain ⟨o6, H⟩ := H
      refine sb_iast (pc' := 78) rfl aI_61 o6.1 o6.2  dX1_reckon_77 ?_
      refine sb_iinc (pc' := 81) rfl rfl (L' := [some (.ref (ad 58)), some (vi x1), some (vi x2), some (vi x3), some (vi x4), some (vi (x5 + (-1)))]) rfl (by decide) dX1_reckon_78 ?_
      refine sb_goto (tgt := 37) (by decide) dX1_reckon_81 ?_
      obtain ⟨o7, H⟩ := H
      exact (H hx1 hx2 hx3 hx4 o7 (SR_setI hs5 hr5))
theorem bX1_leastRest_0 {g : AG} {ad : Nat → Nat} {d : Nat} {Q : AO → SG → Prop} {rc rs : Nat} {σ : SG} {x1 : Int}  (hx1 : iR x1) (hS : SR σ) (H : Cl g ad d mX1_mask 0 0 [(.ref (ad 58)), (vi x1)] σ (Ki fun r1 s1 => Cl g ad d mX1_behind 0 0 [(.ref (ad 58)), (vi x1)] s1 (Ki fun r2 s2 => Cl g ad d mX1_last 0 0 [(.ref (ad 58)), (vi x1)] s2 (Ki fun r3 s3 => (iR x1 → iR r1 → iR r2 → iR r3 → iR 1000000 → iR 0 → SR s3 → Wb g ad d mX1_leastRest Q 26 [some (.ref (ad 58)), some (vi x1), some (vi r1), some (vi r2), some (vi r3), some (vi 1000000), some (vi 0), none, none] [] s3 rc rs))))) : Wb g ad d mX1_leastRest Q 0 [some (.ref (ad 58)), some (vi x1), none, none, none, none, none, none, none] [] σ rc rs := by
  refine sb_aload_n (pc' := 1) rfl rfl dX1_leastRest_0 ?_
  refine sb_iload_n (pc' := 2) rfl rfl dX1_leastRest_1 ?_
  obtain ⟨d1, hd1, H⟩ := H
  refine sb_callV (pc' := 5) rfl rfl (rc := rc) (rs := rs) (mc' := 0) (ms' := 0) (As := [(vi x1)]) (st := []) of_58 rfl rfl (Nat.le_of_ble_eq_true rfl) hd1 kX1_mask ⟨wd_807, wd_809, wd_20⟩ dX1_leastRest_2 (Eb.mono H ?_)
  rintro o s1 ⟨r1, rfl, hr1, hs1, H⟩
  show Wb g ad d mX1_leastRest Q 5 [some (.ref (ad 58)), some (vi x1), none, none, none, none, none, none, none] [(vi r1)] s1 rc rs
  refine sb_istore_n (pc' := 6) rfl (L' := [some (.ref (ad 58)), some (vi x1), some (vi r1), none, none, none, none, none, none]) rfl (by decide) dX1_leastRest_5 ?_
  refine sb_aload_n (pc' := 7) rfl rfl dX1_leastRest_6 ?_
  refine sb_iload_n (pc' := 8) rfl rfl dX1_leastRest_7 ?_
  obtain ⟨d2, hd2, H⟩ := H
  refine sb_callV (pc' := 11) rfl rfl (rc := rc) (rs := rs) (mc' := 0) (ms' := 0) (As := [(vi x1)]) (st := []) of_58 rfl rfl (Nat.le_of_ble_eq_true rfl) hd2 kX1_behind ⟨wd_811, wd_813, wd_21⟩ dX1_leastRest_8 (Eb.mono H ?_)
  rintro o s2 ⟨r2, rfl, hr2, hs2, H⟩
  show Wb g ad d mX1_leastRest Q 11 [some (.ref (ad 58)), some (vi x1), some (vi r1), none, none, none, none, none, none] [(vi r2)] s2 rc rs
  refine sb_istore_n (pc' := 12) rfl (L' := [some (.ref (ad 58)), some (vi x1), some (vi r1), some (vi r2), none, none, none, none, none]) rfl (by decide) dX1_leastRest_11 ?_
  refine sb_aload_n (pc' := 13) rfl rfl dX1_leastRest_12 ?_
  refine sb_iload_n (pc' := 14) rfl rfl dX1_leastRest_13 ?_
  obtain ⟨d3, hd3, H⟩ := H
  refine sb_callV (pc' := 17) rfl rfl (rc := rc) (rs := rs) (mc' := 0) (ms' := 0) (As := [(vi x1)]) (st := []) of_58 rfl rfl (Nat.le_of_ble_eq_true rfl) hd3 kX1_last ⟨wd_795, wd_797, wd_17⟩ dX1_leastRest_14 (Eb.mono H ?_)
  rintro o s3 ⟨r3, rfl, hr3, hs3, H⟩
  show Wb g ad d mX1_leastRest Q 17 [some (.ref (ad 58)), some (vi x1), some (vi r1), some (vi r2), none, none, none, none, none] [(vi r3)] s3 rc rs
  refine sb_istore (pc' := 19) rfl (L' := [some (.ref (ad 58)), some (vi x1), some (vi r1), some (vi r2), some (vi r3), none, none, none, none]) rfl (by decide) dX1_leastRest_17 ?_
  refine sb_ldc (pc' := 21) rfl (z := 1000000) rfl wd_815 dX1_leastRest_19 ?_
  refine sb_istore (pc' := 23) rfl (L' := [some (.ref (ad 58)), some (vi x1), some (vi r1), some (vi r2), some (vi r3), some (vi 1000000), none, none, none]) rfl (by decide) dX1_leastRest_21 ?_
  refine sb_iconst (pc' := 24) rfl dX1_leastRest_23 ?_
  refine sb_istore (pc' := 26) rfl (L' := [some (.ref (ad 58)), some (vi x1), some (vi r1), some (vi r2), some (vi r3), some (vi 1000000), some (vi 0), none, none]) rfl (by decide) dX1_leastRest_24 ?_
  exact (H hx1 hr1 hr2 hr3 (iR_lit rfl) (iR_lit rfl) hs3)
theorem bX1_leastRest_26 {g : AG} {ad : Nat → Nat} {d : Nat} {Q : AO → SG → Prop} {rc rs : Nat} {σ : SG} {x1 x2 x3 x4 x5 x6 : Int}  (hx1 : iR x1) (hx2 : iR x2) (hx3 : iR x3) (hx4 : iR x4) (hx5 : iR x5) (hx6 : iR x6) (hS : SR σ) (H : (((sc σ 48 9) ≤ x6 → (iR x5 → SR σ → Q (.inl (some (vi x5))) σ)) ∧ (¬ (sc σ 48 9) ≤ x6 → (0 ≤ x6 ∧ x6 < 186) ∧ ((¬ (bAnd x2 (ia σ 51 x6)) = 0 → iR (x6 + 1) ∧ (iR x1 → iR x2 → iR x3 → iR x4 → iR x5 → iR (x6 + 1) → SR σ → Wb g ad d mX1_leastRest Q 26 [some (.ref (ad 58)), some (vi x1), some (vi x2), some (vi x3), some (vi x4), some (vi x5), some (vi (x6 + 1)), none, none] [] σ rc rs)) ∧ ((bAnd x2 (ia σ 51 x6)) = 0 → ((¬ (ia σ 52 x6) = (sc σ 58 8) → Cl g ad d mX5_gap 0 0 [(.ref (ad 48)), (vi x6), (vi x3)] σ (Ki fun r3 s3 => Cl g ad d mX1_follow 0 0 [(.ref (ad 58)), (vi x2), (vi x4), (vi x6)] s3 (Ki fun r4 s4 => (((sc s4 58 7) < r3 → iR (x6 + 1) ∧ (iR x1 → iR x2 → iR x3 → iR x4 → iR x5 → iR (x6 + 1) → SR s4 → Wb g ad d mX1_leastRest Q 26 [some (.ref (ad 58)), some (vi x1), some (vi x2), some (vi x3), some (vi x4), some (vi x5), some (vi (x6 + 1)), none, none] [] s4 rc rs)) ∧ (¬ (sc s4 58 7) < r3 → ((r4 < 0 → iR (x6 + 1) ∧ (iR x1 → iR x2 → iR x3 → iR x4 → iR x5 → iR (x6 + 1) → SR s4 → Wb g ad d mX1_leastRest Q 26 [some (.ref (ad 58)), some (vi x1), some (vi x2), some (vi x3), some (vi x4), some (vi x5), some (vi (x6 + 1)), none, none] [] s4 rc rs)) ∧ (¬ r4 < 0 → (0 ≤ r4 ∧ r4 < 7913) ∧ Cl g ad d mX5_standing 0 0 [(.ref (ad 48)), (vi x6), (vi x4)] s4 (Ki fun r8 s8 => Cl g ad d mJ9_min_7cf53 0 0 [(vi x5), (vi (((ia s4 61 r4) + r8) + ((sc s8 58 6) * r3)))] s8 (Ki fun r9 s9 => iR (x6 + 1) ∧ (iR x1 → iR x2 → iR x3 → iR x4 → iR r9 → iR (x6 + 1) → SR s9 → Wb g ad d mX1_leastRest Q 26 [some (.ref (ad 58)), some (vi x1), some (vi x2), some (vi x3), some (vi x4), some (vi r9), some (vi (x6 + 1)), none, none] [] s9 rc rs)))))))))) ∧ ((ia σ 52 x6) = (sc σ 58 8) → iR (x6 + 1) ∧ (iR x1 → iR x2 → iR x3 → iR x4 → iR x5 → iR (x6 + 1) → SR σ → Wb g ad d mX1_leastRest Q 26 [some (.ref (ad 58)), some (vi x1), some (vi x2), some (vi x3), some (vi x4), some (vi x5), some (vi (x6 + 1)), none, none] [] σ rc rs)))))))) : Wb g ad d mX1_leastRest Q 26 [some (.ref (ad 58)), some (vi x1), some (vi x2), some (vi x3), some (vi x4), some (vi x5), some (vi x6), none, none] [] σ rc rs := by
  refine sb_iload (pc' := 28) rfl rfl dX1_leastRest_26 ?_
  refine sb_aload_n (pc' := 29) rfl rfl dX1_leastRest_28 ?_
  refine sb_getC (pc' := 32) rfl fc_58_0 wd_430 dX1_leastRest_29 ?_
  refine sb_getIN (pc' := 35) rfl fi_48_9 wd_393 dX1_leastRest_32 ?_
  refine sb_icmp_ge (pc' := 38) (tgt := 150) rfl (by decide) hx6 (SR_sc hS _ _) dX1_leastRest_35 ?_ ?_
  · intro cc; have H := H.1 cc
    refine sb_iload (pc' := 152) rfl rfl dX1_leastRest_150 ?_
    exact sb_iret rfl rfl dX1_leastRest_152 (H hx5 hS)
  · intro cc; have H := H.2 cc
    refine sb_iload_n (pc' := 39) rfl rfl dX1_leastRest_38 ?_
    refine sb_aload_n (pc' := 40) rfl rfl dX1_leastRest_39 ?_
    refine sb_getC (pc' := 43) rfl fc_58_0 wd_430 dX1_leastRest_40 ?_
    refine sb_getCN (pc' := 46) rfl fc_48_2 wd_370 dX1_leastRest_43 ?_
    refine sb_iload (pc' := 48) rfl rfl dX1_leastRest_46 ?_
    obtain ⟨o1, H⟩ := H
    refine sb_iald (pc' := 49) rfl aI_51 o1.1 o1.2 dX1_leastRest_48 ?_
    refine sb_iand (pc' := 50) rfl dX1_leastRest_49 ?_
    refine sb_if_ne (pc' := 53) (tgt := 144) rfl (by decide) (iR_b _) dX1_leastRest_50 ?_ ?_
    · intro cc; have H := H.1 cc
      refine sb_iinc (pc' := 147) rfl rfl (L' := [some (.ref (ad 58)), some (vi x1), some (vi x2), some (vi x3), some (vi x4), some (vi x5), some (vi (x6 + 1)), none, none]) rfl (by decide) dX1_leastRest_144 ?_
      refine sb_goto (tgt := 26) (by decide) dX1_leastRest_147 ?_
      obtain ⟨o2, H⟩ := H
      exact (H hx1 hx2 hx3 hx4 hx5 o2 hS)
    · intro cc; have H := H.2 cc
      refine sb_aload_n (pc' := 54) rfl rfl dX1_leastRest_53 ?_
      refine sb_getC (pc' := 57) rfl fc_58_0 wd_430 dX1_leastRest_54 ?_
      refine sb_getCN (pc' := 60) rfl fc_48_3 wd_374 dX1_leastRest_57 ?_
      refine sb_iload (pc' := 62) rfl rfl dX1_leastRest_60 ?_
      refine sb_iald (pc' := 63) rfl aI_52 o1.1 o1.2 dX1_leastRest_62 ?_
      refine sb_aload_n (pc' := 64) rfl rfl dX1_leastRest_63 ?_
      refine sb_getI (pc' := 67) rfl fi_58_8 wd_443 dX1_leastRest_64 ?_
      refine sb_icmp_ne (pc' := 70) (tgt := 73) rfl (by decide) (SR_ia hS _ _) (SR_sc hS _ _) dX1_leastRest_67 ?_ ?_
      · intro cc; have H := H.1 cc
        refine sb_aload_n (pc' := 74) rfl rfl dX1_leastRest_73 ?_
        refine sb_getC (pc' := 77) rfl fc_58_0 wd_430 dX1_leastRest_74 ?_
        refine sb_iload (pc' := 79) rfl rfl dX1_leastRest_77 ?_
        refine sb_iload_n (pc' := 80) rfl rfl dX1_leastRest_79 ?_
        obtain ⟨d3, hd3, H⟩ := H
        refine sb_callVN (pc' := 83) rfl rfl (rc := rc) (rs := rs) (mc' := 0) (ms' := 0) (As := [(vi x6), (vi x3)]) (st := []) of_48 rfl rfl (Nat.le_of_ble_eq_true rfl) hd3 kX5_gap ⟨wd_816, wd_818, wd_22⟩ dX1_leastRest_80 (Eb.mono H ?_)
        rintro o s3 ⟨r3, rfl, hr3, hs3, H⟩
        show Wb g ad d mX1_leastRest Q 83 [some (.ref (ad 58)), some (vi x1), some (vi x2), some (vi x3), some (vi x4), some (vi x5), some (vi x6), none, none] [(vi r3)] s3 rc rs
        refine sb_istore (pc' := 85) rfl (L' := [some (.ref (ad 58)), some (vi x1), some (vi x2), some (vi x3), some (vi x4), some (vi x5), some (vi x6), some (vi r3), none]) rfl (by decide) dX1_leastRest_83 ?_
        refine sb_aload_n (pc' := 86) rfl rfl dX1_leastRest_85 ?_
        refine sb_iload_n (pc' := 87) rfl rfl dX1_leastRest_86 ?_
        refine sb_iload (pc' := 89) rfl rfl dX1_leastRest_87 ?_
        refine sb_iload (pc' := 91) rfl rfl dX1_leastRest_89 ?_
        obtain ⟨d4, hd4, H⟩ := H
        refine sb_callV (pc' := 94) rfl rfl (rc := rc) (rs := rs) (mc' := 0) (ms' := 0) (As := [(vi x2), (vi x4), (vi x6)]) (st := []) of_58 rfl rfl (Nat.le_of_ble_eq_true rfl) hd4 kX1_follow ⟨wd_823, wd_825, wd_23⟩ dX1_leastRest_91 (Eb.mono H ?_)
        rintro o s4 ⟨r4, rfl, hr4, hs4, H⟩
        show Wb g ad d mX1_leastRest Q 94 [some (.ref (ad 58)), some (vi x1), some (vi x2), some (vi x3), some (vi x4), some (vi x5), some (vi x6), some (vi r3), none] [(vi r4)] s4 rc rs
        refine sb_istore (pc' := 96) rfl (L' := [some (.ref (ad 58)), some (vi x1), some (vi x2), some (vi x3), some (vi x4), some (vi x5), some (vi x6), some (vi r3), some (vi r4)]) rfl (by decide) dX1_leastRest_94 ?_
        refine sb_iload (pc' := 98) rfl rfl dX1_leastRest_96 ?_
        refine sb_aload_n (pc' := 99) rfl rfl dX1_leastRest_98 ?_
        refine sb_getI (pc' := 102) rfl fi_58_7 wd_442 dX1_leastRest_99 ?_
        refine sb_icmp_gt (pc' := 105) (tgt := 144) rfl (by decide) hr3 (SR_sc hs4 _ _) dX1_leastRest_102 ?_ ?_
        · intro cc; have H := H.1 cc
          refine sb_iinc (pc' := 147) rfl rfl (L' := [some (.ref (ad 58)), some (vi x1), some (vi x2), some (vi x3), some (vi x4), some (vi x5), some (vi (x6 + 1)), some (vi r3), some (vi r4)]) rfl (by decide) dX1_leastRest_144 ?_
          refine sb_goto (tgt := 26) (by decide) dX1_leastRest_147 ?_
          obtain ⟨o5, H⟩ := H
          refine Wb.forget [true, true, true, true, true, true, true, false, false] ?_
          exact (H hx1 hx2 hx3 hx4 hx5 o5 hs4)
        · intro cc; have H := H.2 cc
          refine sb_iload (pc' := 107) rfl rfl dX1_leastRest_105 ?_
          refine sb_if_lt (pc' := 110) (tgt := 144) rfl (by decide) hr4 dX1_leastRest_107 ?_ ?_
          · intro cc; have H := H.1 cc
            refine sb_iinc (pc' := 147) rfl rfl (L' := [some (.ref (ad 58)), some (vi x1), some (vi x2), some (vi x3), some (vi x4), some (vi x5), some (vi (x6 + 1)), some (vi r3), some (vi r4)]) rfl (by decide) dX1_leastRest_144 ?_
            refine sb_goto (tgt := 26) (by decide) dX1_leastRest_147 ?_
            obtain ⟨o6, H⟩ := H
            refine Wb.forget [true, true, true, true, true, true, true, false, false] ?_
            exact (H hx1 hx2 hx3 hx4 hx5 o6 hs4)
          · intro cc; have H := H.2 cc
            refine sb_iload (pc' := 112) rfl rfl dX1_leastRest_110 ?_
            refine sb_aload_n (pc' := 113) rfl rfl dX1_leastRest_112 ?_
            refine sb_getC (pc' := 116) rfl fc_58_3 wd_433 dX1_leastRest_113 ?_
            refine sb_iload (pc' := 118) rfl rfl dX1_leastRest_116 ?_
            obtain ⟨o7, H⟩ := H
            refine sb_iald (pc' := 119) rfl aI_61 o7.1 o7.2 dX1_leastRest_118 ?_
            refine sb_aload_n (pc' := 120) rfl rfl dX1_leastRest_119 ?_
            refine sb_getC (pc' := 123) rfl fc_58_0 wd_430 dX1_leastRest_120 ?_
            refine sb_iload (pc' := 125) rfl rfl dX1_leastRest_123 ?_
            refine sb_iload (pc' := 127) rfl rfl dX1_leastRest_125 ?_
            obtain ⟨d8, hd8, H⟩ := H
            refine sb_callVN (pc' := 130) rfl rfl (rc := rc) (rs := rs) (mc' := 0) (ms' := 0) (As := [(vi x6), (vi x4)]) (st := [(vi (ia s4 61 r4)), (vi x5)]) of_48 rfl rfl (Nat.le_of_ble_eq_true rfl) hd8 kX5_standing ⟨wd_827, wd_829, wd_24⟩ dX1_leastRest_127 (Eb.mono H ?_)
            rintro o s8 ⟨r8, rfl, hr8, hs8, H⟩
            show Wb g ad d mX1_leastRest Q 130 [some (.ref (ad 58)), some (vi x1), some (vi x2), some (vi x3), some (vi x4), some (vi x5), some (vi x6), some (vi r3), some (vi r4)] [(vi r8), (vi (ia s4 61 r4)), (vi x5)] s8 rc rs
            refine sb_iadd (pc' := 131) rfl dX1_leastRest_130 ?_
            refine sb_aload_n (pc' := 132) rfl rfl dX1_leastRest_131 ?_
            refine sb_getI (pc' := 135) rfl fi_58_6 wd_440 dX1_leastRest_132 ?_
            refine sb_iload (pc' := 137) rfl rfl dX1_leastRest_135 ?_
            refine sb_imul (pc' := 138) rfl dX1_leastRest_137 ?_
            refine sb_iadd (pc' := 139) rfl dX1_leastRest_138 ?_
            obtain ⟨d9, hd9, H⟩ := H
            refine sb_callS (pc' := 142) rfl rfl (rc := rc) (rs := rs) (mc' := 0) (ms' := 0) (As := [(vi x5), (vi (((ia s4 61 r4) + r8) + ((sc s8 58 6) * r3)))]) (st := [])  rfl rfl (Nat.le_of_ble_eq_true rfl) hd9 kJ9_min_7cf53 ⟨wd_831, wd_776⟩ dX1_leastRest_139 (Eb.mono H ?_)
            rintro o s9 ⟨r9, rfl, hr9, hs9, H⟩
            show Wb g ad d mX1_leastRest Q 142 [some (.ref (ad 58)), some (vi x1), some (vi x2), some (vi x3), some (vi x4), some (vi x5), some (vi x6), some (vi r3), some (vi r4)] [(vi r9)] s9 rc rs
            refine sb_istore (pc' := 144) rfl (L' := [some (.ref (ad 58)), some (vi x1), some (vi x2), some (vi x3), some (vi x4), some (vi r9), some (vi x6), some (vi r3), some (vi r4)]) rfl (by decide) dX1_leastRest_142 ?_
            refine sb_iinc (pc' := 147) rfl rfl (L' := [some (.ref (ad 58)), some (vi x1), some (vi x2), some (vi x3), some (vi x4), some (vi r9), some (vi (x6 + 1)), some (vi r3), some (vi r4)]) rfl (by decide) dX1_leastRest_144 ?_
            refine sb_goto (tgt := 26) (by decide) dX1_leastRest_147 ?_
            obtain ⟨o10, H⟩ := H
            refine Wb.forget [true, true, true, true, true, true, true, false, false] ?_
            exact (H hx1 hx2 hx3 hx4 hr9 o10 hs9)
      · intro cc; have H := H.2 cc
        refine sb_goto (tgt := 144) (by decide) dX1_leastRest_70 ?_
        refine sb_iinc (pc' := 147) rfl rfl (L' := [some (.ref (ad 58)), some (vi x1), some (vi x2), some (vi x3), some (vi x4), some (vi x5), some (vi (x6 + 1)), none, none]) rfl (by decide) dX1_leastRest_144 ?_
        refine sb_goto (tgt := 26) (by decide) dX1_leastRest_147 ?_
        obtain ⟨o11, H⟩ := H
        exact (H hx1 hx2 hx3 hx4 hx5 o11 hS)
theorem bX2_copy_0 {g : AG} {ad : Nat → Nat} {d : Nat} {Q : AO → SG → Prop} {rc rs : Nat} {σ : SG}  {k0 : Nat} (hk0 : isK k0) {k1 : Nat} (hk1 : isK k1)  (hS : SR σ) (H : 2 ≤ d ∧ (SR (setA σ (k0 + 1) (cpy (ia σ (k1 + 1)) (ia σ (k0 + 1)) 0 0 320)) → Wb g ad d mX2_copy Q 18 [some (.ref (ad k0)), some (.ref (ad k1)), none] [] (setA σ (k0 + 1) (cpy (ia σ (k1 + 1)) (ia σ (k0 + 1)) 0 0 320)) rc rs)) : Wb g ad d mX2_copy Q 0 [some (.ref (ad k0)), some (.ref (ad k1)), none] [] σ rc rs := by
  refine sb_aload_n (pc' := 1) rfl rfl dX2_copy_0 ?_
  refine sb_getC (pc' := 4) rfl (fcK_0 hk1) wd_202 dX2_copy_1 ?_
  refine sb_iconst (pc' := 5) rfl dX2_copy_4 ?_
  refine sb_aload_n (pc' := 6) rfl rfl dX2_copy_5 ?_
  refine sb_getC (pc' := 9) rfl (fcK_0 hk0) wd_202 dX2_copy_6 ?_
  refine sb_iconst (pc' := 10) rfl dX2_copy_9 ?_
  refine sb_aload_n (pc' := 11) rfl rfl dX2_copy_10 ?_
  refine sb_getC (pc' := 14) rfl (fcK_0 hk0) wd_202 dX2_copy_11 ?_
  refine sb_alen (pc' := 15) rfl (z := 320) (Or.inl rfl) (aIK_1 hk0).1 (by decide) dX2_copy_14 ?_
  obtain ⟨o1, H⟩ := H
  refine sb_copy (pc' := 18) rfl (aIK_1 hk1) (aIK_1 hk0) ⟨by decide, by decide, by decide, by decide, by decide⟩ (Nat.le_of_ble_eq_true rfl) o1 wd_974 dX2_copy_15 ?_
  exact (H (SR_cpy hS))
theorem bX2_copy_18 {g : AG} {ad : Nat → Nat} {d : Nat} {Q : AO → SG → Prop} {rc rs : Nat} {σ : SG}  {k0 : Nat} (hk0 : isK k0) {k1 : Nat} (hk1 : isK k1)  (hS : SR σ) (H : 2 ≤ d ∧ (SR (setA σ (k0 + 2) (cpy (ia σ (k1 + 2)) (ia σ (k0 + 2)) 0 0 40)) → Wb g ad d mX2_copy Q 36 [some (.ref (ad k0)), some (.ref (ad k1)), none] [] (setA σ (k0 + 2) (cpy (ia σ (k1 + 2)) (ia σ (k0 + 2)) 0 0 40)) rc rs)) : Wb g ad d mX2_copy Q 18 [some (.ref (ad k0)), some (.ref (ad k1)), none] [] σ rc rs := by
  refine sb_aload_n (pc' := 19) rfl rfl dX2_copy_18 ?_
  refine sb_getC (pc' := 22) rfl (fcK_1 hk1) wd_204 dX2_copy_19 ?_
  refine sb_iconst (pc' := 23) rfl dX2_copy_22 ?_
  refine sb_aload_n (pc' := 24) rfl rfl dX2_copy_23 ?_
  refine sb_getC (pc' := 27) rfl (fcK_1 hk0) wd_204 dX2_copy_24 ?_
  refine sb_iconst (pc' := 28) rfl dX2_copy_27 ?_
  refine sb_aload_n (pc' := 29) rfl rfl dX2_copy_28 ?_
  refine sb_getC (pc' := 32) rfl (fcK_1 hk0) wd_204 dX2_copy_29 ?_
  refine sb_alen (pc' := 33) rfl (z := 40) (Or.inl rfl) (aIK_2 hk0).1 (by decide) dX2_copy_32 ?_
  obtain ⟨o1, H⟩ := H
  refine sb_copy (pc' := 36) rfl (aIK_2 hk1) (aIK_2 hk0) ⟨by decide, by decide, by decide, by decide, by decide⟩ (Nat.le_of_ble_eq_true rfl) o1 wd_974 dX2_copy_33 ?_
  exact (H (SR_cpy hS))
theorem bX2_copy_36 {g : AG} {ad : Nat → Nat} {d : Nat} {Q : AO → SG → Prop} {rc rs : Nat} {σ : SG}  {k0 : Nat} (hk0 : isK k0) {k1 : Nat} (hk1 : isK k1)  (hS : SR σ) (H : (SR (setS σ k0 2 (sc σ k1 2)) → Wb g ad d mX2_copy Q 44 [some (.ref (ad k0)), some (.ref (ad k1)), none] [] (setS σ k0 2 (sc σ k1 2)) rc rs)) : Wb g ad d mX2_copy Q 36 [some (.ref (ad k0)), some (.ref (ad k1)), none] [] σ rc rs := by
  refine sb_aload_n (pc' := 37) rfl rfl dX2_copy_36 ?_
  refine sb_aload_n (pc' := 38) rfl rfl dX2_copy_37 ?_
  refine sb_getI (pc' := 41) rfl (fiK_2 hk1) wd_206 dX2_copy_38 ?_
  refine sb_putI (pc' := 44) rfl (fiK_2 hk0) (Or.inl rfl) wd_206 dX2_copy_41 ?_
  exact (H (SR_setS hS (SR_sc hS _ _)))
theorem bX2_copy_44 {g : AG} {ad : Nat → Nat} {d : Nat} {Q : AO → SG → Prop} {rc rs : Nat} {σ : SG}  {k0 : Nat} (hk0 : isK k0) {k1 : Nat} (hk1 : isK k1)  (hS : SR σ) (H : 2 ≤ d ∧ (SR (setA σ (k0 + 3) (cpy (ia σ (k1 + 3)) (ia σ (k0 + 3)) 0 0 90)) → Wb g ad d mX2_copy Q 62 [some (.ref (ad k0)), some (.ref (ad k1)), none] [] (setA σ (k0 + 3) (cpy (ia σ (k1 + 3)) (ia σ (k0 + 3)) 0 0 90)) rc rs)) : Wb g ad d mX2_copy Q 44 [some (.ref (ad k0)), some (.ref (ad k1)), none] [] σ rc rs := by
  refine sb_aload_n (pc' := 45) rfl rfl dX2_copy_44 ?_
  refine sb_getC (pc' := 48) rfl (fcK_3 hk1) wd_209 dX2_copy_45 ?_
  refine sb_iconst (pc' := 49) rfl dX2_copy_48 ?_
  refine sb_aload_n (pc' := 50) rfl rfl dX2_copy_49 ?_
  refine sb_getC (pc' := 53) rfl (fcK_3 hk0) wd_209 dX2_copy_50 ?_
  refine sb_iconst (pc' := 54) rfl dX2_copy_53 ?_
  refine sb_aload_n (pc' := 55) rfl rfl dX2_copy_54 ?_
  refine sb_getC (pc' := 58) rfl (fcK_3 hk0) wd_209 dX2_copy_55 ?_
  refine sb_alen (pc' := 59) rfl (z := 90) (Or.inl rfl) (aIK_3 hk0).1 (by decide) dX2_copy_58 ?_
  obtain ⟨o1, H⟩ := H
  refine sb_copy (pc' := 62) rfl (aIK_3 hk1) (aIK_3 hk0) ⟨by decide, by decide, by decide, by decide, by decide⟩ (Nat.le_of_ble_eq_true rfl) o1 wd_974 dX2_copy_59 ?_
  exact (H (SR_cpy hS))
theorem bX2_copy_62 {g : AG} {ad : Nat → Nat} {d : Nat} {Q : AO → SG → Prop} {rc rs : Nat} {σ : SG}  {k0 : Nat} (hk0 : isK k0) {k1 : Nat} (hk1 : isK k1)  (hS : SR σ) (H : 2 ≤ d ∧ (SR (setA σ (k0 + 4) (cpy (ia σ (k1 + 4)) (ia σ (k0 + 4)) 0 0 30)) → Wb g ad d mX2_copy Q 80 [some (.ref (ad k0)), some (.ref (ad k1)), none] [] (setA σ (k0 + 4) (cpy (ia σ (k1 + 4)) (ia σ (k0 + 4)) 0 0 30)) rc rs)) : Wb g ad d mX2_copy Q 62 [some (.ref (ad k0)), some (.ref (ad k1)), none] [] σ rc rs := by
  refine sb_aload_n (pc' := 63) rfl rfl dX2_copy_62 ?_
  refine sb_getC (pc' := 66) rfl (fcK_4 hk1) wd_211 dX2_copy_63 ?_
  refine sb_iconst (pc' := 67) rfl dX2_copy_66 ?_
  refine sb_aload_n (pc' := 68) rfl rfl dX2_copy_67 ?_
  refine sb_getC (pc' := 71) rfl (fcK_4 hk0) wd_211 dX2_copy_68 ?_
  refine sb_iconst (pc' := 72) rfl dX2_copy_71 ?_
  refine sb_aload_n (pc' := 73) rfl rfl dX2_copy_72 ?_
  refine sb_getC (pc' := 76) rfl (fcK_4 hk0) wd_211 dX2_copy_73 ?_
  refine sb_alen (pc' := 77) rfl (z := 30) (Or.inl rfl) (aIK_4 hk0).1 (by decide) dX2_copy_76 ?_
  obtain ⟨o1, H⟩ := H
  refine sb_copy (pc' := 80) rfl (aIK_4 hk1) (aIK_4 hk0) ⟨by decide, by decide, by decide, by decide, by decide⟩ (Nat.le_of_ble_eq_true rfl) o1 wd_974 dX2_copy_77 ?_
  exact (H (SR_cpy hS))
theorem bX2_copy_80 {g : AG} {ad : Nat → Nat} {d : Nat} {Q : AO → SG → Prop} {rc rs : Nat} {σ : SG}  {k0 : Nat} (hk0 : isK k0) {k1 : Nat} (hk1 : isK k1)  (hS : SR σ) (H : 2 ≤ d ∧ (SR (setA σ (k0 + 5) (cpy (ia σ (k1 + 5)) (ia σ (k0 + 5)) 0 0 90)) → Wb g ad d mX2_copy Q 98 [some (.ref (ad k0)), some (.ref (ad k1)), none] [] (setA σ (k0 + 5) (cpy (ia σ (k1 + 5)) (ia σ (k0 + 5)) 0 0 90)) rc rs)) : Wb g ad d mX2_copy Q 80 [some (.ref (ad k0)), some (.ref (ad k1)), none] [] σ rc rs := by
  refine sb_aload_n (pc' := 81) rfl rfl dX2_copy_80 ?_
  refine sb_getC (pc' := 84) rfl (fcK_5 hk1) wd_214 dX2_copy_81 ?_
  refine sb_iconst (pc' := 85) rfl dX2_copy_84 ?_
  refine sb_aload_n (pc' := 86) rfl rfl dX2_copy_85 ?_
  refine sb_getC (pc' := 89) rfl (fcK_5 hk0) wd_214 dX2_copy_86 ?_
  refine sb_iconst (pc' := 90) rfl dX2_copy_89 ?_
  refine sb_aload_n (pc' := 91) rfl rfl dX2_copy_90 ?_
  refine sb_getC (pc' := 94) rfl (fcK_5 hk0) wd_214 dX2_copy_91 ?_
  refine sb_alen (pc' := 95) rfl (z := 90) (Or.inl rfl) (aIK_5 hk0).1 (by decide) dX2_copy_94 ?_
  obtain ⟨o1, H⟩ := H
  refine sb_copy (pc' := 98) rfl (aIK_5 hk1) (aIK_5 hk0) ⟨by decide, by decide, by decide, by decide, by decide⟩ (Nat.le_of_ble_eq_true rfl) o1 wd_974 dX2_copy_95 ?_
  exact (H (SR_cpy hS))
theorem bX2_copy_98 {g : AG} {ad : Nat → Nat} {d : Nat} {Q : AO → SG → Prop} {rc rs : Nat} {σ : SG}  {k0 : Nat} (hk0 : isK k0) {k1 : Nat} (hk1 : isK k1)  (hS : SR σ) (H : 2 ≤ d ∧ (SR (setA σ (k0 + 6) (cpy (ia σ (k1 + 6)) (ia σ (k0 + 6)) 0 0 30)) → Wb g ad d mX2_copy Q 116 [some (.ref (ad k0)), some (.ref (ad k1)), none] [] (setA σ (k0 + 6) (cpy (ia σ (k1 + 6)) (ia σ (k0 + 6)) 0 0 30)) rc rs)) : Wb g ad d mX2_copy Q 98 [some (.ref (ad k0)), some (.ref (ad k1)), none] [] σ rc rs := by
  refine sb_aload_n (pc' := 99) rfl rfl dX2_copy_98 ?_
  refine sb_getC (pc' := 102) rfl (fcK_6 hk1) wd_217 dX2_copy_99 ?_
  refine sb_iconst (pc' := 103) rfl dX2_copy_102 ?_
  refine sb_aload_n (pc' := 104) rfl rfl dX2_copy_103 ?_
  refine sb_getC (pc' := 107) rfl (fcK_6 hk0) wd_217 dX2_copy_104 ?_
  refine sb_iconst (pc' := 108) rfl dX2_copy_107 ?_
  refine sb_aload_n (pc' := 109) rfl rfl dX2_copy_108 ?_
  refine sb_getC (pc' := 112) rfl (fcK_6 hk0) wd_217 dX2_copy_109 ?_
  refine sb_alen (pc' := 113) rfl (z := 30) (Or.inl rfl) (aIK_6 hk0).1 (by decide) dX2_copy_112 ?_
  obtain ⟨o1, H⟩ := H
  refine sb_copy (pc' := 116) rfl (aIK_6 hk1) (aIK_6 hk0) ⟨by decide, by decide, by decide, by decide, by decide⟩ (Nat.le_of_ble_eq_true rfl) o1 wd_974 dX2_copy_113 ?_
  exact (H (SR_cpy hS))
theorem bX2_copy_116 {g : AG} {ad : Nat → Nat} {d : Nat} {Q : AO → SG → Prop} {rc rs : Nat} {σ : SG}  {k0 : Nat} (hk0 : isK k0) {k1 : Nat} (hk1 : isK k1)  (hS : SR σ) (H : 2 ≤ d ∧ (SR (setA σ (k0 + 7) (cpy (ia σ (k1 + 7)) (ia σ (k0 + 7)) 0 0 30)) → Wb g ad d mX2_copy Q 134 [some (.ref (ad k0)), some (.ref (ad k1)), none] [] (setA σ (k0 + 7) (cpy (ia σ (k1 + 7)) (ia σ (k0 + 7)) 0 0 30)) rc rs)) : Wb g ad d mX2_copy Q 116 [some (.ref (ad k0)), some (.ref (ad k1)), none] [] σ rc rs := by
  refine sb_aload_n (pc' := 117) rfl rfl dX2_copy_116 ?_
  refine sb_getC (pc' := 120) rfl (fcK_7 hk1) wd_220 dX2_copy_117 ?_
  refine sb_iconst (pc' := 121) rfl dX2_copy_120 ?_
  refine sb_aload_n (pc' := 122) rfl rfl dX2_copy_121 ?_
  refine sb_getC (pc' := 125) rfl (fcK_7 hk0) wd_220 dX2_copy_122 ?_
  refine sb_iconst (pc' := 126) rfl dX2_copy_125 ?_
  refine sb_aload_n (pc' := 127) rfl rfl dX2_copy_126 ?_
  refine sb_getC (pc' := 130) rfl (fcK_7 hk0) wd_220 dX2_copy_127 ?_
  refine sb_alen (pc' := 131) rfl (z := 30) (Or.inl rfl) (aIK_7 hk0).1 (by decide) dX2_copy_130 ?_
  obtain ⟨o1, H⟩ := H
  refine sb_copy (pc' := 134) rfl (aIK_7 hk1) (aIK_7 hk0) ⟨by decide, by decide, by decide, by decide, by decide⟩ (Nat.le_of_ble_eq_true rfl) o1 wd_974 dX2_copy_131 ?_
  exact (H (SR_cpy hS))
theorem bX2_copy_134 {g : AG} {ad : Nat → Nat} {d : Nat} {Q : AO → SG → Prop} {rc rs : Nat} {σ : SG}  {k0 : Nat} (hk0 : isK k0) {k1 : Nat} (hk1 : isK k1)  (hS : SR σ) (H : (iR 0 → SR σ → Wb g ad d mX2_copy Q 136 [some (.ref (ad k0)), some (.ref (ad k1)), some (vi 0)] [] σ rc rs)) : Wb g ad d mX2_copy Q 134 [some (.ref (ad k0)), some (.ref (ad k1)), none] [] σ rc rs := by
  refine sb_iconst (pc' := 135) rfl dX2_copy_134 ?_
  refine sb_istore_n (pc' := 136) rfl (L' := [some (.ref (ad k0)), some (.ref (ad k1)), some (vi 0)]) rfl (by decide) dX2_copy_135 ?_
  exact (H (iR_lit rfl) hS)
theorem bX2_copy_136 {g : AG} {ad : Nat → Nat} {d : Nat} {Q : AO → SG → Prop} {rc rs : Nat} {σ : SG} {x2 : Int} {k0 : Nat} (hk0 : isK k0) {k1 : Nat} (hk1 : isK k1) (hx2 : iR x2) (hS : SR σ) (H : ((30 ≤ x2 → (iR x2 → SR (setS σ k0 9 (sc σ k1 9)) → Wb g ad d mX2_copy Q 168 [some (.ref (ad k0)), some (.ref (ad k1)), some (vi x2)] [] (setS σ k0 9 (sc σ k1 9)) rc rs)) ∧ (¬ 30 ≤ x2 → (0 ≤ x2 ∧ x2 < 30) ∧ (ia σ (k1 + 8) x2 = 0 ∨ ia σ (k1 + 8) x2 = 1) ∧ iR (x2 + 1) ∧ (iR (x2 + 1) → SR (setI σ (k0 + 8) x2 (ia σ (k1 + 8) x2)) → Wb g ad d mX2_copy Q 136 [some (.ref (ad k0)), some (.ref (ad k1)), some (vi (x2 + 1))] [] (setI σ (k0 + 8) x2 (ia σ (k1 + 8) x2)) rc rs)))) : Wb g ad d mX2_copy Q 136 [some (.ref (ad k0)), some (.ref (ad k1)), some (vi x2)] [] σ rc rs := by
  refine sb_iload_n (pc' := 137) rfl rfl dX2_copy_136 ?_
  refine sb_bipush (pc' := 139) rfl (z := 30) (by decide) dX2_copy_137 ?_
  refine sb_icmp_ge (pc' := 142) (tgt := 160) rfl (by decide) hx2 (iR_lit rfl) dX2_copy_139 ?_ ?_
  · intro cc; have H := H.1 cc
    refine sb_aload_n (pc' := 161) rfl rfl dX2_copy_160 ?_
    refine sb_aload_n (pc' := 162) rfl rfl dX2_copy_161 ?_
    refine sb_getI (pc' := 165) rfl (fiK_9 hk1) wd_227 dX2_copy_162 ?_
    refine sb_putI (pc' := 168) rfl (fiK_9 hk0) (Or.inl rfl) wd_227 dX2_copy_165 ?_
    exact (H hx2 (SR_setS hS (SR_sc hS _ _)))
  · intro cc; have H := H.2 cc
    refine sb_aload_n (pc' := 143) rfl rfl dX2_copy_142 ?_
    refine sb_getC (pc' := 146) rfl (fcK_8 hk0) wd_224 dX2_copy_143 ?_
    refine sb_iload_n (pc' := 147) rfl rfl dX2_copy_146 ?_
    refine sb_aload_n (pc' := 148) rfl rfl dX2_copy_147 ?_
    refine sb_getC (pc' := 151) rfl (fcK_8 hk1) wd_224 dX2_copy_148 ?_
    refine sb_iload_n (pc' := 152) rfl rfl dX2_copy_151 ?_
    obtain ⟨o1, H⟩ := H
    refine sb_zald (pc' := 153) rfl (aZK_8 hk1) o1.1 o1.2 dX2_copy_152 ?_
    obtain ⟨o2, H⟩ := H
    refine sb_zast (pc' := 154) rfl (aZK_8 hk0) o1.1 o1.2 o2 dX2_copy_153 ?_
    refine sb_iinc (pc' := 157) rfl rfl (L' := [some (.ref (ad k0)), some (.ref (ad k1)), some (vi (x2 + 1))]) rfl (by decide) dX2_copy_154 ?_
    refine sb_goto (tgt := 136) (by decide) dX2_copy_157 ?_
    obtain ⟨o3, H⟩ := H
    exact (H o3 (SR_setI hS (SR_ia hS _ _)))
theorem bX2_copy_168 {g : AG} {ad : Nat → Nat} {d : Nat} {Q : AO → SG → Prop} {rc rs : Nat} {σ : SG} {x2 : Int} {k0 : Nat} (hk0 : isK k0) {k1 : Nat} (hk1 : isK k1) (hx2 : iR x2) (hS : SR σ) (H : 2 ≤ d ∧ (iR x2 → SR (setA σ (k0 + 9) (cpy (ia σ (k1 + 9)) (ia σ (k0 + 9)) 0 0 1681)) → Wb g ad d mX2_copy Q 186 [some (.ref (ad k0)), some (.ref (ad k1)), some (vi x2)] [] (setA σ (k0 + 9) (cpy (ia σ (k1 + 9)) (ia σ (k0 + 9)) 0 0 1681)) rc rs)) : Wb g ad d mX2_copy Q 168 [some (.ref (ad k0)), some (.ref (ad k1)), some (vi x2)] [] σ rc rs := by
  refine sb_aload_n (pc' := 169) rfl rfl dX2_copy_168 ?_
  refine sb_getC (pc' := 172) rfl (fcK_10 hk1) wd_230 dX2_copy_169 ?_
  refine sb_iconst (pc' := 173) rfl dX2_copy_172 ?_
  refine sb_aload_n (pc' := 174) rfl rfl dX2_copy_173 ?_
  refine sb_getC (pc' := 177) rfl (fcK_10 hk0) wd_230 dX2_copy_174 ?_
  refine sb_iconst (pc' := 178) rfl dX2_copy_177 ?_
  refine sb_aload_n (pc' := 179) rfl rfl dX2_copy_178 ?_
  refine sb_getC (pc' := 182) rfl (fcK_10 hk0) wd_230 dX2_copy_179 ?_
  refine sb_alen (pc' := 183) rfl (z := 1681) (Or.inl rfl) (aIK_9 hk0).1 (by decide) dX2_copy_182 ?_
  obtain ⟨o1, H⟩ := H
  refine sb_copy (pc' := 186) rfl (aIK_9 hk1) (aIK_9 hk0) ⟨by decide, by decide, by decide, by decide, by decide⟩ (Nat.le_of_ble_eq_true rfl) o1 wd_974 dX2_copy_183 ?_
  exact (H hx2 (SR_cpy hS))
theorem bX2_copy_186 {g : AG} {ad : Nat → Nat} {d : Nat} {Q : AO → SG → Prop} {rc rs : Nat} {σ : SG} {x2 : Int} {k0 : Nat} (hk0 : isK k0) {k1 : Nat} (hk1 : isK k1) (hx2 : iR x2) (hS : SR σ) (H : (iR x2 → SR (setS σ k0 11 (sc σ k1 11)) → Wb g ad d mX2_copy Q 194 [some (.ref (ad k0)), some (.ref (ad k1)), some (vi x2)] [] (setS σ k0 11 (sc σ k1 11)) rc rs)) : Wb g ad d mX2_copy Q 186 [some (.ref (ad k0)), some (.ref (ad k1)), some (vi x2)] [] σ rc rs := by
  refine sb_aload_n (pc' := 187) rfl rfl dX2_copy_186 ?_
  refine sb_aload_n (pc' := 188) rfl rfl dX2_copy_187 ?_
  refine sb_getI (pc' := 191) rfl (fiK_11 hk1) wd_231 dX2_copy_188 ?_
  refine sb_putI (pc' := 194) rfl (fiK_11 hk0) (Or.inl rfl) wd_231 dX2_copy_191 ?_
  exact (H hx2 (SR_setS hS (SR_sc hS _ _)))
theorem bX2_copy_194 {g : AG} {ad : Nat → Nat} {d : Nat} {Q : AO → SG → Prop} {rc rs : Nat} {σ : SG} {x2 : Int} {k0 : Nat} (hk0 : isK k0) {k1 : Nat} (hk1 : isK k1) (hx2 : iR x2) (hS : SR σ) (H : 2 ≤ d ∧ (iR x2 → SR (setA σ (k0 + 10) (cpy (ia σ (k1 + 10)) (ia σ (k0 + 10)) 0 0 6)) → Wb g ad d mX2_copy Q 212 [some (.ref (ad k0)), some (.ref (ad k1)), some (vi x2)] [] (setA σ (k0 + 10) (cpy (ia σ (k1 + 10)) (ia σ (k0 + 10)) 0 0 6)) rc rs)) : Wb g ad d mX2_copy Q 194 [some (.ref (ad k0)), some (.ref (ad k1)), some (vi x2)] [] σ rc rs := by
  refine sb_aload_n (pc' := 195) rfl rfl dX2_copy_194 ?_
  refine sb_getC (pc' := 198) rfl (fcK_12 hk1) wd_233 dX2_copy_195 ?_
  refine sb_iconst (pc' := 199) rfl dX2_copy_198 ?_
  refine sb_aload_n (pc' := 200) rfl rfl dX2_copy_199 ?_
  refine sb_getC (pc' := 203) rfl (fcK_12 hk0) wd_233 dX2_copy_200 ?_
  refine sb_iconst (pc' := 204) rfl dX2_copy_203 ?_
  refine sb_aload_n (pc' := 205) rfl rfl dX2_copy_204 ?_
  refine sb_getC (pc' := 208) rfl (fcK_12 hk0) wd_233 dX2_copy_205 ?_
  refine sb_alen (pc' := 209) rfl (z := 6) (Or.inl rfl) (aIK_10 hk0).1 (by decide) dX2_copy_208 ?_
  obtain ⟨o1, H⟩ := H
  refine sb_copy (pc' := 212) rfl (aIK_10 hk1) (aIK_10 hk0) ⟨by decide, by decide, by decide, by decide, by decide⟩ (Nat.le_of_ble_eq_true rfl) o1 wd_974 dX2_copy_209 ?_
  exact (H hx2 (SR_cpy hS))
theorem bX2_copy_212 {g : AG} {ad : Nat → Nat} {d : Nat} {Q : AO → SG → Prop} {rc rs : Nat} {σ : SG} {x2 : Int} {k0 : Nat} (hk0 : isK k0) {k1 : Nat} (hk1 : isK k1) (hx2 : iR x2) (hS : SR σ) (H : (iR x2 → SR (setS σ k0 13 (sc σ k1 13)) → Wb g ad d mX2_copy Q 220 [some (.ref (ad k0)), some (.ref (ad k1)), some (vi x2)] [] (setS σ k0 13 (sc σ k1 13)) rc rs)) : Wb g ad d mX2_copy Q 212 [some (.ref (ad k0)), some (.ref (ad k1)), some (vi x2)] [] σ rc rs := by
  refine sb_aload_n (pc' := 213) rfl rfl dX2_copy_212 ?_
  refine sb_aload_n (pc' := 214) rfl rfl dX2_copy_213 ?_
  refine sb_getI (pc' := 217) rfl (fiK_13 hk1) wd_237 dX2_copy_214 ?_
  refine sb_putI (pc' := 220) rfl (fiK_13 hk0) (Or.inl rfl) wd_237 dX2_copy_217 ?_
  exact (H hx2 (SR_setS hS (SR_sc hS _ _)))
theorem bX2_copy_220 {g : AG} {ad : Nat → Nat} {d : Nat} {Q : AO → SG → Prop} {rc rs : Nat} {σ : SG} {x2 : Int} {k0 : Nat} (hk0 : isK k0) {k1 : Nat} (hk1 : isK k1) (hx2 : iR x2) (hS : SR σ) (H : 2 ≤ d ∧ (iR x2 → SR (setA σ (k0 + 11) (cpy (ia σ (k1 + 11)) (ia σ (k0 + 11)) 0 0 5)) → Wb g ad d mX2_copy Q 238 [some (.ref (ad k0)), some (.ref (ad k1)), some (vi x2)] [] (setA σ (k0 + 11) (cpy (ia σ (k1 + 11)) (ia σ (k0 + 11)) 0 0 5)) rc rs)) : Wb g ad d mX2_copy Q 220 [some (.ref (ad k0)), some (.ref (ad k1)), some (vi x2)] [] σ rc rs := by
  refine sb_aload_n (pc' := 221) rfl rfl dX2_copy_220 ?_
  refine sb_getC (pc' := 224) rfl (fcK_14 hk1) wd_239 dX2_copy_221 ?_
  refine sb_iconst (pc' := 225) rfl dX2_copy_224 ?_
  refine sb_aload_n (pc' := 226) rfl rfl dX2_copy_225 ?_
  refine sb_getC (pc' := 229) rfl (fcK_14 hk0) wd_239 dX2_copy_226 ?_
  refine sb_iconst (pc' := 230) rfl dX2_copy_229 ?_
  refine sb_aload_n (pc' := 231) rfl rfl dX2_copy_230 ?_
  refine sb_getC (pc' := 234) rfl (fcK_14 hk0) wd_239 dX2_copy_231 ?_
  refine sb_alen (pc' := 235) rfl (z := 5) (Or.inl rfl) (aIK_11 hk0).1 (by decide) dX2_copy_234 ?_
  obtain ⟨o1, H⟩ := H
  refine sb_copy (pc' := 238) rfl (aIK_11 hk1) (aIK_11 hk0) ⟨by decide, by decide, by decide, by decide, by decide⟩ (Nat.le_of_ble_eq_true rfl) o1 wd_974 dX2_copy_235 ?_
  exact (H hx2 (SR_cpy hS))
theorem bX2_copy_238 {g : AG} {ad : Nat → Nat} {d : Nat} {Q : AO → SG → Prop} {rc rs : Nat} {σ : SG} {x2 : Int} {k0 : Nat} (hk0 : isK k0) {k1 : Nat} (hk1 : isK k1) (hx2 : iR x2) (hS : SR σ) (H : (SR σ → Q (.inl none) σ)) : Wb g ad d mX2_copy Q 238 [some (.ref (ad k0)), some (.ref (ad k1)), some (vi x2)] [] σ rc rs := by
  exact sb_vret rfl dX2_copy_238 (H hS)
theorem bX2_findWord_0 {g : AG} {ad : Nat → Nat} {d : Nat} {Q : AO → SG → Prop} {rc rs : Nat} {σ : SG} {x2 x3 : Int} {k0 : Nat} (hk0 : isK k0) {c1 n1 : Nat} (hc1 : aI c1 n1) (hx2 : iR x2) (hx3 : iR x3) (hS : SR σ) (H : (iR x2 → iR x3 → iR 0 → SR σ → Wb g ad d mX2_findWord Q 3 [some (.ref (ad k0)), some (.ref (ad c1)), some (vi x2), some (vi x3), some (vi 0)] [] σ rc rs)) : Wb g ad d mX2_findWord Q 0 [some (.ref (ad k0)), some (.ref (ad c1)), some (vi x2), some (vi x3), none] [] σ rc rs := by
  refine sb_iconst (pc' := 1) rfl dX2_findWord_0 ?_
  refine sb_istore (pc' := 3) rfl (L' := [some (.ref (ad k0)), some (.ref (ad c1)), some (vi x2), some (vi x3), some (vi 0)]) rfl (by decide) dX2_findWord_1 ?_
  exact (H hx2 hx3 (iR_lit rfl) hS)
theorem bX2_findWord_3 {g : AG} {ad : Nat → Nat} {d : Nat} {Q : AO → SG → Prop} {rc rs : Nat} {σ : SG} {x2 x3 x4 : Int} {k0 : Nat} (hk0 : isK k0) {c1 n1 : Nat} (hc1 : aI c1 n1) (hx2 : iR x2) (hx3 : iR x3) (hx4 : iR x4) (hS : SR σ) (H : (((sc σ k0 2) ≤ x4 → (iR ((-1)) → SR σ → Q (.inl (some (vi ((-1))))) σ)) ∧ (¬ (sc σ k0 2) ≤ x4 → (0 ≤ x4 ∧ x4 < 40) ∧ ((¬ (ia σ (k0 + 2) x4) = x3 → iR (x4 + 1) ∧ (iR x2 → iR x3 → iR (x4 + 1) → SR σ → Wb g ad d mX2_findWord Q 3 [some (.ref (ad k0)), some (.ref (ad c1)), some (vi x2), some (vi x3), some (vi (x4 + 1))] [] σ rc rs)) ∧ ((ia σ (k0 + 2) x4) = x3 → Cl g ad d mX2_sameRow 0 0 [(.ref (ad (k0 + 1))), (vi (x4 * 8)), (.ref (ad c1)), (vi x2), (vi x3)] σ (Ki fun r3 s3 => ((r3 = 0 → iR (x4 + 1) ∧ (iR x2 → iR x3 → iR (x4 + 1) → SR s3 → Wb g ad d mX2_findWord Q 3 [some (.ref (ad k0)), some (.ref (ad c1)), some (vi x2), some (vi x3), some (vi (x4 + 1))] [] s3 rc rs)) ∧ (¬ r3 = 0 → (iR x4 → SR s3 → Q (.inl (some (vi x4))) s3))))))))) : Wb g ad d mX2_findWord Q 3 [some (.ref (ad k0)), some (.ref (ad c1)), some (vi x2), some (vi x3), some (vi x4)] [] σ rc rs := by
  refine sb_iload (pc' := 5) rfl rfl dX2_findWord_3 ?_
  refine sb_aload_n (pc' := 6) rfl rfl dX2_findWord_5 ?_
  refine sb_getI (pc' := 9) rfl (fiK_2 hk0) wd_206 dX2_findWord_6 ?_
  refine sb_icmp_ge (pc' := 12) (tgt := 50) rfl (by decide) hx4 (SR_sc hS _ _) dX2_findWord_9 ?_ ?_
  · intro cc; have H := H.1 cc
    refine sb_iconst (pc' := 51) rfl dX2_findWord_50 ?_
    exact sb_iret rfl rfl dX2_findWord_51 (H (iR_lit rfl) hS)
  · intro cc; have H := H.2 cc
    refine sb_aload_n (pc' := 13) rfl rfl dX2_findWord_12 ?_
    refine sb_getC (pc' := 16) rfl (fcK_1 hk0) wd_204 dX2_findWord_13 ?_
    refine sb_iload (pc' := 18) rfl rfl dX2_findWord_16 ?_
    obtain ⟨o1, H⟩ := H
    refine sb_iald (pc' := 19) rfl (aIK_2 hk0) o1.1 o1.2 dX2_findWord_18 ?_
    refine sb_iload_n (pc' := 20) rfl rfl dX2_findWord_19 ?_
    refine sb_icmp_ne (pc' := 23) (tgt := 44) rfl (by decide) (SR_ia hS _ _) hx3 dX2_findWord_20 ?_ ?_
    · intro cc; have H := H.1 cc
      refine sb_iinc (pc' := 47) rfl rfl (L' := [some (.ref (ad k0)), some (.ref (ad c1)), some (vi x2), some (vi x3), some (vi (x4 + 1))]) rfl (by decide) dX2_findWord_44 ?_
      refine sb_goto (tgt := 3) (by decide) dX2_findWord_47 ?_
      obtain ⟨o2, H⟩ := H
      exact (H hx2 hx3 o2 hS)
    · intro cc; have H := H.2 cc
      refine sb_aload_n (pc' := 24) rfl rfl dX2_findWord_23 ?_
      refine sb_getC (pc' := 27) rfl (fcK_0 hk0) wd_202 dX2_findWord_24 ?_
      refine sb_iload (pc' := 29) rfl rfl dX2_findWord_27 ?_
      refine sb_bipush (pc' := 31) rfl (z := 8) (by decide) dX2_findWord_29 ?_
      refine sb_imul (pc' := 32) rfl dX2_findWord_31 ?_
      refine sb_aload_n (pc' := 33) rfl rfl dX2_findWord_32 ?_
      refine sb_iload_n (pc' := 34) rfl rfl dX2_findWord_33 ?_
      refine sb_iload_n (pc' := 35) rfl rfl dX2_findWord_34 ?_
      obtain ⟨d3, hd3, H⟩ := H
      refine sb_callS (pc' := 38) rfl rfl (rc := rc) (rs := rs) (mc' := 0) (ms' := 0) (As := [(.ref (ad (k0 + 1))), (vi (x4 * 8)), (.ref (ad c1)), (vi x2), (vi x3)]) (st := [])  rfl rfl (Nat.le_of_ble_eq_true rfl) hd3 kX2_sameRow ⟨wd_720, wd_721⟩ dX2_findWord_35 (Eb.mono H ?_)
      rintro o s3 ⟨r3, rfl, hr3, hs3, H⟩
      show Wb g ad d mX2_findWord Q 38 [some (.ref (ad k0)), some (.ref (ad c1)), some (vi x2), some (vi x3), some (vi x4)] [(vi r3)] s3 rc rs
      refine sb_if_eq (pc' := 41) (tgt := 44) rfl (by decide) hr3 dX2_findWord_38 ?_ ?_
      · intro cc; have H := H.1 cc
        refine sb_iinc (pc' := 47) rfl rfl (L' := [some (.ref (ad k0)), some (.ref (ad c1)), some (vi x2), some (vi x3), some (vi (x4 + 1))]) rfl (by decide) dX2_findWord_44 ?_
        refine sb_goto (tgt := 3) (by decide) dX2_findWord_47 ?_
        obtain ⟨o4, H⟩ := H
        exact (H hx2 hx3 o4 hs3)
      · intro cc; have H := H.2 cc
        refine sb_iload (pc' := 43) rfl rfl dX2_findWord_41 ?_
        exact sb_iret rfl rfl dX2_findWord_43 (H hx4 hs3)
theorem bX2_addWord_0 {g : AG} {ad : Nat → Nat} {d : Nat} {Q : AO → SG → Prop} {rc rs : Nat} {σ : SG} {x2 x3 : Int} {k0 : Nat} (hk0 : isK k0) {c1 n1 : Nat} (hc1 : aI c1 n1) (hx2 : iR x2) (hx3 : iR x3) (hS : SR σ) (H : ((0 : Int) ≤ x2 ∧ (0 : Int) ≤ (sc σ k0 2) * 8 ∧ (0 : Int) ≤ x3 ∧ (x2 : Int) + x3 ≤ n1 ∧ ((sc σ k0 2) * 8 : Int) + x3 ≤ 320) ∧ 2 ≤ d ∧ (0 ≤ sc σ k0 2 ∧ sc σ k0 2 < 40) ∧ iR ((sc (setI (setA σ (k0 + 1) (cpy (ia σ c1) (ia σ (k0 + 1)) x2 ((sc σ k0 2) * 8) x3)) (k0 + 2) (sc σ k0 2) x3) k0 2) + 1) ∧ (iR (sc σ k0 2) → SR (setS (setI (setA σ (k0 + 1) (cpy (ia σ c1) (ia σ (k0 + 1)) x2 ((sc σ k0 2) * 8) x3)) (k0 + 2) (sc σ k0 2) x3) k0 2 ((sc (setI (setA σ (k0 + 1) (cpy (ia σ c1) (ia σ (k0 + 1)) x2 ((sc σ k0 2) * 8) x3)) (k0 + 2) (sc σ k0 2) x3) k0 2) + 1)) → Q (.inl (some (vi (sc σ k0 2)))) (setS (setI (setA σ (k0 + 1) (cpy (ia σ c1) (ia σ (k0 + 1)) x2 ((sc σ k0 2) * 8) x3)) (k0 + 2) (sc σ k0 2) x3) k0 2 ((sc (setI (setA σ (k0 + 1) (cpy (ia σ c1) (ia σ (k0 + 1)) x2 ((sc σ k0 2) * 8) x3)) (k0 + 2) (sc σ k0 2) x3) k0 2) + 1)))) : Wb g ad d mX2_addWord Q 0 [some (.ref (ad k0)), some (.ref (ad c1)), some (vi x2), some (vi x3), none] [] σ rc rs := by
  refine sb_aload_n (pc' := 1) rfl rfl dX2_addWord_0 ?_
  refine sb_getI (pc' := 4) rfl (fiK_2 hk0) wd_206 dX2_addWord_1 ?_
  refine sb_istore (pc' := 6) rfl (L' := [some (.ref (ad k0)), some (.ref (ad c1)), some (vi x2), some (vi x3), some (vi (sc σ k0 2))]) rfl (by decide) dX2_addWord_4 ?_
  refine sb_aload_n (pc' := 7) rfl rfl dX2_addWord_6 ?_
  refine sb_iload_n (pc' := 8) rfl rfl dX2_addWord_7 ?_
  refine sb_aload_n (pc' := 9) rfl rfl dX2_addWord_8 ?_
  refine sb_getC (pc' := 12) rfl (fcK_0 hk0) wd_202 dX2_addWord_9 ?_
  refine sb_iload (pc' := 14) rfl rfl dX2_addWord_12 ?_
  refine sb_bipush (pc' := 16) rfl (z := 8) (by decide) dX2_addWord_14 ?_
  refine sb_imul (pc' := 17) rfl dX2_addWord_16 ?_
  refine sb_iload_n (pc' := 18) rfl rfl dX2_addWord_17 ?_
  obtain ⟨o1, H⟩ := H
  obtain ⟨o2, H⟩ := H
  refine sb_copy (pc' := 21) rfl hc1 (aIK_1 hk0) o1 (Nat.le_of_ble_eq_true rfl) o2 wd_974 dX2_addWord_18 ?_
  refine sb_aload_n (pc' := 22) rfl rfl dX2_addWord_21 ?_
  refine sb_getC (pc' := 25) rfl (fcK_1 hk0) wd_204 dX2_addWord_22 ?_
  refine sb_iload (pc' := 27) rfl rfl dX2_addWord_25 ?_
  refine sb_iload_n (pc' := 28) rfl rfl dX2_addWord_27 ?_
  obtain ⟨o3, H⟩ := H
  refine sb_iast (pc' := 29) rfl (aIK_2 hk0) o3.1 o3.2  dX2_addWord_28 ?_
  refine sb_aload_n (pc' := 30) rfl rfl dX2_addWord_29 ?_
  refine sb_dup (pc' := 31) rfl rfl dX2_addWord_30 ?_
  refine sb_getI (pc' := 34) rfl (fiK_2 hk0) wd_206 dX2_addWord_31 ?_
  refine sb_iconst (pc' := 35) rfl dX2_addWord_34 ?_
  refine sb_iadd (pc' := 36) rfl dX2_addWord_35 ?_
  obtain ⟨o4, H⟩ := H
  refine sb_putI (pc' := 39) rfl (fiK_2 hk0) (Or.inl rfl) wd_206 dX2_addWord_36 ?_
  refine sb_iload (pc' := 41) rfl rfl dX2_addWord_39 ?_
  exact sb_iret rfl rfl dX2_addWord_41 (H (SR_sc hS _ _) (SR_setS (SR_setI (SR_cpy hS) hx3) o4))
theorem bX2_findPhrase_0 {g : AG} {ad : Nat → Nat} {d : Nat} {Q : AO → SG → Prop} {rc rs : Nat} {σ : SG} {x2 x3 x5 x6 : Int} {k0 : Nat} (hk0 : isK k0) {c1 n1 : Nat} (hc1 : aI c1 n1) {c4 n4 : Nat} (hc4 : aI c4 n4) (hx2 : iR x2) (hx3 : iR x3) (hx5 : iR x5) (hx6 : iR x6) (hS : SR σ) (H : (iR x2 → iR x3 → iR x5 → iR x6 → iR 0 → SR σ → Wb g ad d mX2_findPhrase Q 3 [some (.ref (ad k0)), some (.ref (ad c1)), some (vi x2), some (vi x3), some (.ref (ad c4)), some (vi x5), some (vi x6), some (vi 0), none] [] σ rc rs)) : Wb g ad d mX2_findPhrase Q 0 [some (.ref (ad k0)), some (.ref (ad c1)), some (vi x2), some (vi x3), some (.ref (ad c4)), some (vi x5), some (vi x6), none, none] [] σ rc rs := by
  refine sb_iconst (pc' := 1) rfl dX2_findPhrase_0 ?_
  refine sb_istore (pc' := 3) rfl (L' := [some (.ref (ad k0)), some (.ref (ad c1)), some (vi x2), some (vi x3), some (.ref (ad c4)), some (vi x5), some (vi x6), some (vi 0), none]) rfl (by decide) dX2_findPhrase_1 ?_
  exact (H hx2 hx3 hx5 hx6 (iR_lit rfl) hS)
theorem bX2_findPhrase_3 {g : AG} {ad : Nat → Nat} {d : Nat} {Q : AO → SG → Prop} {rc rs : Nat} {σ : SG} {x2 x3 x5 x6 x7 : Int} {k0 : Nat} (hk0 : isK k0) {c1 n1 : Nat} (hc1 : aI c1 n1) {c4 n4 : Nat} (hc4 : aI c4 n4) (hx2 : iR x2) (hx3 : iR x3) (hx5 : iR x5) (hx6 : iR x6) (hx7 : iR x7) (hS : SR σ) (H : (((sc σ k0 9) ≤ x7 → (iR ((-1)) → SR σ → Q (.inl (some (vi ((-1))))) σ)) ∧ (¬ (sc σ k0 9) ≤ x7 → (0 ≤ x7 ∧ x7 < 30) ∧ ((¬ (ia σ (k0 + 8) x7) = 0 → iR (x7 + 1) ∧ (iR x2 → iR x3 → iR x5 → iR x6 → iR (x7 + 1) → SR σ → Wb g ad d mX2_findPhrase Q 3 [some (.ref (ad k0)), some (.ref (ad c1)), some (vi x2), some (vi x3), some (.ref (ad c4)), some (vi x5), some (vi x6), some (vi (x7 + 1)), none] [] σ rc rs)) ∧ ((ia σ (k0 + 8) x7) = 0 → ((¬ (ia σ (k0 + 4) x7) = x3 → iR (x7 + 1) ∧ (iR x2 → iR x3 → iR x5 → iR x6 → iR (x7 + 1) → SR σ → Wb g ad d mX2_findPhrase Q 3 [some (.ref (ad k0)), some (.ref (ad c1)), some (vi x2), some (vi x3), some (.ref (ad c4)), some (vi x5), some (vi x6), some (vi (x7 + 1)), none] [] σ rc rs)) ∧ ((ia σ (k0 + 4) x7) = x3 → ((¬ (ia σ (k0 + 6) x7) = x6 → iR (x7 + 1) ∧ (iR x2 → iR x3 → iR x5 → iR x6 → iR (x7 + 1) → SR σ → Wb g ad d mX2_findPhrase Q 3 [some (.ref (ad k0)), some (.ref (ad c1)), some (vi x2), some (vi x3), some (.ref (ad c4)), some (vi x5), some (vi x6), some (vi (x7 + 1)), none] [] σ rc rs)) ∧ ((ia σ (k0 + 6) x7) = x6 → Cl g ad d mX2_sameRow 0 0 [(.ref (ad (k0 + 3))), (vi (x7 * 3)), (.ref (ad c1)), (vi x2), (vi x3)] σ (Ki fun r5 s5 => ((r5 = 0 → iR (x7 + 1) ∧ (iR x2 → iR x3 → iR x5 → iR x6 → iR (x7 + 1) → SR s5 → Wb g ad d mX2_findPhrase Q 3 [some (.ref (ad k0)), some (.ref (ad c1)), some (vi x2), some (vi x3), some (.ref (ad c4)), some (vi x5), some (vi x6), some (vi (x7 + 1)), none] [] s5 rc rs)) ∧ (¬ r5 = 0 → Cl g ad d mX2_sameRow 0 0 [(.ref (ad (k0 + 5))), (vi (x7 * 3)), (.ref (ad c4)), (vi x5), (vi x6)] s5 (Ki fun r7 s7 => ((r7 = 0 → iR (x7 + 1) ∧ (iR x2 → iR x3 → iR x5 → iR x6 → iR (x7 + 1) → SR s7 → Wb g ad d mX2_findPhrase Q 3 [some (.ref (ad k0)), some (.ref (ad c1)), some (vi x2), some (vi x3), some (.ref (ad c4)), some (vi x5), some (vi x6), some (vi (x7 + 1)), none] [] s7 rc rs)) ∧ (¬ r7 = 0 → (iR x7 → SR s7 → Q (.inl (some (vi x7))) s7)))))))))))))))) : Wb g ad d mX2_findPhrase Q 3 [some (.ref (ad k0)), some (.ref (ad c1)), some (vi x2), some (vi x3), some (.ref (ad c4)), some (vi x5), some (vi x6), some (vi x7), none] [] σ rc rs := by
  refine sb_iload (pc' := 5) rfl rfl dX2_findPhrase_3 ?_
  refine sb_aload_n (pc' := 6) rfl rfl dX2_findPhrase_5 ?_
  refine sb_getI (pc' := 9) rfl (fiK_9 hk0) wd_227 dX2_findPhrase_6 ?_
  refine sb_icmp_ge (pc' := 12) (tgt := 93) rfl (by decide) hx7 (SR_sc hS _ _) dX2_findPhrase_9 ?_ ?_
  · intro cc; have H := H.1 cc
    refine sb_iconst (pc' := 94) rfl dX2_findPhrase_93 ?_
    exact sb_iret rfl rfl dX2_findPhrase_94 (H (iR_lit rfl) hS)
  · intro cc; have H := H.2 cc
    refine sb_iload (pc' := 14) rfl rfl dX2_findPhrase_12 ?_
    refine sb_iconst (pc' := 15) rfl dX2_findPhrase_14 ?_
    refine sb_imul (pc' := 16) rfl dX2_findPhrase_15 ?_
    refine sb_istore (pc' := 18) rfl (L' := [some (.ref (ad k0)), some (.ref (ad c1)), some (vi x2), some (vi x3), some (.ref (ad c4)), some (vi x5), some (vi x6), some (vi x7), some (vi (x7 * 3))]) rfl (by decide) dX2_findPhrase_16 ?_
    refine sb_aload_n (pc' := 19) rfl rfl dX2_findPhrase_18 ?_
    refine sb_getC (pc' := 22) rfl (fcK_8 hk0) wd_224 dX2_findPhrase_19 ?_
    refine sb_iload (pc' := 24) rfl rfl dX2_findPhrase_22 ?_
    obtain ⟨o1, H⟩ := H
    refine sb_zald (pc' := 25) rfl (aZK_8 hk0) o1.1 o1.2 dX2_findPhrase_24 ?_
    refine sb_if_ne (pc' := 28) (tgt := 87) rfl (by decide) (SR_ia hS _ _) dX2_findPhrase_25 ?_ ?_
    · intro cc; have H := H.1 cc
      refine sb_iinc (pc' := 90) rfl rfl (L' := [some (.ref (ad k0)), some (.ref (ad c1)), some (vi x2), some (vi x3), some (.ref (ad c4)), some (vi x5), some (vi x6), some (vi (x7 + 1)), some (vi (x7 * 3))]) rfl (by decide) dX2_findPhrase_87 ?_
      refine sb_goto (tgt := 3) (by decide) dX2_findPhrase_90 ?_
      obtain ⟨o2, H⟩ := H
      refine Wb.forget [true, true, true, true, true, true, true, true, false] ?_
      exact (H hx2 hx3 hx5 hx6 o2 hS)
    · intro cc; have H := H.2 cc
      refine sb_aload_n (pc' := 29) rfl rfl dX2_findPhrase_28 ?_
      refine sb_getC (pc' := 32) rfl (fcK_4 hk0) wd_211 dX2_findPhrase_29 ?_
      refine sb_iload (pc' := 34) rfl rfl dX2_findPhrase_32 ?_
      refine sb_iald (pc' := 35) rfl (aIK_4 hk0) o1.1 o1.2 dX2_findPhrase_34 ?_
      refine sb_iload_n (pc' := 36) rfl rfl dX2_findPhrase_35 ?_
      refine sb_icmp_ne (pc' := 39) (tgt := 87) rfl (by decide) (SR_ia hS _ _) hx3 dX2_findPhrase_36 ?_ ?_
      · intro cc; have H := H.1 cc
        refine sb_iinc (pc' := 90) rfl rfl (L' := [some (.ref (ad k0)), some (.ref (ad c1)), some (vi x2), some (vi x3), some (.ref (ad c4)), some (vi x5), some (vi x6), some (vi (x7 + 1)), some (vi (x7 * 3))]) rfl (by decide) dX2_findPhrase_87 ?_
        refine sb_goto (tgt := 3) (by decide) dX2_findPhrase_90 ?_
        obtain ⟨o3, H⟩ := H
        refine Wb.forget [true, true, true, true, true, true, true, true, false] ?_
        exact (H hx2 hx3 hx5 hx6 o3 hS)
      · intro cc; have H := H.2 cc
        refine sb_aload_n (pc' := 40) rfl rfl dX2_findPhrase_39 ?_
        refine sb_getC (pc' := 43) rfl (fcK_6 hk0) wd_217 dX2_findPhrase_40 ?_
        refine sb_iload (pc' := 45) rfl rfl dX2_findPhrase_43 ?_
        refine sb_iald (pc' := 46) rfl (aIK_6 hk0) o1.1 o1.2 dX2_findPhrase_45 ?_
        refine sb_iload (pc' := 48) rfl rfl dX2_findPhrase_46 ?_
        refine sb_icmp_ne (pc' := 51) (tgt := 87) rfl (by decide) (SR_ia hS _ _) hx6 dX2_findPhrase_48 ?_ ?_
        · intro cc; have H := H.1 cc
          refine sb_iinc (pc' := 90) rfl rfl (L' := [some (.ref (ad k0)), some (.ref (ad c1)), some (vi x2), some (vi x3), some (.ref (ad c4)), some (vi x5), some (vi x6), some (vi (x7 + 1)), some (vi (x7 * 3))]) rfl (by decide) dX2_findPhrase_87 ?_
          refine sb_goto (tgt := 3) (by decide) dX2_findPhrase_90 ?_
          obtain ⟨o4, H⟩ := H
          refine Wb.forget [true, true, true, true, true, true, true, true, false] ?_
          exact (H hx2 hx3 hx5 hx6 o4 hS)
        · intro cc; have H := H.2 cc
          refine sb_aload_n (pc' := 52) rfl rfl dX2_findPhrase_51 ?_
          refine sb_getC (pc' := 55) rfl (fcK_3 hk0) wd_209 dX2_findPhrase_52 ?_
          refine sb_iload (pc' := 57) rfl rfl dX2_findPhrase_55 ?_
          refine sb_aload_n (pc' := 58) rfl rfl dX2_findPhrase_57 ?_
          refine sb_iload_n (pc' := 59) rfl rfl dX2_findPhrase_58 ?_
          refine sb_iload_n (pc' := 60) rfl rfl dX2_findPhrase_59 ?_
          obtain ⟨d5, hd5, H⟩ := H
          refine sb_callS (pc' := 63) rfl rfl (rc := rc) (rs := rs) (mc' := 0) (ms' := 0) (As := [(.ref (ad (k0 + 3))), (vi (x7 * 3)), (.ref (ad c1)), (vi x2), (vi x3)]) (st := [])  rfl rfl (Nat.le_of_ble_eq_true rfl) hd5 kX2_sameRow ⟨wd_720, wd_721⟩ dX2_findPhrase_60 (Eb.mono H ?_)
          rintro o s5 ⟨r5, rfl, hr5, hs5, H⟩
          show Wb g ad d mX2_findPhrase Q 63 [some (.ref (ad k0)), some (.ref (ad c1)), some (vi x2), some (vi x3), some (.ref (ad c4)), some (vi x5), some (vi x6), some (vi x7), some (vi (x7 * 3))] [(vi r5)] s5 rc rs
          refine sb_if_eq (pc' := 66) (tgt := 87) rfl (by decide) hr5 dX2_findPhrase_63 ?_ ?_
          · intro cc; have H := H.1 cc
            refine sb_iinc (pc' := 90) rfl rfl (L' := [some (.ref (ad k0)), some (.ref (ad c1)), some (vi x2), some (vi x3), some (.ref (ad c4)), some (vi x5), some (vi x6), some (vi (x7 + 1)), some (vi (x7 * 3))]) rfl (by decide) dX2_findPhrase_87 ?_
            refine sb_goto (tgt := 3) (by decide) dX2_findPhrase_90 ?_
            obtain ⟨o6, H⟩ := H
            refine Wb.forget [true, true, true, true, true, true, true, true, false] ?_
            exact (H hx2 hx3 hx5 hx6 o6 hs5)
          · intro cc; have H := H.2 cc
            refine sb_aload_n (pc' := 67) rfl rfl dX2_findPhrase_66 ?_
            refine sb_getC (pc' := 70) rfl (fcK_5 hk0) wd_214 dX2_findPhrase_67 ?_
            refine sb_iload (pc' := 72) rfl rfl dX2_findPhrase_70 ?_
            refine sb_aload (pc' := 74) rfl rfl dX2_findPhrase_72 ?_
            refine sb_iload (pc' := 76) rfl rfl dX2_findPhrase_74 ?_
            refine sb_iload (pc' := 78) rfl rfl dX2_findPhrase_76 ?_
            obtain ⟨d7, hd7, H⟩ := H
            refine sb_callS (pc' := 81) rfl rfl (rc := rc) (rs := rs) (mc' := 0) (ms' := 0) (As := [(.ref (ad (k0 + 5))), (vi (x7 * 3)), (.ref (ad c4)), (vi x5), (vi x6)]) (st := [])  rfl rfl (Nat.le_of_ble_eq_true rfl) hd7 kX2_sameRow ⟨wd_720, wd_721⟩ dX2_findPhrase_78 (Eb.mono H ?_)
            rintro o s7 ⟨r7, rfl, hr7, hs7, H⟩
            show Wb g ad d mX2_findPhrase Q 81 [some (.ref (ad k0)), some (.ref (ad c1)), some (vi x2), some (vi x3), some (.ref (ad c4)), some (vi x5), some (vi x6), some (vi x7), some (vi (x7 * 3))] [(vi r7)] s7 rc rs
            refine sb_if_eq (pc' := 84) (tgt := 87) rfl (by decide) hr7 dX2_findPhrase_81 ?_ ?_
            · intro cc; have H := H.1 cc
              refine sb_iinc (pc' := 90) rfl rfl (L' := [some (.ref (ad k0)), some (.ref (ad c1)), some (vi x2), some (vi x3), some (.ref (ad c4)), some (vi x5), some (vi x6), some (vi (x7 + 1)), some (vi (x7 * 3))]) rfl (by decide) dX2_findPhrase_87 ?_
              refine sb_goto (tgt := 3) (by decide) dX2_findPhrase_90 ?_
              obtain ⟨o8, H⟩ := H
              refine Wb.forget [true, true, true, true, true, true, true, true, false] ?_
              exact (H hx2 hx3 hx5 hx6 o8 hs7)
            · intro cc; have H := H.2 cc
              refine sb_iload (pc' := 86) rfl rfl dX2_findPhrase_84 ?_
              exact sb_iret rfl rfl dX2_findPhrase_86 (H hx7 hs7)
theorem bX2_addPhrase_0 {g : AG} {ad : Nat → Nat} {d : Nat} {Q : AO → SG → Prop} {rc rs : Nat} {σ : SG} {x2 x3 x5 x6 x7 : Int} {k0 : Nat} (hk0 : isK k0) {c1 n1 : Nat} (hc1 : aI c1 n1) {c4 n4 : Nat} (hc4 : aI c4 n4) (hx2 : iR x2) (hx3 : iR x3) (hx5 : iR x5) (hx6 : iR x6) (hx7 : iR x7) (hS : SR σ) (H : ((0 : Int) ≤ x2 ∧ (0 : Int) ≤ (sc σ k0 9) * 3 ∧ (0 : Int) ≤ x3 ∧ (x2 : Int) + x3 ≤ n1 ∧ ((sc σ k0 9) * 3 : Int) + x3 ≤ 90) ∧ 2 ≤ d ∧ ((0 : Int) ≤ x5 ∧ (0 : Int) ≤ (sc σ k0 9) * 3 ∧ (0 : Int) ≤ x6 ∧ (x5 : Int) + x6 ≤ n4 ∧ ((sc σ k0 9) * 3 : Int) + x6 ≤ 90) ∧ (0 ≤ sc σ k0 9 ∧ sc σ k0 9 < 30) ∧ iR ((sc (setI (setI (setI (setI (setA (setA σ (k0 + 3) (cpy (ia σ c1) (ia σ (k0 + 3)) x2 ((sc σ k0 9) * 3) x3)) (k0 + 5) (cpy (ia (setA σ (k0 + 3) (cpy (ia σ c1) (ia σ (k0 + 3)) x2 ((sc σ k0 9) * 3) x3)) c4) (ia (setA σ (k0 + 3) (cpy (ia σ c1) (ia σ (k0 + 3)) x2 ((sc σ k0 9) * 3) x3)) (k0 + 5)) x5 ((sc σ k0 9) * 3) x6)) (k0 + 4) (sc σ k0 9) x3) (k0 + 6) (sc σ k0 9) x6) (k0 + 7) (sc σ k0 9) x7) (k0 + 8) (sc σ k0 9) 0) k0 9) + 1) ∧ (SR (setS (setI (setI (setI (setI (setA (setA σ (k0 + 3) (cpy (ia σ c1) (ia σ (k0 + 3)) x2 ((sc σ k0 9) * 3) x3)) (k0 + 5) (cpy (ia (setA σ (k0 + 3) (cpy (ia σ c1) (ia σ (k0 + 3)) x2 ((sc σ k0 9) * 3) x3)) c4) (ia (setA σ (k0 + 3) (cpy (ia σ c1) (ia σ (k0 + 3)) x2 ((sc σ k0 9) * 3) x3)) (k0 + 5)) x5 ((sc σ k0 9) * 3) x6)) (k0 + 4) (sc σ k0 9) x3) (k0 + 6) (sc σ k0 9) x6) (k0 + 7) (sc σ k0 9) x7) (k0 + 8) (sc σ k0 9) 0) k0 9 ((sc (setI (setI (setI (setI (setA (setA σ (k0 + 3) (cpy (ia σ c1) (ia σ (k0 + 3)) x2 ((sc σ k0 9) * 3) x3)) (k0 + 5) (cpy (ia (setA σ (k0 + 3) (cpy (ia σ c1) (ia σ (k0 + 3)) x2 ((sc σ k0 9) * 3) x3)) c4) (ia (setA σ (k0 + 3) (cpy (ia σ c1) (ia σ (k0 + 3)) x2 ((sc σ k0 9) * 3) x3)) (k0 + 5)) x5 ((sc σ k0 9) * 3) x6)) (k0 + 4) (sc σ k0 9) x3) (k0 + 6) (sc σ k0 9) x6) (k0 + 7) (sc σ k0 9) x7) (k0 + 8) (sc σ k0 9) 0) k0 9) + 1)) → Q (.inl none) (setS (setI (setI (setI (setI (setA (setA σ (k0 + 3) (cpy (ia σ c1) (ia σ (k0 + 3)) x2 ((sc σ k0 9) * 3) x3)) (k0 + 5) (cpy (ia (setA σ (k0 + 3) (cpy (ia σ c1) (ia σ (k0 + 3)) x2 ((sc σ k0 9) * 3) x3)) c4) (ia (setA σ (k0 + 3) (cpy (ia σ c1) (ia σ (k0 + 3)) x2 ((sc σ k0 9) * 3) x3)) (k0 + 5)) x5 ((sc σ k0 9) * 3) x6)) (k0 + 4) (sc σ k0 9) x3) (k0 + 6) (sc σ k0 9) x6) (k0 + 7) (sc σ k0 9) x7) (k0 + 8) (sc σ k0 9) 0) k0 9 ((sc (setI (setI (setI (setI (setA (setA σ (k0 + 3) (cpy (ia σ c1) (ia σ (k0 + 3)) x2 ((sc σ k0 9) * 3) x3)) (k0 + 5) (cpy (ia (setA σ (k0 + 3) (cpy (ia σ c1) (ia σ (k0 + 3)) x2 ((sc σ k0 9) * 3) x3)) c4) (ia (setA σ (k0 + 3) (cpy (ia σ c1) (ia σ (k0 + 3)) x2 ((sc σ k0 9) * 3) x3)) (k0 + 5)) x5 ((sc σ k0 9) * 3) x6)) (k0 + 4) (sc σ k0 9) x3) (k0 + 6) (sc σ k0 9) x6) (k0 + 7) (sc σ k0 9) x7) (k0 + 8) (sc σ k0 9) 0) k0 9) + 1)))) : Wb g ad d mX2_addPhrase Q 0 [some (.ref (ad k0)), some (.ref (ad c1)), some (vi x2), some (vi x3), some (.ref (ad c4)), some (vi x5), some (vi x6), some (vi x7), none] [] σ rc rs := by
  refine sb_aload_n (pc' := 1) rfl rfl dX2_addPhrase_0 ?_
  refine sb_getI (pc' := 4) rfl (fiK_9 hk0) wd_227 dX2_addPhrase_1 ?_
  refine sb_istore (pc' := 6) rfl (L' := [some (.ref (ad k0)), some (.ref (ad c1)), some (vi x2), some (vi x3), some (.ref (ad c4)), some (vi x5), some (vi x6), some (vi x7), some (vi (sc σ k0 9))]) rfl (by decide) dX2_addPhrase_4 ?_
  refine sb_aload_n (pc' := 7) rfl rfl dX2_addPhrase_6 ?_
  refine sb_iload_n (pc' := 8) rfl rfl dX2_addPhrase_7 ?_
  refine sb_aload_n (pc' := 9) rfl rfl dX2_addPhrase_8 ?_
  refine sb_getC (pc' := 12) rfl (fcK_3 hk0) wd_209 dX2_addPhrase_9 ?_
  refine sb_iload (pc' := 14) rfl rfl dX2_addPhrase_12 ?_
  refine sb_iconst (pc' := 15) rfl dX2_addPhrase_14 ?_
  refine sb_imul (pc' := 16) rfl dX2_addPhrase_15 ?_
  refine sb_iload_n (pc' := 17) rfl rfl dX2_addPhrase_16 ?_
  obtain ⟨o1, H⟩ := H
  obtain ⟨o2, H⟩ := H
  refine sb_copy (pc' := 20) rfl hc1 (aIK_3 hk0) o1 (Nat.le_of_ble_eq_true rfl) o2 wd_974 dX2_addPhrase_17 ?_
  refine sb_aload (pc' := 22) rfl rfl dX2_addPhrase_20 ?_
  refine sb_iload (pc' := 24) rfl rfl dX2_addPhrase_22 ?_
  refine sb_aload_n (pc' := 25) rfl rfl dX2_addPhrase_24 ?_
  refine sb_getC (pc' := 28) rfl (fcK_5 hk0) wd_214 dX2_addPhrase_25 ?_
  refine sb_iload (pc' := 30) rfl rfl dX2_addPhrase_28 ?_
  refine sb_iconst (pc' := 31) rfl dX2_addPhrase_30 ?_
  refine sb_imul (pc' := 32) rfl dX2_addPhrase_31 ?_
  refine sb_iload (pc' := 34) rfl rfl dX2_addPhrase_32 ?_
  obtain ⟨o3, H⟩ := H
  refine sb_copy (pc' := 37) rfl hc4 (aIK_5 hk0) o3 (Nat.le_of_ble_eq_true rfl) o2 wd_974 dX2_addPhrase_34 ?_
  refine sb_aload_n (pc' := 38) rfl rfl dX2_addPhrase_37 ?_
  refine sb_getC (pc' := 41) rfl (fcK_4 hk0) wd_211 dX2_addPhrase_38 ?_
  refine sb_iload (pc' := 43) rfl rfl dX2_addPhrase_41 ?_
  refine sb_iload_n (pc' := 44) rfl rfl dX2_addPhrase_43 ?_
  obtain ⟨o4, H⟩ := H
  refine sb_iast (pc' := 45) rfl (aIK_4 hk0) o4.1 o4.2  dX2_addPhrase_44 ?_
  refine sb_aload_n (pc' := 46) rfl rfl dX2_addPhrase_45 ?_
  refine sb_getC (pc' := 49) rfl (fcK_6 hk0) wd_217 dX2_addPhrase_46 ?_
  refine sb_iload (pc' := 51) rfl rfl dX2_addPhrase_49 ?_
  refine sb_iload (pc' := 53) rfl rfl dX2_addPhrase_51 ?_
  refine sb_iast (pc' := 54) rfl (aIK_6 hk0) o4.1 o4.2  dX2_addPhrase_53 ?_
  refine sb_aload_n (pc' := 55) rfl rfl dX2_addPhrase_54 ?_
  refine sb_getC (pc' := 58) rfl (fcK_7 hk0) wd_220 dX2_addPhrase_55 ?_
  refine sb_iload (pc' := 60) rfl rfl dX2_addPhrase_58 ?_
  refine sb_iload (pc' := 62) rfl rfl dX2_addPhrase_60 ?_
  refine sb_iast (pc' := 63) rfl (aIK_7 hk0) o4.1 o4.2  dX2_addPhrase_62 ?_
  refine sb_aload_n (pc' := 64) rfl rfl dX2_addPhrase_63 ?_
  refine sb_getC (pc' := 67) rfl (fcK_8 hk0) wd_224 dX2_addPhrase_64 ?_
  refine sb_iload (pc' := 69) rfl rfl dX2_addPhrase_67 ?_
  refine sb_iconst (pc' := 70) rfl dX2_addPhrase_69 ?_
  refine sb_zast (pc' := 71) rfl (aZK_8 hk0) o4.1 o4.2 (Or.inl rfl) dX2_addPhrase_70 ?_
  refine sb_aload_n (pc' := 72) rfl rfl dX2_addPhrase_71 ?_
  refine sb_dup (pc' := 73) rfl rfl dX2_addPhrase_72 ?_
  refine sb_getI (pc' := 76) rfl (fiK_9 hk0) wd_227 dX2_addPhrase_73 ?_
  refine sb_iconst (pc' := 77) rfl dX2_addPhrase_76 ?_
  refine sb_iadd (pc' := 78) rfl dX2_addPhrase_77 ?_
  obtain ⟨o5, H⟩ := H
  refine sb_putI (pc' := 81) rfl (fiK_9 hk0) (Or.inl rfl) wd_227 dX2_addPhrase_78 ?_
  exact sb_vret rfl dX2_addPhrase_81 (H (SR_setS (SR_setI (SR_setI (SR_setI (SR_setI (SR_cpy (SR_cpy hS)) hx3) hx6) hx7) (iR_lit rfl)) o5))
theorem bX2_hasTwin_0 {g : AG} {ad : Nat → Nat} {d : Nat} {Q : AO → SG → Prop} {rc rs : Nat} {σ : SG} {x1 : Int} {k0 : Nat} (hk0 : isK k0) (hx1 : iR x1) (hS : SR σ) (H : (0 ≤ x1 ∧ x1 < 30) ∧ Cl g ad d mX2_findPhrase 0 0 [(.ref (ad k0)), (.ref (ad (k0 + 3))), (vi (x1 * 3)), (vi (ia σ (k0 + 4) x1)), (.ref (ad (k0 + 5))), (vi (x1 * 3)), (vi (ia σ (k0 + 6) x1))] σ (Ki fun r2 s2 => ((r2 = ((-1)) → (iR 0 → SR s2 → Q (.inl (some (vi 0))) s2)) ∧ (¬ r2 = ((-1)) → (iR 1 → SR s2 → Q (.inl (some (vi 1))) s2))))) : Wb g ad d mX2_hasTwin Q 0 [some (.ref (ad k0)), some (vi x1), none] [] σ rc rs := by
  refine sb_iload_n (pc' := 1) rfl rfl dX2_hasTwin_0 ?_
  refine sb_iconst (pc' := 2) rfl dX2_hasTwin_1 ?_
  refine sb_imul (pc' := 3) rfl dX2_hasTwin_2 ?_
  refine sb_istore_n (pc' := 4) rfl (L' := [some (.ref (ad k0)), some (vi x1), some (vi (x1 * 3))]) rfl (by decide) dX2_hasTwin_3 ?_
  refine sb_aload_n (pc' := 5) rfl rfl dX2_hasTwin_4 ?_
  refine sb_aload_n (pc' := 6) rfl rfl dX2_hasTwin_5 ?_
  refine sb_getC (pc' := 9) rfl (fcK_3 hk0) wd_209 dX2_hasTwin_6 ?_
  refine sb_iload_n (pc' := 10) rfl rfl dX2_hasTwin_9 ?_
  refine sb_aload_n (pc' := 11) rfl rfl dX2_hasTwin_10 ?_
  refine sb_getC (pc' := 14) rfl (fcK_4 hk0) wd_211 dX2_hasTwin_11 ?_
  refine sb_iload_n (pc' := 15) rfl rfl dX2_hasTwin_14 ?_
  obtain ⟨o1, H⟩ := H
  refine sb_iald (pc' := 16) rfl (aIK_4 hk0) o1.1 o1.2 dX2_hasTwin_15 ?_
  refine sb_aload_n (pc' := 17) rfl rfl dX2_hasTwin_16 ?_
  refine sb_getC (pc' := 20) rfl (fcK_5 hk0) wd_214 dX2_hasTwin_17 ?_
  refine sb_iload_n (pc' := 21) rfl rfl dX2_hasTwin_20 ?_
  refine sb_aload_n (pc' := 22) rfl rfl dX2_hasTwin_21 ?_
  refine sb_getC (pc' := 25) rfl (fcK_6 hk0) wd_217 dX2_hasTwin_22 ?_
  refine sb_iload_n (pc' := 26) rfl rfl dX2_hasTwin_25 ?_
  refine sb_iald (pc' := 27) rfl (aIK_6 hk0) o1.1 o1.2 dX2_hasTwin_26 ?_
  obtain ⟨d2, hd2, H⟩ := H
  refine sb_callV (pc' := 30) rfl rfl (rc := rc) (rs := rs) (mc' := 0) (ms' := 0) (As := [(.ref (ad (k0 + 3))), (vi (x1 * 3)), (vi (ia σ (k0 + 4) x1)), (.ref (ad (k0 + 5))), (vi (x1 * 3)), (vi (ia σ (k0 + 6) x1))]) (st := []) (ofK hk0) rfl rfl (Nat.le_of_ble_eq_true rfl) hd2 kX2_findPhrase ⟨wd_1072, wd_1074, wd_67⟩ dX2_hasTwin_27 (Eb.mono H ?_)
  rintro o s2 ⟨r2, rfl, hr2, hs2, H⟩
  show Wb g ad d mX2_hasTwin Q 30 [some (.ref (ad k0)), some (vi x1), some (vi (x1 * 3))] [(vi r2)] s2 rc rs
  refine sb_iconst (pc' := 31) rfl dX2_hasTwin_30 ?_
  refine sb_icmp_eq (pc' := 34) (tgt := 38) rfl (by decide) hr2 (iR_lit rfl) dX2_hasTwin_31 ?_ ?_
  · intro cc; have H := H.1 cc
    refine sb_iconst (pc' := 39) rfl dX2_hasTwin_38 ?_
    exact sb_iret rfl (nar_z2 (Or.inl rfl)) dX2_hasTwin_39 (H (iR_lit rfl) hs2)
  · intro cc; have H := H.2 cc
    refine sb_iconst (pc' := 35) rfl dX2_hasTwin_34 ?_
    refine sb_goto (tgt := 39) (by decide) dX2_hasTwin_35 ?_
    exact sb_iret rfl (nar_z2 (Or.inr rfl)) dX2_hasTwin_39 (H (iR_lit rfl) hs2)
theorem bX2_livingPhrases_0 {g : AG} {ad : Nat → Nat} {d : Nat} {Q : AO → SG → Prop} {rc rs : Nat} {σ : SG}  {k0 : Nat} (hk0 : isK k0)  (hS : SR σ) (H : (iR 0 → iR 0 → SR σ → Wb g ad d mX2_livingPhrases Q 4 [some (.ref (ad k0)), some (vi 0), some (vi 0)] [] σ rc rs)) : Wb g ad d mX2_livingPhrases Q 0 [some (.ref (ad k0)), none, none] [] σ rc rs := by
  refine sb_iconst (pc' := 1) rfl dX2_livingPhrases_0 ?_
  refine sb_istore_n (pc' := 2) rfl (L' := [some (.ref (ad k0)), some (vi 0), none]) rfl (by decide) dX2_livingPhrases_1 ?_
  refine sb_iconst (pc' := 3) rfl dX2_livingPhrases_2 ?_
  refine sb_istore_n (pc' := 4) rfl (L' := [some (.ref (ad k0)), some (vi 0), some (vi 0)]) rfl (by decide) dX2_livingPhrases_3 ?_
  exact (H (iR_lit rfl) (iR_lit rfl) hS)
theorem bX2_livingPhrases_4 {g : AG} {ad : Nat → Nat} {d : Nat} {Q : AO → SG → Prop} {rc rs : Nat} {σ : SG} {x1 x2 : Int} {k0 : Nat} (hk0 : isK k0) (hx1 : iR x1) (hx2 : iR x2) (hS : SR σ) (H : (((sc σ k0 9) ≤ x2 → (iR x1 → SR σ → Q (.inl (some (vi x1))) σ)) ∧ (¬ (sc σ k0 9) ≤ x2 → (0 ≤ x2 ∧ x2 < 30) ∧ ((¬ (ia σ (k0 + 8) x2) = 0 → iR (x2 + 1) ∧ (iR x1 → iR (x2 + 1) → SR σ → Wb g ad d mX2_livingPhrases Q 4 [some (.ref (ad k0)), some (vi x1), some (vi (x2 + 1))] [] σ rc rs)) ∧ ((ia σ (k0 + 8) x2) = 0 → iR (x1 + 1) ∧ iR (x2 + 1) ∧ (iR (x1 + 1) → iR (x2 + 1) → SR σ → Wb g ad d mX2_livingPhrases Q 4 [some (.ref (ad k0)), some (vi (x1 + 1)), some (vi (x2 + 1))] [] σ rc rs)))))) : Wb g ad d mX2_livingPhrases Q 4 [some (.ref (ad k0)), some (vi x1), some (vi x2)] [] σ rc rs := by
  refine sb_iload_n (pc' := 5) rfl rfl dX2_livingPhrases_4 ?_
  refine sb_aload_n (pc' := 6) rfl rfl dX2_livingPhrases_5 ?_
  refine sb_getI (pc' := 9) rfl (fiK_9 hk0) wd_227 dX2_livingPhrases_6 ?_
  refine sb_icmp_ge (pc' := 12) (tgt := 30) rfl (by decide) hx2 (SR_sc hS _ _) dX2_livingPhrases_9 ?_ ?_
  · intro cc; have H := H.1 cc
    refine sb_iload_n (pc' := 31) rfl rfl dX2_livingPhrases_30 ?_
    exact sb_iret rfl rfl dX2_livingPhrases_31 (H hx1 hS)
  · intro cc; have H := H.2 cc
    refine sb_aload_n (pc' := 13) rfl rfl dX2_livingPhrases_12 ?_
    refine sb_getC (pc' := 16) rfl (fcK_8 hk0) wd_224 dX2_livingPhrases_13 ?_
    refine sb_iload_n (pc' := 17) rfl rfl dX2_livingPhrases_16 ?_
    obtain ⟨o1, H⟩ := H
    refine sb_zald (pc' := 18) rfl (aZK_8 hk0) o1.1 o1.2 dX2_livingPhrases_17 ?_
    refine sb_if_ne (pc' := 21) (tgt := 24) rfl (by decide) (SR_ia hS _ _) dX2_livingPhrases_18 ?_ ?_
    · intro cc; have H := H.1 cc
      refine sb_iinc (pc' := 27) rfl rfl (L' := [some (.ref (ad k0)), some (vi x1), some (vi (x2 + 1))]) rfl (by decide) dX2_livingPhrases_24 ?_
      refine sb_goto (tgt := 4) (by decide) dX2_livingPhrases_27 ?_
      obtain ⟨o2, H⟩ := H
      exact (H hx1 o2 hS)
    · intro cc; have H := H.2 cc
      refine sb_iinc (pc' := 24) rfl rfl (L' := [some (.ref (ad k0)), some (vi (x1 + 1)), some (vi x2)]) rfl (by decide) dX2_livingPhrases_21 ?_
      refine sb_iinc (pc' := 27) rfl rfl (L' := [some (.ref (ad k0)), some (vi (x1 + 1)), some (vi (x2 + 1))]) rfl (by decide) dX2_livingPhrases_24 ?_
      refine sb_goto (tgt := 4) (by decide) dX2_livingPhrases_27 ?_
      obtain ⟨o3, H⟩ := H
      obtain ⟨o4, H⟩ := H
      exact (H o3 o4 hS)
theorem bX2_flow_0 {g : AG} {ad : Nat → Nat} {d : Nat} {Q : AO → SG → Prop} {rc rs : Nat} {σ : SG} {x1 x2 : Int} {k0 : Nat} (hk0 : isK k0) (hx1 : iR x1) (hx2 : iR x2) (hS : SR σ) (H : (0 ≤ (x1 * 41) + x2 ∧ (x1 * 41) + x2 < 1681) ∧ ((¬ (ia σ (k0 + 9) ((x1 * 41) + x2)) = 0 → iR ((ia σ (k0 + 9) ((x1 * 41) + x2)) - 1) ∧ (iR ((ia σ (k0 + 9) ((x1 * 41) + x2)) - 1) → SR σ → Q (.inl (some (vi ((ia σ (k0 + 9) ((x1 * 41) + x2)) - 1)))) σ)) ∧ ((ia σ (k0 + 9) ((x1 * 41) + x2)) = 0 → (iR (ia σ (k0 + 11) 0) → SR σ → Q (.inl (some (vi (ia σ (k0 + 11) 0)))) σ)))) : Wb g ad d mX2_flow Q 0 [some (.ref (ad k0)), some (vi x1), some (vi x2), none] [] σ rc rs := by
  refine sb_aload_n (pc' := 1) rfl rfl dX2_flow_0 ?_
  refine sb_getC (pc' := 4) rfl (fcK_10 hk0) wd_230 dX2_flow_1 ?_
  refine sb_iload_n (pc' := 5) rfl rfl dX2_flow_4 ?_
  refine sb_bipush (pc' := 7) rfl (z := 41) (by decide) dX2_flow_5 ?_
  refine sb_imul (pc' := 8) rfl dX2_flow_7 ?_
  refine sb_iload_n (pc' := 9) rfl rfl dX2_flow_8 ?_
  refine sb_iadd (pc' := 10) rfl dX2_flow_9 ?_
  obtain ⟨o1, H⟩ := H
  refine sb_iald (pc' := 11) rfl (aIK_9 hk0) o1.1 o1.2 dX2_flow_10 ?_
  refine sb_istore_n (pc' := 12) rfl (L' := [some (.ref (ad k0)), some (vi x1), some (vi x2), some (vi (ia σ (k0 + 9) ((x1 * 41) + x2)))]) rfl (by decide) dX2_flow_11 ?_
  refine sb_iload_n (pc' := 13) rfl rfl dX2_flow_12 ?_
  refine sb_if_ne (pc' := 16) (tgt := 25) rfl (by decide) (SR_ia hS _ _) dX2_flow_13 ?_ ?_
  · intro cc; have H := H.1 cc
    refine sb_iload_n (pc' := 26) rfl rfl dX2_flow_25 ?_
    refine sb_iconst (pc' := 27) rfl dX2_flow_26 ?_
    refine sb_isub (pc' := 28) rfl dX2_flow_27 ?_
    obtain ⟨o2, H⟩ := H
    exact sb_iret rfl rfl dX2_flow_28 (H o2 hS)
  · intro cc; have H := H.2 cc
    refine sb_aload_n (pc' := 17) rfl rfl dX2_flow_16 ?_
    refine sb_getC (pc' := 20) rfl (fcK_14 hk0) wd_239 dX2_flow_17 ?_
    refine sb_iconst (pc' := 21) rfl dX2_flow_20 ?_
    refine sb_iald (pc' := 22) rfl (aIK_11 hk0) (by decide) (by decide) dX2_flow_21 ?_
    refine sb_goto (tgt := 28) (by decide) dX2_flow_22 ?_
    exact sb_iret rfl rfl dX2_flow_28 (H (SR_ia hS _ _) hS)
theorem bX2_isOption_0 {g : AG} {ad : Nat → Nat} {d : Nat} {Q : AO → SG → Prop} {rc rs : Nat} {σ : SG} {x1 x2 : Int} {k0 : Nat} (hk0 : isK k0) (hx1 : iR x1) (hx2 : iR x2) (hS : SR σ) (H : (0 ≤ x1 ∧ x1 < 30) ∧ ((¬ (ia σ (k0 + 8) x1) = 0 → (iR 0 → SR σ → Q (.inl (some (vi 0))) σ)) ∧ ((ia σ (k0 + 8) x1) = 0 → iR (x2 + (ia σ (k0 + 4) x1)) ∧ (((sc σ k0 13) < (x2 + (ia σ (k0 + 4) x1)) → (iR 0 → SR σ → Q (.inl (some (vi 0))) σ)) ∧ (¬ (sc σ k0 13) < (x2 + (ia σ (k0 + 4) x1)) → Cl g ad d mX2_sameRow 0 0 [(.ref (ad (k0 + 3))), (vi (x1 * 3)), (.ref (ad (k0 + 10))), (vi x2), (vi (ia σ (k0 + 4) x1))] σ (Ki fun r3 s3 => ((r3 = 0 → (iR 0 → SR s3 → Q (.inl (some (vi 0))) s3)) ∧ (¬ r3 = 0 → (iR 1 → SR s3 → Q (.inl (some (vi 1))) s3))))))))) : Wb g ad d mX2_isOption Q 0 [some (.ref (ad k0)), some (vi x1), some (vi x2)] [] σ rc rs := by
  refine sb_aload_n (pc' := 1) rfl rfl dX2_isOption_0 ?_
  refine sb_getC (pc' := 4) rfl (fcK_8 hk0) wd_224 dX2_isOption_1 ?_
  refine sb_iload_n (pc' := 5) rfl rfl dX2_isOption_4 ?_
  obtain ⟨o1, H⟩ := H
  refine sb_zald (pc' := 6) rfl (aZK_8 hk0) o1.1 o1.2 dX2_isOption_5 ?_
  refine sb_if_ne (pc' := 9) (tgt := 52) rfl (by decide) (SR_ia hS _ _) dX2_isOption_6 ?_ ?_
  · intro cc; have H := H.1 cc
    refine sb_iconst (pc' := 53) rfl dX2_isOption_52 ?_
    exact sb_iret rfl (nar_z2 (Or.inl rfl)) dX2_isOption_53 (H (iR_lit rfl) hS)
  · intro cc; have H := H.2 cc
    refine sb_iload_n (pc' := 10) rfl rfl dX2_isOption_9 ?_
    refine sb_aload_n (pc' := 11) rfl rfl dX2_isOption_10 ?_
    refine sb_getC (pc' := 14) rfl (fcK_4 hk0) wd_211 dX2_isOption_11 ?_
    refine sb_iload_n (pc' := 15) rfl rfl dX2_isOption_14 ?_
    refine sb_iald (pc' := 16) rfl (aIK_4 hk0) o1.1 o1.2 dX2_isOption_15 ?_
    refine sb_iadd (pc' := 17) rfl dX2_isOption_16 ?_
    refine sb_aload_n (pc' := 18) rfl rfl dX2_isOption_17 ?_
    refine sb_getI (pc' := 21) rfl (fiK_13 hk0) wd_237 dX2_isOption_18 ?_
    obtain ⟨o2, H⟩ := H
    refine sb_icmp_gt (pc' := 24) (tgt := 52) rfl (by decide) o2 (SR_sc hS _ _) dX2_isOption_21 ?_ ?_
    · intro cc; have H := H.1 cc
      refine sb_iconst (pc' := 53) rfl dX2_isOption_52 ?_
      exact sb_iret rfl (nar_z2 (Or.inl rfl)) dX2_isOption_53 (H (iR_lit rfl) hS)
    · intro cc; have H := H.2 cc
      refine sb_aload_n (pc' := 25) rfl rfl dX2_isOption_24 ?_
      refine sb_getC (pc' := 28) rfl (fcK_3 hk0) wd_209 dX2_isOption_25 ?_
      refine sb_iload_n (pc' := 29) rfl rfl dX2_isOption_28 ?_
      refine sb_iconst (pc' := 30) rfl dX2_isOption_29 ?_
      refine sb_imul (pc' := 31) rfl dX2_isOption_30 ?_
      refine sb_aload_n (pc' := 32) rfl rfl dX2_isOption_31 ?_
      refine sb_getC (pc' := 35) rfl (fcK_12 hk0) wd_233 dX2_isOption_32 ?_
      refine sb_iload_n (pc' := 36) rfl rfl dX2_isOption_35 ?_
      refine sb_aload_n (pc' := 37) rfl rfl dX2_isOption_36 ?_
      refine sb_getC (pc' := 40) rfl (fcK_4 hk0) wd_211 dX2_isOption_37 ?_
      refine sb_iload_n (pc' := 41) rfl rfl dX2_isOption_40 ?_
      refine sb_iald (pc' := 42) rfl (aIK_4 hk0) o1.1 o1.2 dX2_isOption_41 ?_
      obtain ⟨d3, hd3, H⟩ := H
      refine sb_callS (pc' := 45) rfl rfl (rc := rc) (rs := rs) (mc' := 0) (ms' := 0) (As := [(.ref (ad (k0 + 3))), (vi (x1 * 3)), (.ref (ad (k0 + 10))), (vi x2), (vi (ia σ (k0 + 4) x1))]) (st := [])  rfl rfl (Nat.le_of_ble_eq_true rfl) hd3 kX2_sameRow ⟨wd_720, wd_721⟩ dX2_isOption_42 (Eb.mono H ?_)
      rintro o s3 ⟨r3, rfl, hr3, hs3, H⟩
      show Wb g ad d mX2_isOption Q 45 [some (.ref (ad k0)), some (vi x1), some (vi x2)] [(vi r3)] s3 rc rs
      refine sb_if_eq (pc' := 48) (tgt := 52) rfl (by decide) hr3 dX2_isOption_45 ?_ ?_
      · intro cc; have H := H.1 cc
        refine sb_iconst (pc' := 53) rfl dX2_isOption_52 ?_
        exact sb_iret rfl (nar_z2 (Or.inl rfl)) dX2_isOption_53 (H (iR_lit rfl) hs3)
      · intro cc; have H := H.2 cc
        refine sb_iconst (pc' := 49) rfl dX2_isOption_48 ?_
        refine sb_goto (tgt := 53) (by decide) dX2_isOption_49 ?_
        exact sb_iret rfl (nar_z2 (Or.inr rfl)) dX2_isOption_53 (H (iR_lit rfl) hs3)
theorem bX2_enterBook_0 {g : AG} {ad : Nat → Nat} {d : Nat} {Q : AO → SG → Prop} {rc rs : Nat} {σ : SG}  {k0 : Nat} (hk0 : isK k0)  (hS : SR σ) (H : (iR 0 → iR 0 → SR σ → Wb g ad d mX2_enterBook Q 4 [some (.ref (ad k0)), some (.ref (ad 37)), some (vi 0), some (vi 0), none, none] [] σ rc rs)) : Wb g ad d mX2_enterBook Q 0 [some (.ref (ad k0)), some (.ref (ad 37)), none, none, none, none] [] σ rc rs := by
  refine sb_iconst (pc' := 1) rfl dX2_enterBook_0 ?_
  refine sb_istore_n (pc' := 2) rfl (L' := [some (.ref (ad k0)), some (.ref (ad 37)), some (vi 0), none, none, none]) rfl (by decide) dX2_enterBook_1 ?_
  refine sb_iconst (pc' := 3) rfl dX2_enterBook_2 ?_
  refine sb_istore_n (pc' := 4) rfl (L' := [some (.ref (ad k0)), some (.ref (ad 37)), some (vi 0), some (vi 0), none, none]) rfl (by decide) dX2_enterBook_3 ?_
  exact (H (iR_lit rfl) (iR_lit rfl) hS)
theorem bX2_enterBook_4 {g : AG} {ad : Nat → Nat} {d : Nat} {Q : AO → SG → Prop} {rc rs : Nat} {σ : SG} {x2 x3 : Int} {k0 : Nat} (hk0 : isK k0) (hx2 : iR x2) (hx3 : iR x3) (hS : SR σ) (H : (((sc σ 37 9) ≤ x3 → (iR x2 → SR σ → Q (.inl (some (vi x2))) σ)) ∧ (¬ (sc σ 37 9) ≤ x3 → Cl g ad d mX6_isRight 0 0 [(.ref (ad 37))] σ (Ki fun r1 s1 => ((r1 = 0 → (iR x2 → SR s1 → Q (.inl (some (vi x2))) s1)) ∧ (¬ r1 = 0 → (0 ≤ x3 ∧ x3 < 12) ∧ Cl g ad d mX2_findPhrase 0 0 [(.ref (ad k0)), (.ref (ad 40)), (vi (x3 * 3)), (vi (ia s1 41 x3)), (.ref (ad 42)), (vi (x3 * 3)), (vi (ia s1 43 x3))] s1 (Ki fun r3 s3 => ((r3 = ((-1)) → ((¬ (sc s3 k0 9) = 30 → Cl g ad d mX2_addPhrase 0 0 [(.ref (ad k0)), (.ref (ad 40)), (vi (x3 * 3)), (vi (ia s3 41 x3)), (.ref (ad 42)), (vi (x3 * 3)), (vi (ia s3 43 x3)), (vi (ia s3 44 x3))] s3 (Kv fun s4 => iR (x2 + 1) ∧ iR (x3 + 1) ∧ (iR (x2 + 1) → iR (x3 + 1) → SR s4 → Wb g ad d mX2_enterBook Q 4 [some (.ref (ad k0)), some (.ref (ad 37)), some (vi (x2 + 1)), some (vi (x3 + 1)), none, none] [] s4 rc rs))) ∧ ((sc s3 k0 9) = 30 → Cl g ad d mX6_fail 0 0 [(.ref (ad 37)), (vi (ia s3 39 x3))] s3 (Kv fun s7 => iR (x3 + 1) ∧ (iR x2 → iR (x3 + 1) → SR s7 → Wb g ad d mX2_enterBook Q 4 [some (.ref (ad k0)), some (.ref (ad 37)), some (vi x2), some (vi (x3 + 1)), none, none] [] s7 rc rs))))) ∧ (¬ r3 = ((-1)) → (0 ≤ r3 ∧ r3 < 30) ∧ iR (x3 + 1) ∧ (iR x2 → iR (x3 + 1) → SR (setI s3 (k0 + 7) r3 (ia s3 44 x3)) → Wb g ad d mX2_enterBook Q 4 [some (.ref (ad k0)), some (.ref (ad 37)), some (vi x2), some (vi (x3 + 1)), none, none] [] (setI s3 (k0 + 7) r3 (ia s3 44 x3)) rc rs)))))))))) : Wb g ad d mX2_enterBook Q 4 [some (.ref (ad k0)), some (.ref (ad 37)), some (vi x2), some (vi x3), none, none] [] σ rc rs := by
  refine sb_iload_n (pc' := 5) rfl rfl dX2_enterBook_4 ?_
  refine sb_aload_n (pc' := 6) rfl rfl dX2_enterBook_5 ?_
  refine sb_getIN (pc' := 9) rfl fi_37_9 wd_299 dX2_enterBook_6 ?_
  refine sb_icmp_ge (pc' := 12) (tgt := 141) rfl (by decide) hx3 (SR_sc hS _ _) dX2_enterBook_9 ?_ ?_
  · intro cc; have H := H.1 cc
    refine sb_iload_n (pc' := 142) rfl rfl dX2_enterBook_141 ?_
    exact sb_iret rfl rfl dX2_enterBook_142 (H hx2 hS)
  · intro cc; have H := H.2 cc
    refine sb_aload_n (pc' := 13) rfl rfl dX2_enterBook_12 ?_
    obtain ⟨d1, hd1, H⟩ := H
    refine sb_callVN (pc' := 16) rfl rfl (rc := rc) (rs := rs) (mc' := 0) (ms' := 0) (As := []) (st := []) of_37 rfl rfl (Nat.le_of_ble_eq_true rfl) hd1 kX6_isRight ⟨wd_1071, wd_1025, wd_55⟩ dX2_enterBook_13 (Eb.mono H ?_)
    rintro o s1 ⟨r1, rfl, hr1, hs1, H⟩
    show Wb g ad d mX2_enterBook Q 16 [some (.ref (ad k0)), some (.ref (ad 37)), some (vi x2), some (vi x3), none, none] [(vi r1)] s1 rc rs
    refine sb_if_eq (pc' := 19) (tgt := 141) rfl (by decide) hr1 dX2_enterBook_16 ?_ ?_
    · intro cc; have H := H.1 cc
      refine sb_iload_n (pc' := 142) rfl rfl dX2_enterBook_141 ?_
      exact sb_iret rfl rfl dX2_enterBook_142 (H hx2 hs1)
    · intro cc; have H := H.2 cc
      refine sb_iload_n (pc' := 20) rfl rfl dX2_enterBook_19 ?_
      refine sb_iconst (pc' := 21) rfl dX2_enterBook_20 ?_
      refine sb_imul (pc' := 22) rfl dX2_enterBook_21 ?_
      refine sb_istore (pc' := 24) rfl (L' := [some (.ref (ad k0)), some (.ref (ad 37)), some (vi x2), some (vi x3), some (vi (x3 * 3)), none]) rfl (by decide) dX2_enterBook_22 ?_
      refine sb_aload_n (pc' := 25) rfl rfl dX2_enterBook_24 ?_
      refine sb_aload_n (pc' := 26) rfl rfl dX2_enterBook_25 ?_
      refine sb_getCN (pc' := 29) rfl fc_37_4 wd_289 dX2_enterBook_26 ?_
      refine sb_iload (pc' := 31) rfl rfl dX2_enterBook_29 ?_
      refine sb_aload_n (pc' := 32) rfl rfl dX2_enterBook_31 ?_
      refine sb_getCN (pc' := 35) rfl fc_37_5 wd_291 dX2_enterBook_32 ?_
      refine sb_iload_n (pc' := 36) rfl rfl dX2_enterBook_35 ?_
      obtain ⟨o2, H⟩ := H
      refine sb_iald (pc' := 37) rfl aI_41 o2.1 o2.2 dX2_enterBook_36 ?_
      refine sb_aload_n (pc' := 38) rfl rfl dX2_enterBook_37 ?_
      refine sb_getCN (pc' := 41) rfl fc_37_6 wd_293 dX2_enterBook_38 ?_
      refine sb_iload (pc' := 43) rfl rfl dX2_enterBook_41 ?_
      refine sb_aload_n (pc' := 44) rfl rfl dX2_enterBook_43 ?_
      refine sb_getCN (pc' := 47) rfl fc_37_7 wd_295 dX2_enterBook_44 ?_
      refine sb_iload_n (pc' := 48) rfl rfl dX2_enterBook_47 ?_
      refine sb_iald (pc' := 49) rfl aI_43 o2.1 o2.2 dX2_enterBook_48 ?_
      obtain ⟨d3, hd3, H⟩ := H
      refine sb_callV (pc' := 52) rfl rfl (rc := rc) (rs := rs) (mc' := 0) (ms' := 0) (As := [(.ref (ad 40)), (vi (x3 * 3)), (vi (ia s1 41 x3)), (.ref (ad 42)), (vi (x3 * 3)), (vi (ia s1 43 x3))]) (st := []) (ofK hk0) rfl rfl (Nat.le_of_ble_eq_true rfl) hd3 kX2_findPhrase ⟨wd_1072, wd_1074, wd_67⟩ dX2_enterBook_49 (Eb.mono H ?_)
      rintro o s3 ⟨r3, rfl, hr3, hs3, H⟩
      show Wb g ad d mX2_enterBook Q 52 [some (.ref (ad k0)), some (.ref (ad 37)), some (vi x2), some (vi x3), some (vi (x3 * 3)), none] [(vi r3)] s3 rc rs
      refine sb_istore (pc' := 54) rfl (L' := [some (.ref (ad k0)), some (.ref (ad 37)), some (vi x2), some (vi x3), some (vi (x3 * 3)), some (vi r3)]) rfl (by decide) dX2_enterBook_52 ?_
      refine sb_iload (pc' := 56) rfl rfl dX2_enterBook_54 ?_
      refine sb_iconst (pc' := 57) rfl dX2_enterBook_56 ?_
      refine sb_icmp_eq (pc' := 60) (tgt := 76) rfl (by decide) hr3 (iR_lit rfl) dX2_enterBook_57 ?_ ?_
      · intro cc; have H := H.1 cc
        refine sb_aload_n (pc' := 77) rfl rfl dX2_enterBook_76 ?_
        refine sb_getI (pc' := 80) rfl (fiK_9 hk0) wd_227 dX2_enterBook_77 ?_
        refine sb_bipush (pc' := 82) rfl (z := 30) (by decide) dX2_enterBook_80 ?_
        refine sb_icmp_ne (pc' := 85) (tgt := 98) rfl (by decide) (SR_sc hs3 _ _) (iR_lit rfl) dX2_enterBook_82 ?_ ?_
        · intro cc; have H := H.1 cc
          refine sb_aload_n (pc' := 99) rfl rfl dX2_enterBook_98 ?_
          refine sb_aload_n (pc' := 100) rfl rfl dX2_enterBook_99 ?_
          refine sb_getCN (pc' := 103) rfl fc_37_4 wd_289 dX2_enterBook_100 ?_
          refine sb_iload (pc' := 105) rfl rfl dX2_enterBook_103 ?_
          refine sb_aload_n (pc' := 106) rfl rfl dX2_enterBook_105 ?_
          refine sb_getCN (pc' := 109) rfl fc_37_5 wd_291 dX2_enterBook_106 ?_
          refine sb_iload_n (pc' := 110) rfl rfl dX2_enterBook_109 ?_
          refine sb_iald (pc' := 111) rfl aI_41 o2.1 o2.2 dX2_enterBook_110 ?_
          refine sb_aload_n (pc' := 112) rfl rfl dX2_enterBook_111 ?_
          refine sb_getCN (pc' := 115) rfl fc_37_6 wd_293 dX2_enterBook_112 ?_
          refine sb_iload (pc' := 117) rfl rfl dX2_enterBook_115 ?_
          refine sb_aload_n (pc' := 118) rfl rfl dX2_enterBook_117 ?_
          refine sb_getCN (pc' := 121) rfl fc_37_7 wd_295 dX2_enterBook_118 ?_
          refine sb_iload_n (pc' := 122) rfl rfl dX2_enterBook_121 ?_
          refine sb_iald (pc' := 123) rfl aI_43 o2.1 o2.2 dX2_enterBook_122 ?_
          refine sb_aload_n (pc' := 124) rfl rfl dX2_enterBook_123 ?_
          refine sb_getCN (pc' := 127) rfl fc_37_8 wd_297 dX2_enterBook_124 ?_
          refine sb_iload_n (pc' := 128) rfl rfl dX2_enterBook_127 ?_
          refine sb_iald (pc' := 129) rfl aI_44 o2.1 o2.2 dX2_enterBook_128 ?_
          obtain ⟨d4, hd4, H⟩ := H
          refine sb_callV (pc' := 132) rfl rfl (rc := rc) (rs := rs) (mc' := 0) (ms' := 0) (As := [(.ref (ad 40)), (vi (x3 * 3)), (vi (ia s3 41 x3)), (.ref (ad 42)), (vi (x3 * 3)), (vi (ia s3 43 x3)), (vi (ia s3 44 x3))]) (st := []) (ofK hk0) rfl rfl (Nat.le_of_ble_eq_true rfl) hd4 kX2_addPhrase ⟨wd_1077, wd_1079, wd_68⟩ dX2_enterBook_129 (Eb.mono H ?_)
          rintro o s4 ⟨rfl, hs4, H⟩
          show Wb g ad d mX2_enterBook Q 132 [some (.ref (ad k0)), some (.ref (ad 37)), some (vi x2), some (vi x3), some (vi (x3 * 3)), some (vi r3)] [] s4 rc rs
          refine sb_iinc (pc' := 135) rfl rfl (L' := [some (.ref (ad k0)), some (.ref (ad 37)), some (vi (x2 + 1)), some (vi x3), some (vi (x3 * 3)), some (vi r3)]) rfl (by decide) dX2_enterBook_132 ?_
          refine sb_iinc (pc' := 138) rfl rfl (L' := [some (.ref (ad k0)), some (.ref (ad 37)), some (vi (x2 + 1)), some (vi (x3 + 1)), some (vi (x3 * 3)), some (vi r3)]) rfl (by decide) dX2_enterBook_135 ?_
          refine sb_goto (tgt := 4) (by decide) dX2_enterBook_138 ?_
          obtain ⟨o5, H⟩ := H
          obtain ⟨o6, H⟩ := H
          refine Wb.forget [true, true, true, true, false, false] ?_
          exact (H o5 o6 hs4)
        · intro cc; have H := H.2 cc
          refine sb_aload_n (pc' := 86) rfl rfl dX2_enterBook_85 ?_
          refine sb_aload_n (pc' := 87) rfl rfl dX2_enterBook_86 ?_
          refine sb_getCN (pc' := 90) rfl fc_37_3 wd_287 dX2_enterBook_87 ?_
          refine sb_iload_n (pc' := 91) rfl rfl dX2_enterBook_90 ?_
          refine sb_iald (pc' := 92) rfl aI_39 o2.1 o2.2 dX2_enterBook_91 ?_
          obtain ⟨d7, hd7, H⟩ := H
          refine sb_callVN (pc' := 95) rfl rfl (rc := rc) (rs := rs) (mc' := 0) (ms' := 0) (As := [(vi (ia s3 39 x3))]) (st := []) of_37 rfl rfl (Nat.le_of_ble_eq_true rfl) hd7 kX6_fail ⟨wd_1076, wd_1037, wd_58⟩ dX2_enterBook_92 (Eb.mono H ?_)
          rintro o s7 ⟨rfl, hs7, H⟩
          show Wb g ad d mX2_enterBook Q 95 [some (.ref (ad k0)), some (.ref (ad 37)), some (vi x2), some (vi x3), some (vi (x3 * 3)), some (vi r3)] [] s7 rc rs
          refine sb_goto (tgt := 135) (by decide) dX2_enterBook_95 ?_
          refine sb_iinc (pc' := 138) rfl rfl (L' := [some (.ref (ad k0)), some (.ref (ad 37)), some (vi x2), some (vi (x3 + 1)), some (vi (x3 * 3)), some (vi r3)]) rfl (by decide) dX2_enterBook_135 ?_
          refine sb_goto (tgt := 4) (by decide) dX2_enterBook_138 ?_
          obtain ⟨o8, H⟩ := H
          refine Wb.forget [true, true, true, true, false, false] ?_
          exact (H hx2 o8 hs7)
      · intro cc; have H := H.2 cc
        refine sb_aload_n (pc' := 61) rfl rfl dX2_enterBook_60 ?_
        refine sb_getC (pc' := 64) rfl (fcK_7 hk0) wd_220 dX2_enterBook_61 ?_
        refine sb_iload (pc' := 66) rfl rfl dX2_enterBook_64 ?_
        refine sb_aload_n (pc' := 67) rfl rfl dX2_enterBook_66 ?_
        refine sb_getCN (pc' := 70) rfl fc_37_8 wd_297 dX2_enterBook_67 ?_
        refine sb_iload_n (pc' := 71) rfl rfl dX2_enterBook_70 ?_
        refine sb_iald (pc' := 72) rfl aI_44 o2.1 o2.2 dX2_enterBook_71 ?_
        obtain ⟨o9, H⟩ := H
        refine sb_iast (pc' := 73) rfl (aIK_7 hk0) o9.1 o9.2  dX2_enterBook_72 ?_
        refine sb_goto (tgt := 135) (by decide) dX2_enterBook_73 ?_
        refine sb_iinc (pc' := 138) rfl rfl (L' := [some (.ref (ad k0)), some (.ref (ad 37)), some (vi x2), some (vi (x3 + 1)), some (vi (x3 * 3)), some (vi r3)]) rfl (by decide) dX2_enterBook_135 ?_
        refine sb_goto (tgt := 4) (by decide) dX2_enterBook_138 ?_
        obtain ⟨o10, H⟩ := H
        refine Wb.forget [true, true, true, true, false, false] ?_
        exact (H hx2 o10 (SR_setI hs3 (SR_ia hs3 _ _)))
theorem bX2_enterFluency_0 {g : AG} {ad : Nat → Nat} {d : Nat} {Q : AO → SG → Prop} {rc rs : Nat} {σ : SG}  {k0 : Nat} (hk0 : isK k0)  (hS : SR σ) (H : (iR 0 → SR σ → Wb g ad d mX2_enterFluency Q 2 [some (.ref (ad k0)), some (.ref (ad 37)), some (vi 0), none] [] σ rc rs)) : Wb g ad d mX2_enterFluency Q 0 [some (.ref (ad k0)), some (.ref (ad 37)), none, none] [] σ rc rs := by
  refine sb_iconst (pc' := 1) rfl dX2_enterFluency_0 ?_
  refine sb_istore_n (pc' := 2) rfl (L' := [some (.ref (ad k0)), some (.ref (ad 37)), some (vi 0), none]) rfl (by decide) dX2_enterFluency_1 ?_
  exact (H (iR_lit rfl) hS)
theorem bX2_enterFluency_2 {g : AG} {ad : Nat → Nat} {d : Nat} {Q : AO → SG → Prop} {rc rs : Nat} {σ : SG} {x2 : Int} {k0 : Nat} (hk0 : isK k0) (hx2 : iR x2) (hS : SR σ) (H : (((sc σ 37 9) ≤ x2 → (iR x2 → SR σ → Wb g ad d mX2_enterFluency Q 112 [some (.ref (ad k0)), some (.ref (ad 37)), some (vi x2), none] [] σ rc rs)) ∧ (¬ (sc σ 37 9) ≤ x2 → Cl g ad d mX6_isRight 0 0 [(.ref (ad 37))] σ (Ki fun r1 s1 => ((r1 = 0 → (iR x2 → SR s1 → Wb g ad d mX2_enterFluency Q 112 [some (.ref (ad k0)), some (.ref (ad 37)), some (vi x2), none] [] s1 rc rs)) ∧ (¬ r1 = 0 → (0 ≤ x2 * 3 ∧ x2 * 3 < 36) ∧ (0 ≤ ((ia s1 40 (x2 * 3)) * 41) + (ia s1 42 (x2 * 3)) ∧ ((ia s1 40 (x2 * 3)) * 41) + (ia s1 42 (x2 * 3)) < 1681) ∧ ((¬ (ia s1 (k0 + 9) (((ia s1 40 (x2 * 3)) * 41) + (ia s1 42 (x2 * 3)))) = 0 → iR (((ia s1 40 (x2 * 3)) * 41) + (ia s1 42 (x2 * 3))) ∧ (iR x2 → iR (((ia s1 40 (x2 * 3)) * 41) + (ia s1 42 (x2 * 3))) → SR s1 → Wb g ad d mX2_enterFluency Q 69 [some (.ref (ad k0)), some (.ref (ad 37)), some (vi x2), some (vi (((ia s1 40 (x2 * 3)) * 41) + (ia s1 42 (x2 * 3))))] [] s1 rc rs)) ∧ ((ia s1 (k0 + 9) (((ia s1 40 (x2 * 3)) * 41) + (ia s1 42 (x2 * 3)))) = 0 → ((¬ (sc s1 k0 11) = 60 → iR (((ia s1 40 (x2 * 3)) * 41) + (ia s1 42 (x2 * 3))) ∧ (iR x2 → iR (((ia s1 40 (x2 * 3)) * 41) + (ia s1 42 (x2 * 3))) → SR s1 → Wb g ad d mX2_enterFluency Q 69 [some (.ref (ad k0)), some (.ref (ad 37)), some (vi x2), some (vi (((ia s1 40 (x2 * 3)) * 41) + (ia s1 42 (x2 * 3))))] [] s1 rc rs)) ∧ ((sc s1 k0 11) = 60 → (0 ≤ x2 ∧ x2 < 12) ∧ Cl g ad d mX6_fail 0 0 [(.ref (ad 37)), (vi (ia s1 39 x2))] s1 (Kv fun s7 => iR (((ia s1 40 (x2 * 3)) * 41) + (ia s1 42 (x2 * 3))) ∧ (iR x2 → iR (((ia s1 40 (x2 * 3)) * 41) + (ia s1 42 (x2 * 3))) → SR s7 → Wb g ad d mX2_enterFluency Q 106 [some (.ref (ad k0)), some (.ref (ad 37)), some (vi x2), some (vi (((ia s1 40 (x2 * 3)) * 41) + (ia s1 42 (x2 * 3))))] [] s7 rc rs)))))))))))) : Wb g ad d mX2_enterFluency Q 2 [some (.ref (ad k0)), some (.ref (ad 37)), some (vi x2), none] [] σ rc rs := by
  refine sb_iload_n (pc' := 3) rfl rfl dX2_enterFluency_2 ?_
  refine sb_aload_n (pc' := 4) rfl rfl dX2_enterFluency_3 ?_
  refine sb_getIN (pc' := 7) rfl fi_37_9 wd_299 dX2_enterFluency_4 ?_
  refine sb_icmp_ge (pc' := 10) (tgt := 112) rfl (by decide) hx2 (SR_sc hS _ _) dX2_enterFluency_7 ?_ ?_
  · intro cc; have H := H.1 cc
    exact (H hx2 hS)
  · intro cc; have H := H.2 cc
    refine sb_aload_n (pc' := 11) rfl rfl dX2_enterFluency_10 ?_
    obtain ⟨d1, hd1, H⟩ := H
    refine sb_callVN (pc' := 14) rfl rfl (rc := rc) (rs := rs) (mc' := 0) (ms' := 0) (As := []) (st := []) of_37 rfl rfl (Nat.le_of_ble_eq_true rfl) hd1 kX6_isRight ⟨wd_1071, wd_1025, wd_55⟩ dX2_enterFluency_11 (Eb.mono H ?_)
    rintro o s1 ⟨r1, rfl, hr1, hs1, H⟩
    show Wb g ad d mX2_enterFluency Q 14 [some (.ref (ad k0)), some (.ref (ad 37)), some (vi x2), none] [(vi r1)] s1 rc rs
    refine sb_if_eq (pc' := 17) (tgt := 112) rfl (by decide) hr1 dX2_enterFluency_14 ?_ ?_
    · intro cc; have H := H.1 cc
      exact (H hx2 hs1)
    · intro cc; have H := H.2 cc
      refine sb_aload_n (pc' := 18) rfl rfl dX2_enterFluency_17 ?_
      refine sb_getCN (pc' := 21) rfl fc_37_4 wd_289 dX2_enterFluency_18 ?_
      refine sb_iload_n (pc' := 22) rfl rfl dX2_enterFluency_21 ?_
      refine sb_iconst (pc' := 23) rfl dX2_enterFluency_22 ?_
      refine sb_imul (pc' := 24) rfl dX2_enterFluency_23 ?_
      obtain ⟨o2, H⟩ := H
      refine sb_iald (pc' := 25) rfl aI_40 o2.1 o2.2 dX2_enterFluency_24 ?_
      refine sb_bipush (pc' := 27) rfl (z := 41) (by decide) dX2_enterFluency_25 ?_
      refine sb_imul (pc' := 28) rfl dX2_enterFluency_27 ?_
      refine sb_aload_n (pc' := 29) rfl rfl dX2_enterFluency_28 ?_
      refine sb_getCN (pc' := 32) rfl fc_37_6 wd_293 dX2_enterFluency_29 ?_
      refine sb_iload_n (pc' := 33) rfl rfl dX2_enterFluency_32 ?_
      refine sb_iconst (pc' := 34) rfl dX2_enterFluency_33 ?_
      refine sb_imul (pc' := 35) rfl dX2_enterFluency_34 ?_
      refine sb_iald (pc' := 36) rfl aI_42 o2.1 o2.2 dX2_enterFluency_35 ?_
      refine sb_iadd (pc' := 37) rfl dX2_enterFluency_36 ?_
      refine sb_istore_n (pc' := 38) rfl (L' := [some (.ref (ad k0)), some (.ref (ad 37)), some (vi x2), some (vi (((ia s1 40 (x2 * 3)) * 41) + (ia s1 42 (x2 * 3))))]) rfl (by decide) dX2_enterFluency_37 ?_
      refine sb_aload_n (pc' := 39) rfl rfl dX2_enterFluency_38 ?_
      refine sb_getC (pc' := 42) rfl (fcK_10 hk0) wd_230 dX2_enterFluency_39 ?_
      refine sb_iload_n (pc' := 43) rfl rfl dX2_enterFluency_42 ?_
      obtain ⟨o3, H⟩ := H
      refine sb_iald (pc' := 44) rfl (aIK_9 hk0) o3.1 o3.2 dX2_enterFluency_43 ?_
      refine sb_if_ne (pc' := 47) (tgt := 69) rfl (by decide) (SR_ia hs1 _ _) dX2_enterFluency_44 ?_ ?_
      · intro cc; have H := H.1 cc
        obtain ⟨o4, H⟩ := H
        exact (H hx2 o4 hs1)
      · intro cc; have H := H.2 cc
        refine sb_aload_n (pc' := 48) rfl rfl dX2_enterFluency_47 ?_
        refine sb_getI (pc' := 51) rfl (fiK_11 hk0) wd_231 dX2_enterFluency_48 ?_
        refine sb_bipush (pc' := 53) rfl (z := 60) (by decide) dX2_enterFluency_51 ?_
        refine sb_icmp_ne (pc' := 56) (tgt := 69) rfl (by decide) (SR_sc hs1 _ _) (iR_lit rfl) dX2_enterFluency_53 ?_ ?_
        · intro cc; have H := H.1 cc
          obtain ⟨o5, H⟩ := H
          exact (H hx2 o5 hs1)
        · intro cc; have H := H.2 cc
          refine sb_aload_n (pc' := 57) rfl rfl dX2_enterFluency_56 ?_
          refine sb_aload_n (pc' := 58) rfl rfl dX2_enterFluency_57 ?_
          refine sb_getCN (pc' := 61) rfl fc_37_3 wd_287 dX2_enterFluency_58 ?_
          refine sb_iload_n (pc' := 62) rfl rfl dX2_enterFluency_61 ?_
          obtain ⟨o6, H⟩ := H
          refine sb_iald (pc' := 63) rfl aI_39 o6.1 o6.2 dX2_enterFluency_62 ?_
          obtain ⟨d7, hd7, H⟩ := H
          refine sb_callVN (pc' := 66) rfl rfl (rc := rc) (rs := rs) (mc' := 0) (ms' := 0) (As := [(vi (ia s1 39 x2))]) (st := []) of_37 rfl rfl (Nat.le_of_ble_eq_true rfl) hd7 kX6_fail ⟨wd_1076, wd_1037, wd_58⟩ dX2_enterFluency_63 (Eb.mono H ?_)
          rintro o s7 ⟨rfl, hs7, H⟩
          show Wb g ad d mX2_enterFluency Q 66 [some (.ref (ad k0)), some (.ref (ad 37)), some (vi x2), some (vi (((ia s1 40 (x2 * 3)) * 41) + (ia s1 42 (x2 * 3))))] [] s7 rc rs
          refine sb_goto (tgt := 106) (by decide) dX2_enterFluency_66 ?_
          obtain ⟨o8, H⟩ := H
          exact (H hx2 o8 hs7)
theorem bX2_enterFluency_69 {g : AG} {ad : Nat → Nat} {d : Nat} {Q : AO → SG → Prop} {rc rs : Nat} {σ : SG} {x2 x3 : Int} {k0 : Nat} (hk0 : isK k0) (hx2 : iR x2) (hx3 : iR x3) (hS : SR σ) (H : (0 ≤ x3 ∧ x3 < 1681) ∧ ((¬ (ia σ (k0 + 9) x3) = 0 → iR ((sc σ k0 11) + 0) ∧ (0 ≤ x2 ∧ x2 < 12) ∧ iR ((ia (setS σ k0 11 ((sc σ k0 11) + 0)) 44 x2) + 1) ∧ (iR x2 → iR x3 → SR (setI (setS σ k0 11 ((sc σ k0 11) + 0)) (k0 + 9) x3 ((ia (setS σ k0 11 ((sc σ k0 11) + 0)) 44 x2) + 1)) → Wb g ad d mX2_enterFluency Q 106 [some (.ref (ad k0)), some (.ref (ad 37)), some (vi x2), some (vi x3)] [] (setI (setS σ k0 11 ((sc σ k0 11) + 0)) (k0 + 9) x3 ((ia (setS σ k0 11 ((sc σ k0 11) + 0)) 44 x2) + 1)) rc rs)) ∧ ((ia σ (k0 + 9) x3) = 0 → iR ((sc σ k0 11) + 1) ∧ (0 ≤ x2 ∧ x2 < 12) ∧ iR ((ia (setS σ k0 11 ((sc σ k0 11) + 1)) 44 x2) + 1) ∧ (iR x2 → iR x3 → SR (setI (setS σ k0 11 ((sc σ k0 11) + 1)) (k0 + 9) x3 ((ia (setS σ k0 11 ((sc σ k0 11) + 1)) 44 x2) + 1)) → Wb g ad d mX2_enterFluency Q 106 [some (.ref (ad k0)), some (.ref (ad 37)), some (vi x2), some (vi x3)] [] (setI (setS σ k0 11 ((sc σ k0 11) + 1)) (k0 + 9) x3 ((ia (setS σ k0 11 ((sc σ k0 11) + 1)) 44 x2) + 1)) rc rs)))) : Wb g ad d mX2_enterFluency Q 69 [some (.ref (ad k0)), some (.ref (ad 37)), some (vi x2), some (vi x3)] [] σ rc rs := by
  refine sb_aload_n (pc' := 70) rfl rfl dX2_enterFluency_69 ?_
  refine sb_dup (pc' := 71) rfl rfl dX2_enterFluency_70 ?_
  refine sb_getI (pc' := 74) rfl (fiK_11 hk0) wd_231 dX2_enterFluency_71 ?_
  refine sb_aload_n (pc' := 75) rfl rfl dX2_enterFluency_74 ?_
  refine sb_getC (pc' := 78) rfl (fcK_10 hk0) wd_230 dX2_enterFluency_75 ?_
  refine sb_iload_n (pc' := 79) rfl rfl dX2_enterFluency_78 ?_
  obtain ⟨o1, H⟩ := H
  refine sb_iald (pc' := 80) rfl (aIK_9 hk0) o1.1 o1.2 dX2_enterFluency_79 ?_
  refine sb_if_ne (pc' := 83) (tgt := 87) rfl (by decide) (SR_ia hS _ _) dX2_enterFluency_80 ?_ ?_
  · intro cc; have H := H.1 cc
    refine sb_iconst (pc' := 88) rfl dX2_enterFluency_87 ?_
    refine sb_iadd (pc' := 89) rfl dX2_enterFluency_88 ?_
    obtain ⟨o2, H⟩ := H
    refine sb_putI (pc' := 92) rfl (fiK_11 hk0) (Or.inl rfl) wd_231 dX2_enterFluency_89 ?_
    refine sb_aload_n (pc' := 93) rfl rfl dX2_enterFluency_92 ?_
    refine sb_getC (pc' := 96) rfl (fcK_10 hk0) wd_230 dX2_enterFluency_93 ?_
    refine sb_iload_n (pc' := 97) rfl rfl dX2_enterFluency_96 ?_
    refine sb_aload_n (pc' := 98) rfl rfl dX2_enterFluency_97 ?_
    refine sb_getCN (pc' := 101) rfl fc_37_8 wd_297 dX2_enterFluency_98 ?_
    refine sb_iload_n (pc' := 102) rfl rfl dX2_enterFluency_101 ?_
    obtain ⟨o3, H⟩ := H
    refine sb_iald (pc' := 103) rfl aI_44 o3.1 o3.2 dX2_enterFluency_102 ?_
    refine sb_iconst (pc' := 104) rfl dX2_enterFluency_103 ?_
    refine sb_iadd (pc' := 105) rfl dX2_enterFluency_104 ?_
    obtain ⟨o4, H⟩ := H
    refine sb_iast (pc' := 106) rfl (aIK_9 hk0) o1.1 o1.2  dX2_enterFluency_105 ?_
    exact (H hx2 hx3 (SR_setI (SR_setS hS o2) o4))
  · intro cc; have H := H.2 cc
    refine sb_iconst (pc' := 84) rfl dX2_enterFluency_83 ?_
    refine sb_goto (tgt := 88) (by decide) dX2_enterFluency_84 ?_
    refine sb_iadd (pc' := 89) rfl dX2_enterFluency_88 ?_
    obtain ⟨o5, H⟩ := H
    refine sb_putI (pc' := 92) rfl (fiK_11 hk0) (Or.inl rfl) wd_231 dX2_enterFluency_89 ?_
    refine sb_aload_n (pc' := 93) rfl rfl dX2_enterFluency_92 ?_
    refine sb_getC (pc' := 96) rfl (fcK_10 hk0) wd_230 dX2_enterFluency_93 ?_
    refine sb_iload_n (pc' := 97) rfl rfl dX2_enterFluency_96 ?_
    refine sb_aload_n (pc' := 98) rfl rfl dX2_enterFluency_97 ?_
    refine sb_getCN (pc' := 101) rfl fc_37_8 wd_297 dX2_enterFluency_98 ?_
    refine sb_iload_n (pc' := 102) rfl rfl dX2_enterFluency_101 ?_
    obtain ⟨o6, H⟩ := H
    refine sb_iald (pc' := 103) rfl aI_44 o6.1 o6.2 dX2_enterFluency_102 ?_
    refine sb_iconst (pc' := 104) rfl dX2_enterFluency_103 ?_
    refine sb_iadd (pc' := 105) rfl dX2_enterFluency_104 ?_
    obtain ⟨o7, H⟩ := H
    refine sb_iast (pc' := 106) rfl (aIK_9 hk0) o1.1 o1.2  dX2_enterFluency_105 ?_
    exact (H hx2 hx3 (SR_setI (SR_setS hS o5) o7))
theorem bX2_enterFluency_106 {g : AG} {ad : Nat → Nat} {d : Nat} {Q : AO → SG → Prop} {rc rs : Nat} {σ : SG} {x2 x3 : Int} {k0 : Nat} (hk0 : isK k0) (hx2 : iR x2) (hx3 : iR x3) (hS : SR σ) (H : iR (x2 + 1) ∧ (iR (x2 + 1) → SR σ → Wb g ad d mX2_enterFluency Q 2 [some (.ref (ad k0)), some (.ref (ad 37)), some (vi (x2 + 1)), none] [] σ rc rs)) : Wb g ad d mX2_enterFluency Q 106 [some (.ref (ad k0)), some (.ref (ad 37)), some (vi x2), some (vi x3)] [] σ rc rs := by
  refine sb_iinc (pc' := 109) rfl rfl (L' := [some (.ref (ad k0)), some (.ref (ad 37)), some (vi (x2 + 1)), some (vi x3)]) rfl (by decide) dX2_enterFluency_106 ?_
  refine sb_goto (tgt := 2) (by decide) dX2_enterFluency_109 ?_
  obtain ⟨o1, H⟩ := H
  refine Wb.forget [true, true, true, false] ?_
  exact (H o1 hS)
theorem bX2_enterFluency_112 {g : AG} {ad : Nat → Nat} {d : Nat} {Q : AO → SG → Prop} {rc rs : Nat} {σ : SG} {x2 : Int} {k0 : Nat} (hk0 : isK k0) (hx2 : iR x2) (hS : SR σ) (H : (SR σ → Q (.inl none) σ)) : Wb g ad d mX2_enterFluency Q 112 [some (.ref (ad k0)), some (.ref (ad 37)), some (vi x2), none] [] σ rc rs := by
  exact sb_vret rfl dX2_enterFluency_112 (H hS)
theorem bX2_enterSentence_0 {g : AG} {ad : Nat → Nat} {d : Nat} {Q : AO → SG → Prop} {rc rs : Nat} {σ : SG}  {k0 : Nat} (hk0 : isK k0)  (hS : SR σ) (H : Cl g ad d mX6_isRight 0 0 [(.ref (ad 37))] σ (Ki fun r1 s1 => ((r1 = 0 → (SR s1 → Q (.inl none) s1)) ∧ (¬ r1 = 0 → ((0 : Int) ≤ 0 ∧ (0 : Int) ≤ 0 ∧ (0 : Int) ≤ sc (setS s1 k0 13 (sc s1 37 11)) k0 13 ∧ (0 : Int) + sc (setS s1 k0 13 (sc s1 37 11)) k0 13 ≤ 18 ∧ (0 : Int) + sc (setS s1 k0 13 (sc s1 37 11)) k0 13 ≤ 6) ∧ 2 ≤ d ∧ (SR (setA (setS s1 k0 13 (sc s1 37 11)) (k0 + 10) (cpy (ia (setS s1 k0 13 (sc s1 37 11)) 45) (ia (setS s1 k0 13 (sc s1 37 11)) (k0 + 10)) 0 0 (sc (setS s1 k0 13 (sc s1 37 11)) k0 13))) → Q (.inl none) (setA (setS s1 k0 13 (sc s1 37 11)) (k0 + 10) (cpy (ia (setS s1 k0 13 (sc s1 37 11)) 45) (ia (setS s1 k0 13 (sc s1 37 11)) (k0 + 10)) 0 0 (sc (setS s1 k0 13 (sc s1 37 11)) k0 13)))))))) : Wb g ad d mX2_enterSentence Q 0 [some (.ref (ad k0)), some (.ref (ad 37))] [] σ rc rs := by
  refine sb_aload_n (pc' := 1) rfl rfl dX2_enterSentence_0 ?_
  obtain ⟨d1, hd1, H⟩ := H
  refine sb_callVN (pc' := 4) rfl rfl (rc := rc) (rs := rs) (mc' := 0) (ms' := 0) (As := []) (st := []) of_37 rfl rfl (Nat.le_of_ble_eq_true rfl) hd1 kX6_isRight ⟨wd_1071, wd_1025, wd_55⟩ dX2_enterSentence_1 (Eb.mono H ?_)
  rintro o s1 ⟨r1, rfl, hr1, hs1, H⟩
  show Wb g ad d mX2_enterSentence Q 4 [some (.ref (ad k0)), some (.ref (ad 37))] [(vi r1)] s1 rc rs
  refine sb_if_eq (pc' := 7) (tgt := 32) rfl (by decide) hr1 dX2_enterSentence_4 ?_ ?_
  · intro cc; have H := H.1 cc
    exact sb_vret rfl dX2_enterSentence_32 (H hs1)
  · intro cc; have H := H.2 cc
    refine sb_aload_n (pc' := 8) rfl rfl dX2_enterSentence_7 ?_
    refine sb_aload_n (pc' := 9) rfl rfl dX2_enterSentence_8 ?_
    refine sb_getIN (pc' := 12) rfl fi_37_11 wd_306 dX2_enterSentence_9 ?_
    refine sb_putI (pc' := 15) rfl (fiK_13 hk0) (Or.inl rfl) wd_237 dX2_enterSentence_12 ?_
    refine sb_aload_n (pc' := 16) rfl rfl dX2_enterSentence_15 ?_
    refine sb_getCN (pc' := 19) rfl fc_37_10 wd_302 dX2_enterSentence_16 ?_
    refine sb_iconst (pc' := 20) rfl dX2_enterSentence_19 ?_
    refine sb_aload_n (pc' := 21) rfl rfl dX2_enterSentence_20 ?_
    refine sb_getC (pc' := 24) rfl (fcK_12 hk0) wd_233 dX2_enterSentence_21 ?_
    refine sb_iconst (pc' := 25) rfl dX2_enterSentence_24 ?_
    refine sb_aload_n (pc' := 26) rfl rfl dX2_enterSentence_25 ?_
    refine sb_getI (pc' := 29) rfl (fiK_13 hk0) wd_237 dX2_enterSentence_26 ?_
    obtain ⟨o2, H⟩ := H
    obtain ⟨o3, H⟩ := H
    refine sb_copy (pc' := 32) rfl aI_45 (aIK_10 hk0) o2 (Nat.le_of_ble_eq_true rfl) o3 wd_974 dX2_enterSentence_29 ?_
    exact sb_vret rfl dX2_enterSentence_32 (H (SR_cpy (SR_setS hs1 (SR_sc hs1 _ _))))
theorem bX2_sameRow_0 {g : AG} {ad : Nat → Nat} {d : Nat} {Q : AO → SG → Prop} {rc rs : Nat} {σ : SG} {x1 x3 x4 : Int} {c0 n0 : Nat} (hc0 : aI c0 n0) {c2 n2 : Nat} (hc2 : aI c2 n2) (hx1 : iR x1) (hx3 : iR x3) (hx4 : iR x4) (hS : SR σ) (H : (iR x1 → iR x3 → iR x4 → iR 0 → SR σ → Wb g ad d mX2_sameRow Q 3 [some (.ref (ad c0)), some (vi x1), some (.ref (ad c2)), some (vi x3), some (vi x4), some (vi 0)] [] σ rc rs)) : Wb g ad d mX2_sameRow Q 0 [some (.ref (ad c0)), some (vi x1), some (.ref (ad c2)), some (vi x3), some (vi x4), none] [] σ rc rs := by
  refine sb_iconst (pc' := 1) rfl dX2_sameRow_0 ?_
  refine sb_istore (pc' := 3) rfl (L' := [some (.ref (ad c0)), some (vi x1), some (.ref (ad c2)), some (vi x3), some (vi x4), some (vi 0)]) rfl (by decide) dX2_sameRow_1 ?_
  exact (H hx1 hx3 hx4 (iR_lit rfl) hS)
theorem bX2_sameRow_3 {g : AG} {ad : Nat → Nat} {d : Nat} {Q : AO → SG → Prop} {rc rs : Nat} {σ : SG} {x1 x3 x4 x5 : Int} {c0 n0 : Nat} (hc0 : aI c0 n0) {c2 n2 : Nat} (hc2 : aI c2 n2) (hx1 : iR x1) (hx3 : iR x3) (hx4 : iR x4) (hx5 : iR x5) (hS : SR σ) (H : ((x4 ≤ x5 → (iR 1 → SR σ → Q (.inl (some (vi 1))) σ)) ∧ (¬ x4 ≤ x5 → (0 ≤ x1 + x5 ∧ x1 + x5 < n0) ∧ (0 ≤ x3 + x5 ∧ x3 + x5 < n2) ∧ (((ia σ c0 (x1 + x5)) = (ia σ c2 (x3 + x5)) → iR (x5 + 1) ∧ (iR x1 → iR x3 → iR x4 → iR (x5 + 1) → SR σ → Wb g ad d mX2_sameRow Q 3 [some (.ref (ad c0)), some (vi x1), some (.ref (ad c2)), some (vi x3), some (vi x4), some (vi (x5 + 1))] [] σ rc rs)) ∧ (¬ (ia σ c0 (x1 + x5)) = (ia σ c2 (x3 + x5)) → (iR 0 → SR σ → Q (.inl (some (vi 0))) σ)))))) : Wb g ad d mX2_sameRow Q 3 [some (.ref (ad c0)), some (vi x1), some (.ref (ad c2)), some (vi x3), some (vi x4), some (vi x5)] [] σ rc rs := by
  refine sb_iload (pc' := 5) rfl rfl dX2_sameRow_3 ?_
  refine sb_iload (pc' := 7) rfl rfl dX2_sameRow_5 ?_
  refine sb_icmp_ge (pc' := 10) (tgt := 33) rfl (by decide) hx5 hx4 dX2_sameRow_7 ?_ ?_
  · intro cc; have H := H.1 cc
    refine sb_iconst (pc' := 34) rfl dX2_sameRow_33 ?_
    exact sb_iret rfl (nar_z2 (Or.inr rfl)) dX2_sameRow_34 (H (iR_lit rfl) hS)
  · intro cc; have H := H.2 cc
    refine sb_aload_n (pc' := 11) rfl rfl dX2_sameRow_10 ?_
    refine sb_iload_n (pc' := 12) rfl rfl dX2_sameRow_11 ?_
    refine sb_iload (pc' := 14) rfl rfl dX2_sameRow_12 ?_
    refine sb_iadd (pc' := 15) rfl dX2_sameRow_14 ?_
    obtain ⟨o1, H⟩ := H
    refine sb_iald (pc' := 16) rfl hc0 o1.1 o1.2 dX2_sameRow_15 ?_
    refine sb_aload_n (pc' := 17) rfl rfl dX2_sameRow_16 ?_
    refine sb_iload_n (pc' := 18) rfl rfl dX2_sameRow_17 ?_
    refine sb_iload (pc' := 20) rfl rfl dX2_sameRow_18 ?_
    refine sb_iadd (pc' := 21) rfl dX2_sameRow_20 ?_
    obtain ⟨o2, H⟩ := H
    refine sb_iald (pc' := 22) rfl hc2 o2.1 o2.2 dX2_sameRow_21 ?_
    refine sb_icmp_eq (pc' := 25) (tgt := 27) rfl (by decide) (SR_ia hS _ _) (SR_ia hS _ _) dX2_sameRow_22 ?_ ?_
    · intro cc; have H := H.1 cc
      refine sb_iinc (pc' := 30) rfl rfl (L' := [some (.ref (ad c0)), some (vi x1), some (.ref (ad c2)), some (vi x3), some (vi x4), some (vi (x5 + 1))]) rfl (by decide) dX2_sameRow_27 ?_
      refine sb_goto (tgt := 3) (by decide) dX2_sameRow_30 ?_
      obtain ⟨o3, H⟩ := H
      exact (H hx1 hx3 hx4 o3 hS)
    · intro cc; have H := H.2 cc
      refine sb_iconst (pc' := 26) rfl dX2_sameRow_25 ?_
      exact sb_iret rfl (nar_z2 (Or.inl rfl)) dX2_sameRow_26 (H (iR_lit rfl) hS)
theorem bX3_enter_0 {g : AG} {ad : Nat → Nat} {d : Nat} {Q : AO → SG → Prop} {rc rs : Nat} {σ : SG}  {k0 : Nat} (hk0 : isK k0)  (hS : SR σ) (H : (iR 0 → iR 0 → SR σ → Wb g ad d mX3_enter Q 4 [some (.ref (ad k0)), some (.ref (ad 37)), some (vi 0), some (vi 0), none, none] [] σ rc rs)) : Wb g ad d mX3_enter Q 0 [some (.ref (ad k0)), some (.ref (ad 37)), none, none, none, none] [] σ rc rs := by
  refine sb_iconst (pc' := 1) rfl dX3_enter_0 ?_
  refine sb_istore_n (pc' := 2) rfl (L' := [some (.ref (ad k0)), some (.ref (ad 37)), some (vi 0), none, none, none]) rfl (by decide) dX3_enter_1 ?_
  refine sb_iconst (pc' := 3) rfl dX3_enter_2 ?_
  refine sb_istore_n (pc' := 4) rfl (L' := [some (.ref (ad k0)), some (.ref (ad 37)), some (vi 0), some (vi 0), none, none]) rfl (by decide) dX3_enter_3 ?_
  exact (H (iR_lit rfl) (iR_lit rfl) hS)
theorem bX3_enter_4 {g : AG} {ad : Nat → Nat} {d : Nat} {Q : AO → SG → Prop} {rc rs : Nat} {σ : SG} {x2 x3 : Int} {k0 : Nat} (hk0 : isK k0) (hx2 : iR x2) (hx3 : iR x3) (hS : SR σ) (H : (((sc σ 37 11) ≤ x3 → (iR x2 → SR σ → Q (.inl (some (vi x2))) σ)) ∧ (¬ (sc σ 37 11) ≤ x3 → (iR x2 → iR x3 → iR x3 → SR σ → Wb g ad d mX3_enter Q 15 [some (.ref (ad k0)), some (.ref (ad 37)), some (vi x2), some (vi x3), some (vi x3), none] [] σ rc rs)))) : Wb g ad d mX3_enter Q 4 [some (.ref (ad k0)), some (.ref (ad 37)), some (vi x2), some (vi x3), none, none] [] σ rc rs := by
  refine sb_iload_n (pc' := 5) rfl rfl dX3_enter_4 ?_
  refine sb_aload_n (pc' := 6) rfl rfl dX3_enter_5 ?_
  refine sb_getIN (pc' := 9) rfl fi_37_11 wd_304 dX3_enter_6 ?_
  refine sb_icmp_ge (pc' := 12) (tgt := 67) rfl (by decide) hx3 (SR_sc hS _ _) dX3_enter_9 ?_ ?_
  · intro cc; have H := H.1 cc
    refine sb_iload_n (pc' := 68) rfl rfl dX3_enter_67 ?_
    exact sb_iret rfl rfl dX3_enter_68 (H hx2 hS)
  · intro cc; have H := H.2 cc
    refine sb_iload_n (pc' := 13) rfl rfl dX3_enter_12 ?_
    refine sb_istore (pc' := 15) rfl (L' := [some (.ref (ad k0)), some (.ref (ad 37)), some (vi x2), some (vi x3), some (vi x3), none]) rfl (by decide) dX3_enter_13 ?_
    exact (H hx2 hx3 hx3 hS)
theorem bX3_enter_15 {g : AG} {ad : Nat → Nat} {d : Nat} {Q : AO → SG → Prop} {rc rs : Nat} {σ : SG} {x2 x3 x4 : Int} {k0 : Nat} (hk0 : isK k0) (hx2 : iR x2) (hx3 : iR x3) (hx4 : iR x4) (hS : SR σ) (H : (((sc σ 37 11) ≤ x4 → iR (x3 + 1) ∧ (iR x2 → iR (x3 + 1) → SR σ → Wb g ad d mX3_enter Q 4 [some (.ref (ad k0)), some (.ref (ad 37)), some (vi x2), some (vi (x3 + 1)), none, none] [] σ rc rs)) ∧ (¬ (sc σ 37 11) ≤ x4 → iR (x3 + 3) ∧ (((x3 + 3) ≤ x4 → iR (x3 + 1) ∧ (iR x2 → iR (x3 + 1) → SR σ → Wb g ad d mX3_enter Q 4 [some (.ref (ad k0)), some (.ref (ad 37)), some (vi x2), some (vi (x3 + 1)), none, none] [] σ rc rs)) ∧ (¬ (x3 + 3) ≤ x4 → Cl g ad d mX3_enterAhead 0 0 [(.ref (ad k0)), (.ref (ad 37)), (vi x3), (vi x4)] σ (Ki fun r4 s4 => ((¬ r4 = ((-1)) → iR (x2 + r4) ∧ iR (x4 + 1) ∧ (iR (x2 + r4) → iR x3 → iR (x4 + 1) → SR s4 → Wb g ad d mX3_enter Q 15 [some (.ref (ad k0)), some (.ref (ad 37)), some (vi (x2 + r4)), some (vi x3), some (vi (x4 + 1)), none] [] s4 rc rs)) ∧ (r4 = ((-1)) → (iR ((-1)) → SR s4 → Q (.inl (some (vi ((-1))))) s4))))))))) : Wb g ad d mX3_enter Q 15 [some (.ref (ad k0)), some (.ref (ad 37)), some (vi x2), some (vi x3), some (vi x4), none] [] σ rc rs := by
  refine sb_iload (pc' := 17) rfl rfl dX3_enter_15 ?_
  refine sb_aload_n (pc' := 18) rfl rfl dX3_enter_17 ?_
  refine sb_getIN (pc' := 21) rfl fi_37_11 wd_304 dX3_enter_18 ?_
  refine sb_icmp_ge (pc' := 24) (tgt := 61) rfl (by decide) hx4 (SR_sc hS _ _) dX3_enter_21 ?_ ?_
  · intro cc; have H := H.1 cc
    refine sb_iinc (pc' := 64) rfl rfl (L' := [some (.ref (ad k0)), some (.ref (ad 37)), some (vi x2), some (vi (x3 + 1)), some (vi x4), none]) rfl (by decide) dX3_enter_61 ?_
    refine sb_goto (tgt := 4) (by decide) dX3_enter_64 ?_
    obtain ⟨o1, H⟩ := H
    refine Wb.forget [true, true, true, true, false, false] ?_
    exact (H hx2 o1 hS)
  · intro cc; have H := H.2 cc
    refine sb_iload (pc' := 26) rfl rfl dX3_enter_24 ?_
    refine sb_iload_n (pc' := 27) rfl rfl dX3_enter_26 ?_
    refine sb_iconst (pc' := 28) rfl dX3_enter_27 ?_
    refine sb_iadd (pc' := 29) rfl dX3_enter_28 ?_
    obtain ⟨o2, H⟩ := H
    refine sb_icmp_ge (pc' := 32) (tgt := 61) rfl (by decide) hx4 o2 dX3_enter_29 ?_ ?_
    · intro cc; have H := H.1 cc
      refine sb_iinc (pc' := 64) rfl rfl (L' := [some (.ref (ad k0)), some (.ref (ad 37)), some (vi x2), some (vi (x3 + 1)), some (vi x4), none]) rfl (by decide) dX3_enter_61 ?_
      refine sb_goto (tgt := 4) (by decide) dX3_enter_64 ?_
      obtain ⟨o3, H⟩ := H
      refine Wb.forget [true, true, true, true, false, false] ?_
      exact (H hx2 o3 hS)
    · intro cc; have H := H.2 cc
      refine sb_aload_n (pc' := 33) rfl rfl dX3_enter_32 ?_
      refine sb_aload_n (pc' := 34) rfl rfl dX3_enter_33 ?_
      refine sb_iload_n (pc' := 35) rfl rfl dX3_enter_34 ?_
      refine sb_iload (pc' := 37) rfl rfl dX3_enter_35 ?_
      obtain ⟨d4, hd4, H⟩ := H
      refine sb_callS (pc' := 40) rfl rfl (rc := rc) (rs := rs) (mc' := 0) (ms' := 0) (As := [(.ref (ad k0)), (.ref (ad 37)), (vi x3), (vi x4)]) (st := [])  rfl rfl (Nat.le_of_ble_eq_true rfl) hd4 kX3_enterAhead ⟨wd_1213, wd_1214⟩ dX3_enter_37 (Eb.mono H ?_)
      rintro o s4 ⟨r4, rfl, hr4, hs4, H⟩
      show Wb g ad d mX3_enter Q 40 [some (.ref (ad k0)), some (.ref (ad 37)), some (vi x2), some (vi x3), some (vi x4), none] [(vi r4)] s4 rc rs
      refine sb_istore (pc' := 42) rfl (L' := [some (.ref (ad k0)), some (.ref (ad 37)), some (vi x2), some (vi x3), some (vi x4), some (vi r4)]) rfl (by decide) dX3_enter_40 ?_
      refine sb_iload (pc' := 44) rfl rfl dX3_enter_42 ?_
      refine sb_iconst (pc' := 45) rfl dX3_enter_44 ?_
      refine sb_icmp_ne (pc' := 48) (tgt := 50) rfl (by decide) hr4 (iR_lit rfl) dX3_enter_45 ?_ ?_
      · intro cc; have H := H.1 cc
        refine sb_iload_n (pc' := 51) rfl rfl dX3_enter_50 ?_
        refine sb_iload (pc' := 53) rfl rfl dX3_enter_51 ?_
        refine sb_iadd (pc' := 54) rfl dX3_enter_53 ?_
        refine sb_istore_n (pc' := 55) rfl (L' := [some (.ref (ad k0)), some (.ref (ad 37)), some (vi (x2 + r4)), some (vi x3), some (vi x4), some (vi r4)]) rfl (by decide) dX3_enter_54 ?_
        refine sb_iinc (pc' := 58) rfl rfl (L' := [some (.ref (ad k0)), some (.ref (ad 37)), some (vi (x2 + r4)), some (vi x3), some (vi (x4 + 1)), some (vi r4)]) rfl (by decide) dX3_enter_55 ?_
        refine sb_goto (tgt := 15) (by decide) dX3_enter_58 ?_
        obtain ⟨o5, H⟩ := H
        obtain ⟨o6, H⟩ := H
        refine Wb.forget [true, true, true, true, true, false] ?_
        exact (H o5 hx3 o6 hs4)
      · intro cc; have H := H.2 cc
        refine sb_iconst (pc' := 49) rfl dX3_enter_48 ?_
        exact sb_iret rfl rfl dX3_enter_49 (H (iR_lit rfl) hs4)
theorem bX3_enterAhead_0 {g : AG} {ad : Nat → Nat} {d : Nat} {Q : AO → SG → Prop} {rc rs : Nat} {σ : SG} {x2 x3 : Int} {k0 : Nat} (hk0 : isK k0) (hx2 : iR x2) (hx3 : iR x3) (hS : SR σ) (H : (iR x2 → iR x3 → iR 0 → iR 0 → SR σ → Wb g ad d mX3_enterAhead Q 6 [some (.ref (ad k0)), some (.ref (ad 37)), some (vi x2), some (vi x3), some (vi 0), some (vi 0), none, none, none, none, none] [] σ rc rs)) : Wb g ad d mX3_enterAhead Q 0 [some (.ref (ad k0)), some (.ref (ad 37)), some (vi x2), some (vi x3), none, none, none, none, none, none, none] [] σ rc rs := by
  refine sb_iconst (pc' := 1) rfl dX3_enterAhead_0 ?_
  refine sb_istore (pc' := 3) rfl (L' := [some (.ref (ad k0)), some (.ref (ad 37)), some (vi x2), some (vi x3), some (vi 0), none, none, none, none, none, none]) rfl (by decide) dX3_enterAhead_1 ?_
  refine sb_iconst (pc' := 4) rfl dX3_enterAhead_3 ?_
  refine sb_istore (pc' := 6) rfl (L' := [some (.ref (ad k0)), some (.ref (ad 37)), some (vi x2), some (vi x3), some (vi 0), some (vi 0), none, none, none, none, none]) rfl (by decide) dX3_enterAhead_4 ?_
  exact (H hx2 hx3 (iR_lit rfl) (iR_lit rfl) hS)
theorem bX3_enterAhead_6 {g : AG} {ad : Nat → Nat} {d : Nat} {Q : AO → SG → Prop} {rc rs : Nat} {σ : SG} {x2 x3 x4 x5 : Int} {k0 : Nat} (hk0 : isK k0) (hx2 : iR x2) (hx3 : iR x3) (hx4 : iR x4) (hx5 : iR x5) (hS : SR σ) (H : (((sc σ 37 13) ≤ x5 → (iR x4 → SR σ → Q (.inl (some (vi x4))) σ)) ∧ (¬ (sc σ 37 13) ≤ x5 → (iR x2 → iR x3 → iR x4 → iR x5 → iR x5 → SR σ → Wb g ad d mX3_enterAhead Q 19 [some (.ref (ad k0)), some (.ref (ad 37)), some (vi x2), some (vi x3), some (vi x4), some (vi x5), some (vi x5), none, none, none, none] [] σ rc rs)))) : Wb g ad d mX3_enterAhead Q 6 [some (.ref (ad k0)), some (.ref (ad 37)), some (vi x2), some (vi x3), some (vi x4), some (vi x5), none, none, none, none, none] [] σ rc rs := by
  refine sb_iload (pc' := 8) rfl rfl dX3_enterAhead_6 ?_
  refine sb_aload_n (pc' := 9) rfl rfl dX3_enterAhead_8 ?_
  refine sb_getIN (pc' := 12) rfl fi_37_13 wd_310 dX3_enterAhead_9 ?_
  refine sb_icmp_ge (pc' := 15) (tgt := 183) rfl (by decide) hx5 (SR_sc hS _ _) dX3_enterAhead_12 ?_ ?_
  · intro cc; have H := H.1 cc
    refine sb_iload (pc' := 185) rfl rfl dX3_enterAhead_183 ?_
    exact sb_iret rfl rfl dX3_enterAhead_185 (H hx4 hS)
  · intro cc; have H := H.2 cc
    refine sb_iload (pc' := 17) rfl rfl dX3_enterAhead_15 ?_
    refine sb_istore (pc' := 19) rfl (L' := [some (.ref (ad k0)), some (.ref (ad 37)), some (vi x2), some (vi x3), some (vi x4), some (vi x5), some (vi x5), none, none, none, none]) rfl (by decide) dX3_enterAhead_17 ?_
    exact (H hx2 hx3 hx4 hx5 hx5 hS)
theorem bX3_enterAhead_19 {g : AG} {ad : Nat → Nat} {d : Nat} {Q : AO → SG → Prop} {rc rs : Nat} {σ : SG} {x2 x3 x4 x5 x6 : Int} {k0 : Nat} (hk0 : isK k0) (hx2 : iR x2) (hx3 : iR x3) (hx4 : iR x4) (hx5 : iR x5) (hx6 : iR x6) (hS : SR σ) (H : (((sc σ 37 13) ≤ x6 → (iR x2 → iR x3 → iR x4 → iR x5 → iR x6 → SR σ → Wb g ad d mX3_enterAhead Q 177 [some (.ref (ad k0)), some (.ref (ad 37)), some (vi x2), some (vi x3), some (vi x4), some (vi x5), some (vi x6), none, none, none, none] [] σ rc rs)) ∧ (¬ (sc σ 37 13) ≤ x6 → iR (x5 + 3) ∧ (((x5 + 3) ≤ x6 → (iR x2 → iR x3 → iR x4 → iR x5 → iR x6 → SR σ → Wb g ad d mX3_enterAhead Q 177 [some (.ref (ad k0)), some (.ref (ad 37)), some (vi x2), some (vi x3), some (vi x4), some (vi x5), some (vi x6), none, none, none, none] [] σ rc rs)) ∧ (¬ (x5 + 3) ≤ x6 → Cl g ad d mX3_belong 0 0 [(.ref (ad 37)), (vi x2), (vi x3), (vi x5), (vi x6)] σ (Ki fun r2 s2 => ((¬ r2 = 0 → Cl g ad d mX2_findPhrase 0 0 [(.ref (ad k0)), (.ref (ad 45)), (vi x2), (vi ((x3 - x2) + 1)), (.ref (ad 46)), (vi x5), (vi ((x6 - x5) + 1))] s2 (Ki fun r3 s3 => ((r3 = ((-1)) → ((¬ (sc s3 k0 9) = 30 → Cl g ad d mX3_unlinked 0 0 [(.ref (ad 37)), (vi x2), (vi x3), (vi x5), (vi x6)] s3 (Ki fun r4 s4 => Cl g ad d mX2_addPhrase 0 0 [(.ref (ad k0)), (.ref (ad 45)), (vi x2), (vi ((x3 - x2) + 1)), (.ref (ad 46)), (vi x5), (vi ((x6 - x5) + 1)), (vi (10 + (5 * r4)))] s4 (Kv fun s5 => iR (x4 + 1) ∧ (iR x2 → iR x3 → iR (x4 + 1) → iR x5 → iR x6 → SR s5 → Wb g ad d mX3_enterAhead Q 171 [some (.ref (ad k0)), some (.ref (ad 37)), some (vi x2), some (vi x3), some (vi (x4 + 1)), some (vi x5), some (vi x6), none, none, none, none] [] s5 rc rs)))) ∧ ((sc s3 k0 9) = 30 → (iR ((-1)) → SR s3 → Q (.inl (some (vi ((-1))))) s3)))) ∧ (¬ r3 = ((-1)) → (0 ≤ r3 ∧ r3 < 30) ∧ Cl g ad d mJ9_max_7cf53 0 0 [(vi 0), (vi ((ia s3 (k0 + 7) r3) - 1))] s3 (Ki fun r8 s8 => (iR x2 → iR x3 → iR x4 → iR x5 → iR x6 → SR (setI s8 (k0 + 7) r3 r8) → Wb g ad d mX3_enterAhead Q 171 [some (.ref (ad k0)), some (.ref (ad 37)), some (vi x2), some (vi x3), some (vi x4), some (vi x5), some (vi x6), none, none, none, none] [] (setI s8 (k0 + 7) r3 r8) rc rs)))))) ∧ (r2 = 0 → (iR x2 → iR x3 → iR x4 → iR x5 → iR x6 → SR s2 → Wb g ad d mX3_enterAhead Q 171 [some (.ref (ad k0)), some (.ref (ad 37)), some (vi x2), some (vi x3), some (vi x4), some (vi x5), some (vi x6), none, none, none, none] [] s2 rc rs))))))))) : Wb g ad d mX3_enterAhead Q 19 [some (.ref (ad k0)), some (.ref (ad 37)), some (vi x2), some (vi x3), some (vi x4), some (vi x5), some (vi x6), none, none, none, none] [] σ rc rs := by
  refine sb_iload (pc' := 21) rfl rfl dX3_enterAhead_19 ?_
  refine sb_aload_n (pc' := 22) rfl rfl dX3_enterAhead_21 ?_
  refine sb_getIN (pc' := 25) rfl fi_37_13 wd_310 dX3_enterAhead_22 ?_
  refine sb_icmp_ge (pc' := 28) (tgt := 177) rfl (by decide) hx6 (SR_sc hS _ _) dX3_enterAhead_25 ?_ ?_
  · intro cc; have H := H.1 cc
    exact (H hx2 hx3 hx4 hx5 hx6 hS)
  · intro cc; have H := H.2 cc
    refine sb_iload (pc' := 30) rfl rfl dX3_enterAhead_28 ?_
    refine sb_iload (pc' := 32) rfl rfl dX3_enterAhead_30 ?_
    refine sb_iconst (pc' := 33) rfl dX3_enterAhead_32 ?_
    refine sb_iadd (pc' := 34) rfl dX3_enterAhead_33 ?_
    obtain ⟨o1, H⟩ := H
    refine sb_icmp_ge (pc' := 37) (tgt := 177) rfl (by decide) hx6 o1 dX3_enterAhead_34 ?_ ?_
    · intro cc; have H := H.1 cc
      exact (H hx2 hx3 hx4 hx5 hx6 hS)
    · intro cc; have H := H.2 cc
      refine sb_aload_n (pc' := 38) rfl rfl dX3_enterAhead_37 ?_
      refine sb_iload_n (pc' := 39) rfl rfl dX3_enterAhead_38 ?_
      refine sb_iload_n (pc' := 40) rfl rfl dX3_enterAhead_39 ?_
      refine sb_iload (pc' := 42) rfl rfl dX3_enterAhead_40 ?_
      refine sb_iload (pc' := 44) rfl rfl dX3_enterAhead_42 ?_
      obtain ⟨d2, hd2, H⟩ := H
      refine sb_callS (pc' := 47) rfl rfl (rc := rc) (rs := rs) (mc' := 0) (ms' := 0) (As := [(.ref (ad 37)), (vi x2), (vi x3), (vi x5), (vi x6)]) (st := [])  rfl rfl (Nat.le_of_ble_eq_true rfl) hd2 kX3_belong ⟨wd_1216, wd_1217⟩ dX3_enterAhead_44 (Eb.mono H ?_)
      rintro o s2 ⟨r2, rfl, hr2, hs2, H⟩
      show Wb g ad d mX3_enterAhead Q 47 [some (.ref (ad k0)), some (.ref (ad 37)), some (vi x2), some (vi x3), some (vi x4), some (vi x5), some (vi x6), none, none, none, none] [(vi r2)] s2 rc rs
      refine sb_if_ne (pc' := 50) (tgt := 53) rfl (by decide) hr2 dX3_enterAhead_47 ?_ ?_
      · intro cc; have H := H.1 cc
        refine sb_iload_n (pc' := 54) rfl rfl dX3_enterAhead_53 ?_
        refine sb_iload_n (pc' := 55) rfl rfl dX3_enterAhead_54 ?_
        refine sb_isub (pc' := 56) rfl dX3_enterAhead_55 ?_
        refine sb_iconst (pc' := 57) rfl dX3_enterAhead_56 ?_
        refine sb_iadd (pc' := 58) rfl dX3_enterAhead_57 ?_
        refine sb_istore (pc' := 60) rfl (L' := [some (.ref (ad k0)), some (.ref (ad 37)), some (vi x2), some (vi x3), some (vi x4), some (vi x5), some (vi x6), some (vi ((x3 - x2) + 1)), none, none, none]) rfl (by decide) dX3_enterAhead_58 ?_
        refine sb_iload (pc' := 62) rfl rfl dX3_enterAhead_60 ?_
        refine sb_iload (pc' := 64) rfl rfl dX3_enterAhead_62 ?_
        refine sb_isub (pc' := 65) rfl dX3_enterAhead_64 ?_
        refine sb_iconst (pc' := 66) rfl dX3_enterAhead_65 ?_
        refine sb_iadd (pc' := 67) rfl dX3_enterAhead_66 ?_
        refine sb_istore (pc' := 69) rfl (L' := [some (.ref (ad k0)), some (.ref (ad 37)), some (vi x2), some (vi x3), some (vi x4), some (vi x5), some (vi x6), some (vi ((x3 - x2) + 1)), some (vi ((x6 - x5) + 1)), none, none]) rfl (by decide) dX3_enterAhead_67 ?_
        refine sb_aload_n (pc' := 70) rfl rfl dX3_enterAhead_69 ?_
        refine sb_aload_n (pc' := 71) rfl rfl dX3_enterAhead_70 ?_
        refine sb_getCN (pc' := 74) rfl fc_37_10 wd_301 dX3_enterAhead_71 ?_
        refine sb_iload_n (pc' := 75) rfl rfl dX3_enterAhead_74 ?_
        refine sb_iload (pc' := 77) rfl rfl dX3_enterAhead_75 ?_
        refine sb_aload_n (pc' := 78) rfl rfl dX3_enterAhead_77 ?_
        refine sb_getCN (pc' := 81) rfl fc_37_12 wd_309 dX3_enterAhead_78 ?_
        refine sb_iload (pc' := 83) rfl rfl dX3_enterAhead_81 ?_
        refine sb_iload (pc' := 85) rfl rfl dX3_enterAhead_83 ?_
        obtain ⟨d3, hd3, H⟩ := H
        refine sb_callVN (pc' := 88) rfl rfl (rc := rc) (rs := rs) (mc' := 0) (ms' := 0) (As := [(.ref (ad 45)), (vi x2), (vi ((x3 - x2) + 1)), (.ref (ad 46)), (vi x5), (vi ((x6 - x5) + 1))]) (st := []) (ofK hk0) rfl rfl (Nat.le_of_ble_eq_true rfl) hd3 kX2_findPhrase ⟨wd_1222, wd_1074, wd_67⟩ dX3_enterAhead_85 (Eb.mono H ?_)
        rintro o s3 ⟨r3, rfl, hr3, hs3, H⟩
        show Wb g ad d mX3_enterAhead Q 88 [some (.ref (ad k0)), some (.ref (ad 37)), some (vi x2), some (vi x3), some (vi x4), some (vi x5), some (vi x6), some (vi ((x3 - x2) + 1)), some (vi ((x6 - x5) + 1)), none, none] [(vi r3)] s3 rc rs
        refine sb_istore (pc' := 90) rfl (L' := [some (.ref (ad k0)), some (.ref (ad 37)), some (vi x2), some (vi x3), some (vi x4), some (vi x5), some (vi x6), some (vi ((x3 - x2) + 1)), some (vi ((x6 - x5) + 1)), some (vi r3), none]) rfl (by decide) dX3_enterAhead_88 ?_
        refine sb_iload (pc' := 92) rfl rfl dX3_enterAhead_90 ?_
        refine sb_iconst (pc' := 93) rfl dX3_enterAhead_92 ?_
        refine sb_icmp_eq (pc' := 96) (tgt := 119) rfl (by decide) hr3 (iR_lit rfl) dX3_enterAhead_93 ?_ ?_
        · intro cc; have H := H.1 cc
          refine sb_aload_n (pc' := 120) rfl rfl dX3_enterAhead_119 ?_
          refine sb_getIN (pc' := 123) rfl (fiK_9 hk0) wd_228 dX3_enterAhead_120 ?_
          refine sb_bipush (pc' := 125) rfl (z := 30) (by decide) dX3_enterAhead_123 ?_
          refine sb_icmp_ne (pc' := 128) (tgt := 130) rfl (by decide) (SR_sc hs3 _ _) (iR_lit rfl) dX3_enterAhead_125 ?_ ?_
          · intro cc; have H := H.1 cc
            refine sb_bipush (pc' := 132) rfl (z := 10) (by decide) dX3_enterAhead_130 ?_
            refine sb_iconst (pc' := 133) rfl dX3_enterAhead_132 ?_
            refine sb_aload_n (pc' := 134) rfl rfl dX3_enterAhead_133 ?_
            refine sb_iload_n (pc' := 135) rfl rfl dX3_enterAhead_134 ?_
            refine sb_iload_n (pc' := 136) rfl rfl dX3_enterAhead_135 ?_
            refine sb_iload (pc' := 138) rfl rfl dX3_enterAhead_136 ?_
            refine sb_iload (pc' := 140) rfl rfl dX3_enterAhead_138 ?_
            obtain ⟨d4, hd4, H⟩ := H
            refine sb_callS (pc' := 143) rfl rfl (rc := rc) (rs := rs) (mc' := 0) (ms' := 0) (As := [(.ref (ad 37)), (vi x2), (vi x3), (vi x5), (vi x6)]) (st := [(vi 5), (vi 10)])  rfl rfl (Nat.le_of_ble_eq_true rfl) hd4 kX3_unlinked ⟨wd_1226, wd_1227⟩ dX3_enterAhead_140 (Eb.mono H ?_)
            rintro o s4 ⟨r4, rfl, hr4, hs4, H⟩
            show Wb g ad d mX3_enterAhead Q 143 [some (.ref (ad k0)), some (.ref (ad 37)), some (vi x2), some (vi x3), some (vi x4), some (vi x5), some (vi x6), some (vi ((x3 - x2) + 1)), some (vi ((x6 - x5) + 1)), some (vi r3), none] [(vi r4), (vi 5), (vi 10)] s4 rc rs
            refine sb_imul (pc' := 144) rfl dX3_enterAhead_143 ?_
            refine sb_iadd (pc' := 145) rfl dX3_enterAhead_144 ?_
            refine sb_istore (pc' := 147) rfl (L' := [some (.ref (ad k0)), some (.ref (ad 37)), some (vi x2), some (vi x3), some (vi x4), some (vi x5), some (vi x6), some (vi ((x3 - x2) + 1)), some (vi ((x6 - x5) + 1)), some (vi r3), some (vi (10 + (5 * r4)))]) rfl (by decide) dX3_enterAhead_145 ?_
            refine sb_aload_n (pc' := 148) rfl rfl dX3_enterAhead_147 ?_
            refine sb_aload_n (pc' := 149) rfl rfl dX3_enterAhead_148 ?_
            refine sb_getCN (pc' := 152) rfl fc_37_10 wd_301 dX3_enterAhead_149 ?_
            refine sb_iload_n (pc' := 153) rfl rfl dX3_enterAhead_152 ?_
            refine sb_iload (pc' := 155) rfl rfl dX3_enterAhead_153 ?_
            refine sb_aload_n (pc' := 156) rfl rfl dX3_enterAhead_155 ?_
            refine sb_getCN (pc' := 159) rfl fc_37_12 wd_309 dX3_enterAhead_156 ?_
            refine sb_iload (pc' := 161) rfl rfl dX3_enterAhead_159 ?_
            refine sb_iload (pc' := 163) rfl rfl dX3_enterAhead_161 ?_
            refine sb_iload (pc' := 165) rfl rfl dX3_enterAhead_163 ?_
            obtain ⟨d5, hd5, H⟩ := H
            refine sb_callVN (pc' := 168) rfl rfl (rc := rc) (rs := rs) (mc' := 0) (ms' := 0) (As := [(.ref (ad 45)), (vi x2), (vi ((x3 - x2) + 1)), (.ref (ad 46)), (vi x5), (vi ((x6 - x5) + 1)), (vi (10 + (5 * r4)))]) (st := []) (ofK hk0) rfl rfl (Nat.le_of_ble_eq_true rfl) hd5 kX2_addPhrase ⟨wd_1230, wd_1079, wd_68⟩ dX3_enterAhead_165 (Eb.mono H ?_)
            rintro o s5 ⟨rfl, hs5, H⟩
            show Wb g ad d mX3_enterAhead Q 168 [some (.ref (ad k0)), some (.ref (ad 37)), some (vi x2), some (vi x3), some (vi x4), some (vi x5), some (vi x6), some (vi ((x3 - x2) + 1)), some (vi ((x6 - x5) + 1)), some (vi r3), some (vi (10 + (5 * r4)))] [] s5 rc rs
            refine sb_iinc (pc' := 171) rfl rfl (L' := [some (.ref (ad k0)), some (.ref (ad 37)), some (vi x2), some (vi x3), some (vi (x4 + 1)), some (vi x5), some (vi x6), some (vi ((x3 - x2) + 1)), some (vi ((x6 - x5) + 1)), some (vi r3), some (vi (10 + (5 * r4)))]) rfl (by decide) dX3_enterAhead_168 ?_
            obtain ⟨o6, H⟩ := H
            refine Wb.forget [true, true, true, true, true, true, true, false, false, false, false] ?_
            exact (H hx2 hx3 o6 hx5 hx6 hs5)
          · intro cc; have H := H.2 cc
            refine sb_iconst (pc' := 129) rfl dX3_enterAhead_128 ?_
            exact sb_iret rfl rfl dX3_enterAhead_129 (H (iR_lit rfl) hs3)
        · intro cc; have H := H.2 cc
          refine sb_aload_n (pc' := 97) rfl rfl dX3_enterAhead_96 ?_
          refine sb_getCN (pc' := 100) rfl (fcK_7 hk0) wd_222 dX3_enterAhead_97 ?_
          refine sb_iload (pc' := 102) rfl rfl dX3_enterAhead_100 ?_
          refine sb_iconst (pc' := 103) rfl dX3_enterAhead_102 ?_
          refine sb_aload_n (pc' := 104) rfl rfl dX3_enterAhead_103 ?_
          refine sb_getCN (pc' := 107) rfl (fcK_7 hk0) wd_222 dX3_enterAhead_104 ?_
          refine sb_iload (pc' := 109) rfl rfl dX3_enterAhead_107 ?_
          obtain ⟨o7, H⟩ := H
          refine sb_iald (pc' := 110) rfl (aIK_7 hk0) o7.1 o7.2 dX3_enterAhead_109 ?_
          refine sb_iconst (pc' := 111) rfl dX3_enterAhead_110 ?_
          refine sb_isub (pc' := 112) rfl dX3_enterAhead_111 ?_
          obtain ⟨d8, hd8, H⟩ := H
          refine sb_callS (pc' := 115) rfl rfl (rc := rc) (rs := rs) (mc' := 0) (ms' := 0) (As := [(vi 0), (vi ((ia s3 (k0 + 7) r3) - 1))]) (st := [(vi r3), (.ref (ad (k0 + 7)))])  rfl rfl (Nat.le_of_ble_eq_true rfl) hd8 kJ9_max_7cf53 ⟨wd_1223, wd_1224⟩ dX3_enterAhead_112 (Eb.mono H ?_)
          rintro o s8 ⟨r8, rfl, hr8, hs8, H⟩
          show Wb g ad d mX3_enterAhead Q 115 [some (.ref (ad k0)), some (.ref (ad 37)), some (vi x2), some (vi x3), some (vi x4), some (vi x5), some (vi x6), some (vi ((x3 - x2) + 1)), some (vi ((x6 - x5) + 1)), some (vi r3), none] [(vi r8), (vi r3), (.ref (ad (k0 + 7)))] s8 rc rs
          refine sb_iast (pc' := 116) rfl (aIK_7 hk0) o7.1 o7.2  dX3_enterAhead_115 ?_
          refine sb_goto (tgt := 171) (by decide) dX3_enterAhead_116 ?_
          refine Wb.forget [true, true, true, true, true, true, true, false, false, false, false] ?_
          exact (H hx2 hx3 hx4 hx5 hx6 (SR_setI hs8 hr8))
      · intro cc; have H := H.2 cc
        refine sb_goto (tgt := 171) (by decide) dX3_enterAhead_50 ?_
        exact (H hx2 hx3 hx4 hx5 hx6 hs2)
theorem bX3_enterAhead_171 {g : AG} {ad : Nat → Nat} {d : Nat} {Q : AO → SG → Prop} {rc rs : Nat} {σ : SG} {x2 x3 x4 x5 x6 : Int} {k0 : Nat} (hk0 : isK k0) (hx2 : iR x2) (hx3 : iR x3) (hx4 : iR x4) (hx5 : iR x5) (hx6 : iR x6) (hS : SR σ) (H : iR (x6 + 1) ∧ (iR x2 → iR x3 → iR x4 → iR x5 → iR (x6 + 1) → SR σ → Wb g ad d mX3_enterAhead Q 19 [some (.ref (ad k0)), some (.ref (ad 37)), some (vi x2), some (vi x3), some (vi x4), some (vi x5), some (vi (x6 + 1)), none, none, none, none] [] σ rc rs)) : Wb g ad d mX3_enterAhead Q 171 [some (.ref (ad k0)), some (.ref (ad 37)), some (vi x2), some (vi x3), some (vi x4), some (vi x5), some (vi x6), none, none, none, none] [] σ rc rs := by
  refine sb_iinc (pc' := 174) rfl rfl (L' := [some (.ref (ad k0)), some (.ref (ad 37)), some (vi x2), some (vi x3), some (vi x4), some (vi x5), some (vi (x6 + 1)), none, none, none, none]) rfl (by decide) dX3_enterAhead_171 ?_
  refine sb_goto (tgt := 19) (by decide) dX3_enterAhead_174 ?_
  obtain ⟨o1, H⟩ := H
  exact (H hx2 hx3 hx4 hx5 o1 hS)
theorem bX3_enterAhead_177 {g : AG} {ad : Nat → Nat} {d : Nat} {Q : AO → SG → Prop} {rc rs : Nat} {σ : SG} {x2 x3 x4 x5 x6 : Int} {k0 : Nat} (hk0 : isK k0) (hx2 : iR x2) (hx3 : iR x3) (hx4 : iR x4) (hx5 : iR x5) (hx6 : iR x6) (hS : SR σ) (H : iR (x5 + 1) ∧ (iR x2 → iR x3 → iR x4 → iR (x5 + 1) → SR σ → Wb g ad d mX3_enterAhead Q 6 [some (.ref (ad k0)), some (.ref (ad 37)), some (vi x2), some (vi x3), some (vi x4), some (vi (x5 + 1)), none, none, none, none, none] [] σ rc rs)) : Wb g ad d mX3_enterAhead Q 177 [some (.ref (ad k0)), some (.ref (ad 37)), some (vi x2), some (vi x3), some (vi x4), some (vi x5), some (vi x6), none, none, none, none] [] σ rc rs := by
  refine sb_iinc (pc' := 180) rfl rfl (L' := [some (.ref (ad k0)), some (.ref (ad 37)), some (vi x2), some (vi x3), some (vi x4), some (vi (x5 + 1)), some (vi x6), none, none, none, none]) rfl (by decide) dX3_enterAhead_177 ?_
  refine sb_goto (tgt := 6) (by decide) dX3_enterAhead_180 ?_
  obtain ⟨o1, H⟩ := H
  refine Wb.forget [true, true, true, true, true, true, false, false, false, false, false] ?_
  exact (H hx2 hx3 hx4 o1 hS)
theorem bX3_belong_0 {g : AG} {ad : Nat → Nat} {d : Nat} {Q : AO → SG → Prop} {rc rs : Nat} {σ : SG} {x1 x2 x3 x4 : Int}  (hx1 : iR x1) (hx2 : iR x2) (hx3 : iR x3) (hx4 : iR x4) (hS : SR σ) (H : Cl g ad d mX3_bitsOf 0 0 [(vi x3), (vi x4)] σ (Ki fun r1 s1 => (iR x1 → iR x2 → iR x3 → iR x4 → iR r1 → iR 0 → iR 0 → SR s1 → Wb g ad d mX3_belong Q 14 [some (.ref (ad 37)), some (vi x1), some (vi x2), some (vi x3), some (vi x4), some (vi r1), some (vi 0), some (vi 0), none, none] [] s1 rc rs))) : Wb g ad d mX3_belong Q 0 [some (.ref (ad 37)), some (vi x1), some (vi x2), some (vi x3), some (vi x4), none, none, none, none, none] [] σ rc rs := by
  refine sb_iload_n (pc' := 1) rfl rfl dX3_belong_0 ?_
  refine sb_iload (pc' := 3) rfl rfl dX3_belong_1 ?_
  obtain ⟨d1, hd1, H⟩ := H
  refine sb_callS (pc' := 6) rfl rfl (rc := rc) (rs := rs) (mc' := 0) (ms' := 0) (As := [(vi x3), (vi x4)]) (st := [])  rfl rfl (Nat.le_of_ble_eq_true rfl) hd1 kX3_bitsOf ⟨wd_1219, wd_1220⟩ dX3_belong_3 (Eb.mono H ?_)
  rintro o s1 ⟨r1, rfl, hr1, hs1, H⟩
  show Wb g ad d mX3_belong Q 6 [some (.ref (ad 37)), some (vi x1), some (vi x2), some (vi x3), some (vi x4), none, none, none, none, none] [(vi r1)] s1 rc rs
  refine sb_istore (pc' := 8) rfl (L' := [some (.ref (ad 37)), some (vi x1), some (vi x2), some (vi x3), some (vi x4), some (vi r1), none, none, none, none]) rfl (by decide) dX3_belong_6 ?_
  refine sb_iconst (pc' := 9) rfl dX3_belong_8 ?_
  refine sb_istore (pc' := 11) rfl (L' := [some (.ref (ad 37)), some (vi x1), some (vi x2), some (vi x3), some (vi x4), some (vi r1), some (vi 0), none, none, none]) rfl (by decide) dX3_belong_9 ?_
  refine sb_iconst (pc' := 12) rfl dX3_belong_11 ?_
  refine sb_istore (pc' := 14) rfl (L' := [some (.ref (ad 37)), some (vi x1), some (vi x2), some (vi x3), some (vi x4), some (vi r1), some (vi 0), some (vi 0), none, none]) rfl (by decide) dX3_belong_12 ?_
  exact (H hx1 hx2 hx3 hx4 hr1 (iR_lit rfl) (iR_lit rfl) hs1)
theorem bX3_belong_14 {g : AG} {ad : Nat → Nat} {d : Nat} {Q : AO → SG → Prop} {rc rs : Nat} {σ : SG} {x1 x2 x3 x4 x5 x6 x7 : Int}  (hx1 : iR x1) (hx2 : iR x2) (hx3 : iR x3) (hx4 : iR x4) (hx5 : iR x5) (hx6 : iR x6) (hx7 : iR x7) (hS : SR σ) (H : (((sc σ 37 11) ≤ x7 → (x6 = 0 ∨ x6 = 1) ∧ (iR x6 → SR σ → Q (.inl (some (vi x6))) σ)) ∧ (¬ (sc σ 37 11) ≤ x7 → ((x7 < x1 → (0 ≤ x7 ∧ x7 < 6) ∧ (((bAnd (ia σ 47 x7) x5) = 0 → iR (x7 + 1) ∧ (iR x1 → iR x2 → iR x3 → iR x4 → iR x5 → iR (bOr x6 0) → iR (x7 + 1) → SR σ → Wb g ad d mX3_belong Q 14 [some (.ref (ad 37)), some (vi x1), some (vi x2), some (vi x3), some (vi x4), some (vi x5), some (vi (bOr x6 0)), some (vi (x7 + 1)), none, none] [] σ rc rs)) ∧ (¬ (bAnd (ia σ 47 x7) x5) = 0 → (iR 0 → SR σ → Q (.inl (some (vi 0))) σ)))) ∧ (¬ x7 < x1 → ((x2 < x7 → (0 ≤ x7 ∧ x7 < 6) ∧ (((bAnd (ia σ 47 x7) x5) = 0 → iR (x7 + 1) ∧ (iR x1 → iR x2 → iR x3 → iR x4 → iR x5 → iR (bOr x6 0) → iR (x7 + 1) → SR σ → Wb g ad d mX3_belong Q 14 [some (.ref (ad 37)), some (vi x1), some (vi x2), some (vi x3), some (vi x4), some (vi x5), some (vi (bOr x6 0)), some (vi (x7 + 1)), none, none] [] σ rc rs)) ∧ (¬ (bAnd (ia σ 47 x7) x5) = 0 → (iR 0 → SR σ → Q (.inl (some (vi 0))) σ)))) ∧ (¬ x2 < x7 → (0 ≤ x7 ∧ x7 < 6) ∧ (((bAnd (ia σ 47 x7) (bXor x5 ((-1)))) = 0 → (((ia σ 47 x7) = 0 → iR (x7 + 1) ∧ (iR x1 → iR x2 → iR x3 → iR x4 → iR x5 → iR (bOr x6 0) → iR (x7 + 1) → SR σ → Wb g ad d mX3_belong Q 14 [some (.ref (ad 37)), some (vi x1), some (vi x2), some (vi x3), some (vi x4), some (vi x5), some (vi (bOr x6 0)), some (vi (x7 + 1)), none, none] [] σ rc rs)) ∧ (¬ (ia σ 47 x7) = 0 → iR (x7 + 1) ∧ (iR x1 → iR x2 → iR x3 → iR x4 → iR x5 → iR (bOr x6 1) → iR (x7 + 1) → SR σ → Wb g ad d mX3_belong Q 14 [some (.ref (ad 37)), some (vi x1), some (vi x2), some (vi x3), some (vi x4), some (vi x5), some (vi (bOr x6 1)), some (vi (x7 + 1)), none, none] [] σ rc rs)))) ∧ (¬ (bAnd (ia σ 47 x7) (bXor x5 ((-1)))) = 0 → (iR 0 → SR σ → Q (.inl (some (vi 0))) σ)))))))))) : Wb g ad d mX3_belong Q 14 [some (.ref (ad 37)), some (vi x1), some (vi x2), some (vi x3), some (vi x4), some (vi x5), some (vi x6), some (vi x7), none, none] [] σ rc rs := by
  refine sb_iload (pc' := 16) rfl rfl dX3_belong_14 ?_
  refine sb_aload_n (pc' := 17) rfl rfl dX3_belong_16 ?_
  refine sb_getIN (pc' := 20) rfl fi_37_11 wd_304 dX3_belong_17 ?_
  refine sb_icmp_ge (pc' := 23) (tgt := 112) rfl (by decide) hx7 (SR_sc hS _ _) dX3_belong_20 ?_ ?_
  · intro cc; have H := H.1 cc
    refine sb_iload (pc' := 114) rfl rfl dX3_belong_112 ?_
    obtain ⟨o1, H⟩ := H
    exact sb_iret rfl (nar_z2 o1) dX3_belong_114 (H hx6 hS)
  · intro cc; have H := H.2 cc
    refine sb_iload (pc' := 25) rfl rfl dX3_belong_23 ?_
    refine sb_iload_n (pc' := 26) rfl rfl dX3_belong_25 ?_
    refine sb_icmp_lt (pc' := 29) (tgt := 39) rfl (by decide) hx7 hx1 dX3_belong_26 ?_ ?_
    · intro cc; have H := H.1 cc
      refine sb_iconst (pc' := 40) rfl dX3_belong_39 ?_
      refine sb_istore (pc' := 42) rfl (L' := [some (.ref (ad 37)), some (vi x1), some (vi x2), some (vi x3), some (vi x4), some (vi x5), some (vi x6), some (vi x7), some (vi 0), none]) rfl (by decide) dX3_belong_40 ?_
      refine sb_iload (pc' := 44) rfl rfl dX3_belong_42 ?_
      refine sb_if_eq (pc' := 47) (tgt := 62) rfl (by decide) (iR_lit rfl) dX3_belong_44 ?_ ?_
      · intro cc
        refine sb_aload_n (pc' := 63) rfl rfl dX3_belong_62 ?_
        refine sb_getCN (pc' := 66) rfl fc_37_14 wd_313 dX3_belong_63 ?_
        refine sb_iload (pc' := 68) rfl rfl dX3_belong_66 ?_
        obtain ⟨o2, H⟩ := H
        refine sb_iald (pc' := 69) rfl aI_47 o2.1 o2.2 dX3_belong_68 ?_
        refine sb_iload (pc' := 71) rfl rfl dX3_belong_69 ?_
        refine sb_iand (pc' := 72) rfl dX3_belong_71 ?_
        refine sb_istore (pc' := 74) rfl (L' := [some (.ref (ad 37)), some (vi x1), some (vi x2), some (vi x3), some (vi x4), some (vi x5), some (vi x6), some (vi x7), some (vi 0), some (vi (bAnd (ia σ 47 x7) x5))]) rfl (by decide) dX3_belong_72 ?_
        refine sb_iload (pc' := 76) rfl rfl dX3_belong_74 ?_
        refine sb_if_eq (pc' := 79) (tgt := 81) rfl (by decide) (iR_b _) dX3_belong_76 ?_ ?_
        · intro cc; have H := H.1 cc
          refine sb_iload (pc' := 83) rfl rfl dX3_belong_81 ?_
          refine sb_iload (pc' := 85) rfl rfl dX3_belong_83 ?_
          refine sb_if_eq (pc' := 88) (tgt := 102) rfl (by decide) (iR_lit rfl) dX3_belong_85 ?_ ?_
          · intro cc
            refine sb_iconst (pc' := 103) rfl dX3_belong_102 ?_
            refine sb_ior (pc' := 104) rfl dX3_belong_103 ?_
            refine sb_istore (pc' := 106) rfl (L' := [some (.ref (ad 37)), some (vi x1), some (vi x2), some (vi x3), some (vi x4), some (vi x5), some (vi (bOr x6 0)), some (vi x7), some (vi 0), some (vi (bAnd (ia σ 47 x7) x5))]) rfl (by decide) dX3_belong_104 ?_
            refine sb_iinc (pc' := 109) rfl rfl (L' := [some (.ref (ad 37)), some (vi x1), some (vi x2), some (vi x3), some (vi x4), some (vi x5), some (vi (bOr x6 0)), some (vi (x7 + 1)), some (vi 0), some (vi (bAnd (ia σ 47 x7) x5))]) rfl (by decide) dX3_belong_106 ?_
            refine sb_goto (tgt := 14) (by decide) dX3_belong_109 ?_
            obtain ⟨o3, H⟩ := H
            refine Wb.forget [true, true, true, true, true, true, true, true, false, false] ?_
            exact (H hx1 hx2 hx3 hx4 hx5 (iR_b _) o3 hS)
          · intro cc; exact absurd cc (by decide)
        · intro cc; have H := H.2 cc
          refine sb_iconst (pc' := 80) rfl dX3_belong_79 ?_
          exact sb_iret rfl (nar_z2 (Or.inl rfl)) dX3_belong_80 (H (iR_lit rfl) hS)
      · intro cc; exact absurd cc (by decide)
    · intro cc; have H := H.2 cc
      refine sb_iload (pc' := 31) rfl rfl dX3_belong_29 ?_
      refine sb_iload_n (pc' := 32) rfl rfl dX3_belong_31 ?_
      refine sb_icmp_gt (pc' := 35) (tgt := 39) rfl (by decide) hx7 hx2 dX3_belong_32 ?_ ?_
      · intro cc; have H := H.1 cc
        refine sb_iconst (pc' := 40) rfl dX3_belong_39 ?_
        refine sb_istore (pc' := 42) rfl (L' := [some (.ref (ad 37)), some (vi x1), some (vi x2), some (vi x3), some (vi x4), some (vi x5), some (vi x6), some (vi x7), some (vi 0), none]) rfl (by decide) dX3_belong_40 ?_
        refine sb_iload (pc' := 44) rfl rfl dX3_belong_42 ?_
        refine sb_if_eq (pc' := 47) (tgt := 62) rfl (by decide) (iR_lit rfl) dX3_belong_44 ?_ ?_
        · intro cc
          refine sb_aload_n (pc' := 63) rfl rfl dX3_belong_62 ?_
          refine sb_getCN (pc' := 66) rfl fc_37_14 wd_313 dX3_belong_63 ?_
          refine sb_iload (pc' := 68) rfl rfl dX3_belong_66 ?_
          obtain ⟨o4, H⟩ := H
          refine sb_iald (pc' := 69) rfl aI_47 o4.1 o4.2 dX3_belong_68 ?_
          refine sb_iload (pc' := 71) rfl rfl dX3_belong_69 ?_
          refine sb_iand (pc' := 72) rfl dX3_belong_71 ?_
          refine sb_istore (pc' := 74) rfl (L' := [some (.ref (ad 37)), some (vi x1), some (vi x2), some (vi x3), some (vi x4), some (vi x5), some (vi x6), some (vi x7), some (vi 0), some (vi (bAnd (ia σ 47 x7) x5))]) rfl (by decide) dX3_belong_72 ?_
          refine sb_iload (pc' := 76) rfl rfl dX3_belong_74 ?_
          refine sb_if_eq (pc' := 79) (tgt := 81) rfl (by decide) (iR_b _) dX3_belong_76 ?_ ?_
          · intro cc; have H := H.1 cc
            refine sb_iload (pc' := 83) rfl rfl dX3_belong_81 ?_
            refine sb_iload (pc' := 85) rfl rfl dX3_belong_83 ?_
            refine sb_if_eq (pc' := 88) (tgt := 102) rfl (by decide) (iR_lit rfl) dX3_belong_85 ?_ ?_
            · intro cc
              refine sb_iconst (pc' := 103) rfl dX3_belong_102 ?_
              refine sb_ior (pc' := 104) rfl dX3_belong_103 ?_
              refine sb_istore (pc' := 106) rfl (L' := [some (.ref (ad 37)), some (vi x1), some (vi x2), some (vi x3), some (vi x4), some (vi x5), some (vi (bOr x6 0)), some (vi x7), some (vi 0), some (vi (bAnd (ia σ 47 x7) x5))]) rfl (by decide) dX3_belong_104 ?_
              refine sb_iinc (pc' := 109) rfl rfl (L' := [some (.ref (ad 37)), some (vi x1), some (vi x2), some (vi x3), some (vi x4), some (vi x5), some (vi (bOr x6 0)), some (vi (x7 + 1)), some (vi 0), some (vi (bAnd (ia σ 47 x7) x5))]) rfl (by decide) dX3_belong_106 ?_
              refine sb_goto (tgt := 14) (by decide) dX3_belong_109 ?_
              obtain ⟨o5, H⟩ := H
              refine Wb.forget [true, true, true, true, true, true, true, true, false, false] ?_
              exact (H hx1 hx2 hx3 hx4 hx5 (iR_b _) o5 hS)
            · intro cc; exact absurd cc (by decide)
          · intro cc; have H := H.2 cc
            refine sb_iconst (pc' := 80) rfl dX3_belong_79 ?_
            exact sb_iret rfl (nar_z2 (Or.inl rfl)) dX3_belong_80 (H (iR_lit rfl) hS)
        · intro cc; exact absurd cc (by decide)
      · intro cc; have H := H.2 cc
        refine sb_iconst (pc' := 36) rfl dX3_belong_35 ?_
        refine sb_goto (tgt := 40) (by decide) dX3_belong_36 ?_
        refine sb_istore (pc' := 42) rfl (L' := [some (.ref (ad 37)), some (vi x1), some (vi x2), some (vi x3), some (vi x4), some (vi x5), some (vi x6), some (vi x7), some (vi 1), none]) rfl (by decide) dX3_belong_40 ?_
        refine sb_iload (pc' := 44) rfl rfl dX3_belong_42 ?_
        refine sb_if_eq (pc' := 47) (tgt := 62) rfl (by decide) (iR_lit rfl) dX3_belong_44 ?_ ?_
        · intro cc; exact absurd cc (by decide)
        · intro cc
          refine sb_aload_n (pc' := 48) rfl rfl dX3_belong_47 ?_
          refine sb_getCN (pc' := 51) rfl fc_37_14 wd_313 dX3_belong_48 ?_
          refine sb_iload (pc' := 53) rfl rfl dX3_belong_51 ?_
          obtain ⟨o6, H⟩ := H
          refine sb_iald (pc' := 54) rfl aI_47 o6.1 o6.2 dX3_belong_53 ?_
          refine sb_iload (pc' := 56) rfl rfl dX3_belong_54 ?_
          refine sb_iconst (pc' := 57) rfl dX3_belong_56 ?_
          refine sb_ixor (pc' := 58) rfl dX3_belong_57 ?_
          refine sb_iand (pc' := 59) rfl dX3_belong_58 ?_
          refine sb_goto (tgt := 72) (by decide) dX3_belong_59 ?_
          refine sb_istore (pc' := 74) rfl (L' := [some (.ref (ad 37)), some (vi x1), some (vi x2), some (vi x3), some (vi x4), some (vi x5), some (vi x6), some (vi x7), some (vi 1), some (vi (bAnd (ia σ 47 x7) (bXor x5 ((-1)))))]) rfl (by decide) dX3_belong_72 ?_
          refine sb_iload (pc' := 76) rfl rfl dX3_belong_74 ?_
          refine sb_if_eq (pc' := 79) (tgt := 81) rfl (by decide) (iR_b _) dX3_belong_76 ?_ ?_
          · intro cc; have H := H.1 cc
            refine sb_iload (pc' := 83) rfl rfl dX3_belong_81 ?_
            refine sb_iload (pc' := 85) rfl rfl dX3_belong_83 ?_
            refine sb_if_eq (pc' := 88) (tgt := 102) rfl (by decide) (iR_lit rfl) dX3_belong_85 ?_ ?_
            · intro cc; exact absurd cc (by decide)
            · intro cc
              refine sb_aload_n (pc' := 89) rfl rfl dX3_belong_88 ?_
              refine sb_getCN (pc' := 92) rfl fc_37_14 wd_313 dX3_belong_89 ?_
              refine sb_iload (pc' := 94) rfl rfl dX3_belong_92 ?_
              refine sb_iald (pc' := 95) rfl aI_47 o6.1 o6.2 dX3_belong_94 ?_
              refine sb_if_eq (pc' := 98) (tgt := 102) rfl (by decide) (SR_ia hS _ _) dX3_belong_95 ?_ ?_
              · intro cc; have H := H.1 cc
                refine sb_iconst (pc' := 103) rfl dX3_belong_102 ?_
                refine sb_ior (pc' := 104) rfl dX3_belong_103 ?_
                refine sb_istore (pc' := 106) rfl (L' := [some (.ref (ad 37)), some (vi x1), some (vi x2), some (vi x3), some (vi x4), some (vi x5), some (vi (bOr x6 0)), some (vi x7), some (vi 1), some (vi (bAnd (ia σ 47 x7) (bXor x5 ((-1)))))]) rfl (by decide) dX3_belong_104 ?_
                refine sb_iinc (pc' := 109) rfl rfl (L' := [some (.ref (ad 37)), some (vi x1), some (vi x2), some (vi x3), some (vi x4), some (vi x5), some (vi (bOr x6 0)), some (vi (x7 + 1)), some (vi 1), some (vi (bAnd (ia σ 47 x7) (bXor x5 ((-1)))))]) rfl (by decide) dX3_belong_106 ?_
                refine sb_goto (tgt := 14) (by decide) dX3_belong_109 ?_
                obtain ⟨o7, H⟩ := H
                refine Wb.forget [true, true, true, true, true, true, true, true, false, false] ?_
                exact (H hx1 hx2 hx3 hx4 hx5 (iR_b _) o7 hS)
              · intro cc; have H := H.2 cc
                refine sb_iconst (pc' := 99) rfl dX3_belong_98 ?_
                refine sb_goto (tgt := 103) (by decide) dX3_belong_99 ?_
                refine sb_ior (pc' := 104) rfl dX3_belong_103 ?_
                refine sb_istore (pc' := 106) rfl (L' := [some (.ref (ad 37)), some (vi x1), some (vi x2), some (vi x3), some (vi x4), some (vi x5), some (vi (bOr x6 1)), some (vi x7), some (vi 1), some (vi (bAnd (ia σ 47 x7) (bXor x5 ((-1)))))]) rfl (by decide) dX3_belong_104 ?_
                refine sb_iinc (pc' := 109) rfl rfl (L' := [some (.ref (ad 37)), some (vi x1), some (vi x2), some (vi x3), some (vi x4), some (vi x5), some (vi (bOr x6 1)), some (vi (x7 + 1)), some (vi 1), some (vi (bAnd (ia σ 47 x7) (bXor x5 ((-1)))))]) rfl (by decide) dX3_belong_106 ?_
                refine sb_goto (tgt := 14) (by decide) dX3_belong_109 ?_
                obtain ⟨o8, H⟩ := H
                refine Wb.forget [true, true, true, true, true, true, true, true, false, false] ?_
                exact (H hx1 hx2 hx3 hx4 hx5 (iR_b _) o8 hS)
          · intro cc; have H := H.2 cc
            refine sb_iconst (pc' := 80) rfl dX3_belong_79 ?_
            exact sb_iret rfl (nar_z2 (Or.inl rfl)) dX3_belong_80 (H (iR_lit rfl) hS)
theorem bX3_unlinked_0 {g : AG} {ad : Nat → Nat} {d : Nat} {Q : AO → SG → Prop} {rc rs : Nat} {σ : SG} {x1 x2 x3 x4 : Int}  (hx1 : iR x1) (hx2 : iR x2) (hx3 : iR x3) (hx4 : iR x4) (hS : SR σ) (H : (iR x1 → iR x2 → iR x3 → iR x4 → iR 0 → iR 0 → iR x1 → SR σ → Wb g ad d mX3_unlinked Q 9 [some (.ref (ad 37)), some (vi x1), some (vi x2), some (vi x3), some (vi x4), some (vi 0), some (vi 0), some (vi x1)] [] σ rc rs)) : Wb g ad d mX3_unlinked Q 0 [some (.ref (ad 37)), some (vi x1), some (vi x2), some (vi x3), some (vi x4), none, none, none] [] σ rc rs := by
  refine sb_iconst (pc' := 1) rfl dX3_unlinked_0 ?_
  refine sb_istore (pc' := 3) rfl (L' := [some (.ref (ad 37)), some (vi x1), some (vi x2), some (vi x3), some (vi x4), some (vi 0), none, none]) rfl (by decide) dX3_unlinked_1 ?_
  refine sb_iconst (pc' := 4) rfl dX3_unlinked_3 ?_
  refine sb_istore (pc' := 6) rfl (L' := [some (.ref (ad 37)), some (vi x1), some (vi x2), some (vi x3), some (vi x4), some (vi 0), some (vi 0), none]) rfl (by decide) dX3_unlinked_4 ?_
  refine sb_iload_n (pc' := 7) rfl rfl dX3_unlinked_6 ?_
  refine sb_istore (pc' := 9) rfl (L' := [some (.ref (ad 37)), some (vi x1), some (vi x2), some (vi x3), some (vi x4), some (vi 0), some (vi 0), some (vi x1)]) rfl (by decide) dX3_unlinked_7 ?_
  exact (H hx1 hx2 hx3 hx4 (iR_lit rfl) (iR_lit rfl) hx1 hS)
theorem bX3_unlinked_9 {g : AG} {ad : Nat → Nat} {d : Nat} {Q : AO → SG → Prop} {rc rs : Nat} {σ : SG} {x1 x2 x3 x4 x5 x6 x7 : Int}  (hx1 : iR x1) (hx2 : iR x2) (hx3 : iR x3) (hx4 : iR x4) (hx5 : iR x5) (hx6 : iR x6) (hx7 : iR x7) (hS : SR σ) (H : ((x2 < x7 → Cl g ad d mX3_bitsOf 0 0 [(vi x3), (vi x4)] σ (Ki fun r1 s1 => Cl g ad d mJ6_bitCount_0f7a4 0 0 [(vi (bAnd r1 (bXor x5 ((-1)))))] s1 (Ki fun r2 s2 => iR (x6 + r2) ∧ (iR (x6 + r2) → SR s2 → Q (.inl (some (vi (x6 + r2)))) s2)))) ∧ (¬ x2 < x7 → (0 ≤ x7 ∧ x7 < 6) ∧ ((¬ (ia σ 47 x7) = 0 → iR (x6 + 0) ∧ iR (x7 + 1) ∧ (iR x1 → iR x2 → iR x3 → iR x4 → iR (bOr x5 (ia σ 47 x7)) → iR (x6 + 0) → iR (x7 + 1) → SR σ → Wb g ad d mX3_unlinked Q 9 [some (.ref (ad 37)), some (vi x1), some (vi x2), some (vi x3), some (vi x4), some (vi (bOr x5 (ia σ 47 x7))), some (vi (x6 + 0)), some (vi (x7 + 1))] [] σ rc rs)) ∧ ((ia σ 47 x7) = 0 → iR (x6 + 1) ∧ iR (x7 + 1) ∧ (iR x1 → iR x2 → iR x3 → iR x4 → iR (bOr x5 (ia σ 47 x7)) → iR (x6 + 1) → iR (x7 + 1) → SR σ → Wb g ad d mX3_unlinked Q 9 [some (.ref (ad 37)), some (vi x1), some (vi x2), some (vi x3), some (vi x4), some (vi (bOr x5 (ia σ 47 x7))), some (vi (x6 + 1)), some (vi (x7 + 1))] [] σ rc rs)))))) : Wb g ad d mX3_unlinked Q 9 [some (.ref (ad 37)), some (vi x1), some (vi x2), some (vi x3), some (vi x4), some (vi x5), some (vi x6), some (vi x7)] [] σ rc rs := by
  refine sb_iload (pc' := 11) rfl rfl dX3_unlinked_9 ?_
  refine sb_iload_n (pc' := 12) rfl rfl dX3_unlinked_11 ?_
  refine sb_icmp_gt (pc' := 15) (tgt := 53) rfl (by decide) hx7 hx2 dX3_unlinked_12 ?_ ?_
  · intro cc; have H := H.1 cc
    refine sb_iload (pc' := 55) rfl rfl dX3_unlinked_53 ?_
    refine sb_iload_n (pc' := 56) rfl rfl dX3_unlinked_55 ?_
    refine sb_iload (pc' := 58) rfl rfl dX3_unlinked_56 ?_
    obtain ⟨d1, hd1, H⟩ := H
    refine sb_callS (pc' := 61) rfl rfl (rc := rc) (rs := rs) (mc' := 0) (ms' := 0) (As := [(vi x3), (vi x4)]) (st := [(vi x6)])  rfl rfl (Nat.le_of_ble_eq_true rfl) hd1 kX3_bitsOf ⟨wd_1219, wd_1220⟩ dX3_unlinked_58 (Eb.mono H ?_)
    rintro o s1 ⟨r1, rfl, hr1, hs1, H⟩
    show Wb g ad d mX3_unlinked Q 61 [some (.ref (ad 37)), some (vi x1), some (vi x2), some (vi x3), some (vi x4), some (vi x5), some (vi x6), some (vi x7)] [(vi r1), (vi x6)] s1 rc rs
    refine sb_iload (pc' := 63) rfl rfl dX3_unlinked_61 ?_
    refine sb_iconst (pc' := 64) rfl dX3_unlinked_63 ?_
    refine sb_ixor (pc' := 65) rfl dX3_unlinked_64 ?_
    refine sb_iand (pc' := 66) rfl dX3_unlinked_65 ?_
    obtain ⟨d2, hd2, H⟩ := H
    refine sb_callS (pc' := 69) rfl rfl (rc := rc) (rs := rs) (mc' := 0) (ms' := 0) (As := [(vi (bAnd r1 (bXor x5 ((-1)))))]) (st := [(vi x6)])  rfl rfl (Nat.le_of_ble_eq_true rfl) hd2 kJ6_bitCount_0f7a4 ⟨wd_1229, wd_747⟩ dX3_unlinked_66 (Eb.mono H ?_)
    rintro o s2 ⟨r2, rfl, hr2, hs2, H⟩
    show Wb g ad d mX3_unlinked Q 69 [some (.ref (ad 37)), some (vi x1), some (vi x2), some (vi x3), some (vi x4), some (vi x5), some (vi x6), some (vi x7)] [(vi r2), (vi x6)] s2 rc rs
    refine sb_iadd (pc' := 70) rfl dX3_unlinked_69 ?_
    obtain ⟨o3, H⟩ := H
    exact sb_iret rfl rfl dX3_unlinked_70 (H o3 hs2)
  · intro cc; have H := H.2 cc
    refine sb_iload (pc' := 17) rfl rfl dX3_unlinked_15 ?_
    refine sb_aload_n (pc' := 18) rfl rfl dX3_unlinked_17 ?_
    refine sb_getCN (pc' := 21) rfl fc_37_14 wd_313 dX3_unlinked_18 ?_
    refine sb_iload (pc' := 23) rfl rfl dX3_unlinked_21 ?_
    obtain ⟨o4, H⟩ := H
    refine sb_iald (pc' := 24) rfl aI_47 o4.1 o4.2 dX3_unlinked_23 ?_
    refine sb_ior (pc' := 25) rfl dX3_unlinked_24 ?_
    refine sb_istore (pc' := 27) rfl (L' := [some (.ref (ad 37)), some (vi x1), some (vi x2), some (vi x3), some (vi x4), some (vi (bOr x5 (ia σ 47 x7))), some (vi x6), some (vi x7)]) rfl (by decide) dX3_unlinked_25 ?_
    refine sb_iload (pc' := 29) rfl rfl dX3_unlinked_27 ?_
    refine sb_aload_n (pc' := 30) rfl rfl dX3_unlinked_29 ?_
    refine sb_getCN (pc' := 33) rfl fc_37_14 wd_313 dX3_unlinked_30 ?_
    refine sb_iload (pc' := 35) rfl rfl dX3_unlinked_33 ?_
    refine sb_iald (pc' := 36) rfl aI_47 o4.1 o4.2 dX3_unlinked_35 ?_
    refine sb_if_ne (pc' := 39) (tgt := 43) rfl (by decide) (SR_ia hS _ _) dX3_unlinked_36 ?_ ?_
    · intro cc; have H := H.1 cc
      refine sb_iconst (pc' := 44) rfl dX3_unlinked_43 ?_
      refine sb_iadd (pc' := 45) rfl dX3_unlinked_44 ?_
      refine sb_istore (pc' := 47) rfl (L' := [some (.ref (ad 37)), some (vi x1), some (vi x2), some (vi x3), some (vi x4), some (vi (bOr x5 (ia σ 47 x7))), some (vi (x6 + 0)), some (vi x7)]) rfl (by decide) dX3_unlinked_45 ?_
      refine sb_iinc (pc' := 50) rfl rfl (L' := [some (.ref (ad 37)), some (vi x1), some (vi x2), some (vi x3), some (vi x4), some (vi (bOr x5 (ia σ 47 x7))), some (vi (x6 + 0)), some (vi (x7 + 1))]) rfl (by decide) dX3_unlinked_47 ?_
      refine sb_goto (tgt := 9) (by decide) dX3_unlinked_50 ?_
      obtain ⟨o5, H⟩ := H
      obtain ⟨o6, H⟩ := H
      exact (H hx1 hx2 hx3 hx4 (iR_b _) o5 o6 hS)
    · intro cc; have H := H.2 cc
      refine sb_iconst (pc' := 40) rfl dX3_unlinked_39 ?_
      refine sb_goto (tgt := 44) (by decide) dX3_unlinked_40 ?_
      refine sb_iadd (pc' := 45) rfl dX3_unlinked_44 ?_
      refine sb_istore (pc' := 47) rfl (L' := [some (.ref (ad 37)), some (vi x1), some (vi x2), some (vi x3), some (vi x4), some (vi (bOr x5 (ia σ 47 x7))), some (vi (x6 + 1)), some (vi x7)]) rfl (by decide) dX3_unlinked_45 ?_
      refine sb_iinc (pc' := 50) rfl rfl (L' := [some (.ref (ad 37)), some (vi x1), some (vi x2), some (vi x3), some (vi x4), some (vi (bOr x5 (ia σ 47 x7))), some (vi (x6 + 1)), some (vi (x7 + 1))]) rfl (by decide) dX3_unlinked_47 ?_
      refine sb_goto (tgt := 9) (by decide) dX3_unlinked_50 ?_
      obtain ⟨o7, H⟩ := H
      obtain ⟨o8, H⟩ := H
      exact (H hx1 hx2 hx3 hx4 (iR_b _) o7 o8 hS)
theorem bX3_bitsOf_0 {g : AG} {ad : Nat → Nat} {d : Nat} {Q : AO → SG → Prop} {rc rs : Nat} {σ : SG} {x0 x1 : Int}  (hx0 : iR x0) (hx1 : iR x1) (hS : SR σ) (H : iR ((bShl 1 (x1 + 1)) - (bShl 1 x0)) ∧ (iR ((bShl 1 (x1 + 1)) - (bShl 1 x0)) → SR σ → Q (.inl (some (vi ((bShl 1 (x1 + 1)) - (bShl 1 x0))))) σ)) : Wb g ad d mX3_bitsOf Q 0 [some (vi x0), some (vi x1)] [] σ rc rs := by
  refine sb_iconst (pc' := 1) rfl dX3_bitsOf_0 ?_
  refine sb_iload_n (pc' := 2) rfl rfl dX3_bitsOf_1 ?_
  refine sb_iconst (pc' := 3) rfl dX3_bitsOf_2 ?_
  refine sb_iadd (pc' := 4) rfl dX3_bitsOf_3 ?_
  refine sb_ishl (pc' := 5) rfl dX3_bitsOf_4 ?_
  refine sb_iconst (pc' := 6) rfl dX3_bitsOf_5 ?_
  refine sb_iload_n (pc' := 7) rfl rfl dX3_bitsOf_6 ?_
  refine sb_ishl (pc' := 8) rfl dX3_bitsOf_7 ?_
  refine sb_isub (pc' := 9) rfl dX3_bitsOf_8 ?_
  obtain ⟨o1, H⟩ := H
  exact sb_iret rfl rfl dX3_bitsOf_9 (H o1 hS)
theorem bX4_apart_0 {g : AG} {ad : Nat → Nat} {d : Nat} {Q : AO → SG → Prop} {rc rs : Nat} {σ : SG} {x2 x4 : Int} {c1 n1 : Nat} (hc1 : aI c1 n1) {c3 n3 : Nat} (hc3 : aI c3 n3) (hx2 : iR x2) (hx4 : iR x4) (hS : SR σ) (H : (iR x2 → iR x4 → iR 0 → SR σ → Wb g ad d mX4_apart Q 3 [some (.ref (ad 88)), some (.ref (ad c1)), some (vi x2), some (.ref (ad c3)), some (vi x4), some (vi 0), none, none, none] [] σ rc rs)) : Wb g ad d mX4_apart Q 0 [some (.ref (ad 88)), some (.ref (ad c1)), some (vi x2), some (.ref (ad c3)), some (vi x4), none, none, none, none] [] σ rc rs := by
  refine sb_iconst (pc' := 1) rfl dX4_apart_0 ?_
  refine sb_istore (pc' := 3) rfl (L' := [some (.ref (ad 88)), some (.ref (ad c1)), some (vi x2), some (.ref (ad c3)), some (vi x4), some (vi 0), none, none, none]) rfl (by decide) dX4_apart_1 ?_
  exact (H hx2 hx4 (iR_lit rfl) hS)
theorem bX4_apart_3 {g : AG} {ad : Nat → Nat} {d : Nat} {Q : AO → SG → Prop} {rc rs : Nat} {σ : SG} {x2 x4 x5 : Int} {c1 n1 : Nat} (hc1 : aI c1 n1) {c3 n3 : Nat} (hc3 : aI c3 n3) (hx2 : iR x2) (hx4 : iR x4) (hx5 : iR x5) (hS : SR σ) (H : ((x4 < x5 → (iR x2 → iR x4 → iR 1 → SR σ → Wb g ad d mX4_apart Q 28 [some (.ref (ad 88)), some (.ref (ad c1)), some (vi x2), some (.ref (ad c3)), some (vi x4), some (vi 1), none, none, none] [] σ rc rs)) ∧ (¬ x4 < x5 → (0 ≤ x5 ∧ x5 < 19) ∧ iR (x5 + 1) ∧ (iR x2 → iR x4 → iR (x5 + 1) → SR (setI σ 89 x5 x5) → Wb g ad d mX4_apart Q 3 [some (.ref (ad 88)), some (.ref (ad c1)), some (vi x2), some (.ref (ad c3)), some (vi x4), some (vi (x5 + 1)), none, none, none] [] (setI σ 89 x5 x5) rc rs)))) : Wb g ad d mX4_apart Q 3 [some (.ref (ad 88)), some (.ref (ad c1)), some (vi x2), some (.ref (ad c3)), some (vi x4), some (vi x5), none, none, none] [] σ rc rs := by
  refine sb_iload (pc' := 5) rfl rfl dX4_apart_3 ?_
  refine sb_iload (pc' := 7) rfl rfl dX4_apart_5 ?_
  refine sb_icmp_gt (pc' := 10) (tgt := 25) rfl (by decide) hx5 hx4 dX4_apart_7 ?_ ?_
  · intro cc; have H := H.1 cc
    refine sb_iconst (pc' := 26) rfl dX4_apart_25 ?_
    refine sb_istore (pc' := 28) rfl (L' := [some (.ref (ad 88)), some (.ref (ad c1)), some (vi x2), some (.ref (ad c3)), some (vi x4), some (vi 1), none, none, none]) rfl (by decide) dX4_apart_26 ?_
    exact (H hx2 hx4 (iR_lit rfl) hS)
  · intro cc; have H := H.2 cc
    refine sb_aload_n (pc' := 11) rfl rfl dX4_apart_10 ?_
    refine sb_getC (pc' := 14) rfl fc_88_0 wd_629 dX4_apart_11 ?_
    refine sb_iload (pc' := 16) rfl rfl dX4_apart_14 ?_
    refine sb_iload (pc' := 18) rfl rfl dX4_apart_16 ?_
    obtain ⟨o1, H⟩ := H
    refine sb_iast (pc' := 19) rfl aI_89 o1.1 o1.2  dX4_apart_18 ?_
    refine sb_iinc (pc' := 22) rfl rfl (L' := [some (.ref (ad 88)), some (.ref (ad c1)), some (vi x2), some (.ref (ad c3)), some (vi x4), some (vi (x5 + 1)), none, none, none]) rfl (by decide) dX4_apart_19 ?_
    refine sb_goto (tgt := 3) (by decide) dX4_apart_22 ?_
    obtain ⟨o2, H⟩ := H
    exact (H hx2 hx4 o2 (SR_setI hS hx5))
theorem bX4_apart_28 {g : AG} {ad : Nat → Nat} {d : Nat} {Q : AO → SG → Prop} {rc rs : Nat} {σ : SG} {x2 x4 x5 : Int} {c1 n1 : Nat} (hc1 : aI c1 n1) {c3 n3 : Nat} (hc3 : aI c3 n3) (hx2 : iR x2) (hx4 : iR x4) (hx5 : iR x5) (hS : SR σ) (H : ((x2 < x5 → (0 ≤ x4 ∧ x4 < 19) ∧ (iR (ia σ 89 x4) → SR σ → Q (.inl (some (vi (ia σ 89 x4)))) σ)) ∧ (¬ x2 < x5 → (iR x2 → iR x4 → iR x5 → iR (ia σ 89 0) → iR 1 → SR (setI σ 89 0 x5) → Wb g ad d mX4_apart Q 53 [some (.ref (ad 88)), some (.ref (ad c1)), some (vi x2), some (.ref (ad c3)), some (vi x4), some (vi x5), some (vi (ia σ 89 0)), some (vi 1), none] [] (setI σ 89 0 x5) rc rs)))) : Wb g ad d mX4_apart Q 28 [some (.ref (ad 88)), some (.ref (ad c1)), some (vi x2), some (.ref (ad c3)), some (vi x4), some (vi x5), none, none, none] [] σ rc rs := by
  refine sb_iload (pc' := 30) rfl rfl dX4_apart_28 ?_
  refine sb_iload_n (pc' := 31) rfl rfl dX4_apart_30 ?_
  refine sb_icmp_gt (pc' := 34) (tgt := 134) rfl (by decide) hx5 hx2 dX4_apart_31 ?_ ?_
  · intro cc; have H := H.1 cc
    refine sb_aload_n (pc' := 135) rfl rfl dX4_apart_134 ?_
    refine sb_getC (pc' := 138) rfl fc_88_0 wd_629 dX4_apart_135 ?_
    refine sb_iload (pc' := 140) rfl rfl dX4_apart_138 ?_
    obtain ⟨o1, H⟩ := H
    refine sb_iald (pc' := 141) rfl aI_89 o1.1 o1.2 dX4_apart_140 ?_
    exact sb_iret rfl rfl dX4_apart_141 (H (SR_ia hS _ _) hS)
  · intro cc; have H := H.2 cc
    refine sb_aload_n (pc' := 35) rfl rfl dX4_apart_34 ?_
    refine sb_getC (pc' := 38) rfl fc_88_0 wd_629 dX4_apart_35 ?_
    refine sb_iconst (pc' := 39) rfl dX4_apart_38 ?_
    refine sb_iald (pc' := 40) rfl aI_89 (by decide) (by decide) dX4_apart_39 ?_
    refine sb_istore (pc' := 42) rfl (L' := [some (.ref (ad 88)), some (.ref (ad c1)), some (vi x2), some (.ref (ad c3)), some (vi x4), some (vi x5), some (vi (ia σ 89 0)), none, none]) rfl (by decide) dX4_apart_40 ?_
    refine sb_aload_n (pc' := 43) rfl rfl dX4_apart_42 ?_
    refine sb_getC (pc' := 46) rfl fc_88_0 wd_629 dX4_apart_43 ?_
    refine sb_iconst (pc' := 47) rfl dX4_apart_46 ?_
    refine sb_iload (pc' := 49) rfl rfl dX4_apart_47 ?_
    refine sb_iast (pc' := 50) rfl aI_89 (by decide) (by decide)  dX4_apart_49 ?_
    refine sb_iconst (pc' := 51) rfl dX4_apart_50 ?_
    refine sb_istore (pc' := 53) rfl (L' := [some (.ref (ad 88)), some (.ref (ad c1)), some (vi x2), some (.ref (ad c3)), some (vi x4), some (vi x5), some (vi (ia σ 89 0)), some (vi 1), none]) rfl (by decide) dX4_apart_51 ?_
    exact (H hx2 hx4 hx5 (SR_ia hS _ _) (iR_lit rfl) (SR_setI hS hx5))
theorem bX4_apart_53 {g : AG} {ad : Nat → Nat} {d : Nat} {Q : AO → SG → Prop} {rc rs : Nat} {σ : SG} {x2 x4 x5 x6 x7 : Int} {c1 n1 : Nat} (hc1 : aI c1 n1) {c3 n3 : Nat} (hc3 : aI c3 n3) (hx2 : iR x2) (hx4 : iR x4) (hx5 : iR x5) (hx6 : iR x6) (hx7 : iR x7) (hS : SR σ) (H : ((x4 < x7 → iR (x5 + 1) ∧ (iR x2 → iR x4 → iR (x5 + 1) → SR σ → Wb g ad d mX4_apart Q 28 [some (.ref (ad 88)), some (.ref (ad c1)), some (vi x2), some (.ref (ad c3)), some (vi x4), some (vi (x5 + 1)), none, none, none] [] σ rc rs)) ∧ (¬ x4 < x7 → (0 ≤ x5 - 1 ∧ x5 - 1 < n1) ∧ (0 ≤ x7 - 1 ∧ x7 - 1 < n3) ∧ ((¬ (ia σ c1 (x5 - 1)) = (ia σ c3 (x7 - 1)) → (0 ≤ x7 ∧ x7 < 19) ∧ (0 ≤ x7 - 1 ∧ x7 - 1 < 19) ∧ Cl g ad d mJ9_min_7cf53 0 0 [(vi (ia σ 89 (x7 - 1))), (vi (ia σ 89 x7))] σ (Ki fun r6 s6 => Cl g ad d mJ9_min_7cf53 0 0 [(vi (x6 + 1)), (vi (r6 + 1))] s6 (Ki fun r7 s7 => iR (x7 + 1) ∧ (iR x2 → iR x4 → iR x5 → iR (ia σ 89 x7) → iR (x7 + 1) → SR (setI s7 89 x7 r7) → Wb g ad d mX4_apart Q 53 [some (.ref (ad 88)), some (.ref (ad c1)), some (vi x2), some (.ref (ad c3)), some (vi x4), some (vi x5), some (vi (ia σ 89 x7)), some (vi (x7 + 1)), none] [] (setI s7 89 x7 r7) rc rs)))) ∧ ((ia σ c1 (x5 - 1)) = (ia σ c3 (x7 - 1)) → (0 ≤ x7 ∧ x7 < 19) ∧ (0 ≤ x7 - 1 ∧ x7 - 1 < 19) ∧ Cl g ad d mJ9_min_7cf53 0 0 [(vi (ia σ 89 (x7 - 1))), (vi (ia σ 89 x7))] σ (Ki fun r11 s11 => Cl g ad d mJ9_min_7cf53 0 0 [(vi (x6 + 0)), (vi (r11 + 1))] s11 (Ki fun r12 s12 => iR (x7 + 1) ∧ (iR x2 → iR x4 → iR x5 → iR (ia σ 89 x7) → iR (x7 + 1) → SR (setI s12 89 x7 r12) → Wb g ad d mX4_apart Q 53 [some (.ref (ad 88)), some (.ref (ad c1)), some (vi x2), some (.ref (ad c3)), some (vi x4), some (vi x5), some (vi (ia σ 89 x7)), some (vi (x7 + 1)), none] [] (setI s12 89 x7 r12) rc rs)))))))) : Wb g ad d mX4_apart Q 53 [some (.ref (ad 88)), some (.ref (ad c1)), some (vi x2), some (.ref (ad c3)), some (vi x4), some (vi x5), some (vi x6), some (vi x7), none] [] σ rc rs := by
  refine sb_iload (pc' := 55) rfl rfl dX4_apart_53 ?_
  refine sb_iload (pc' := 57) rfl rfl dX4_apart_55 ?_
  refine sb_icmp_gt (pc' := 60) (tgt := 128) rfl (by decide) hx7 hx4 dX4_apart_57 ?_ ?_
  · intro cc; have H := H.1 cc
    refine sb_iinc (pc' := 131) rfl rfl (L' := [some (.ref (ad 88)), some (.ref (ad c1)), some (vi x2), some (.ref (ad c3)), some (vi x4), some (vi (x5 + 1)), some (vi x6), some (vi x7), none]) rfl (by decide) dX4_apart_128 ?_
    refine sb_goto (tgt := 28) (by decide) dX4_apart_131 ?_
    obtain ⟨o1, H⟩ := H
    refine Wb.forget [true, true, true, true, true, true, false, false, false] ?_
    exact (H hx2 hx4 o1 hS)
  · intro cc; have H := H.2 cc
    refine sb_iload (pc' := 62) rfl rfl dX4_apart_60 ?_
    refine sb_aload_n (pc' := 63) rfl rfl dX4_apart_62 ?_
    refine sb_iload (pc' := 65) rfl rfl dX4_apart_63 ?_
    refine sb_iconst (pc' := 66) rfl dX4_apart_65 ?_
    refine sb_isub (pc' := 67) rfl dX4_apart_66 ?_
    obtain ⟨o2, H⟩ := H
    refine sb_iald (pc' := 68) rfl hc1 o2.1 o2.2 dX4_apart_67 ?_
    refine sb_aload_n (pc' := 69) rfl rfl dX4_apart_68 ?_
    refine sb_iload (pc' := 71) rfl rfl dX4_apart_69 ?_
    refine sb_iconst (pc' := 72) rfl dX4_apart_71 ?_
    refine sb_isub (pc' := 73) rfl dX4_apart_72 ?_
    obtain ⟨o3, H⟩ := H
    refine sb_iald (pc' := 74) rfl hc3 o3.1 o3.2 dX4_apart_73 ?_
    refine sb_icmp_ne (pc' := 77) (tgt := 81) rfl (by decide) (SR_ia hS _ _) (SR_ia hS _ _) dX4_apart_74 ?_ ?_
    · intro cc; have H := H.1 cc
      refine sb_iconst (pc' := 82) rfl dX4_apart_81 ?_
      refine sb_iadd (pc' := 83) rfl dX4_apart_82 ?_
      refine sb_istore (pc' := 85) rfl (L' := [some (.ref (ad 88)), some (.ref (ad c1)), some (vi x2), some (.ref (ad c3)), some (vi x4), some (vi x5), some (vi x6), some (vi x7), some (vi (x6 + 1))]) rfl (by decide) dX4_apart_83 ?_
      refine sb_aload_n (pc' := 86) rfl rfl dX4_apart_85 ?_
      refine sb_getC (pc' := 89) rfl fc_88_0 wd_629 dX4_apart_86 ?_
      refine sb_iload (pc' := 91) rfl rfl dX4_apart_89 ?_
      obtain ⟨o4, H⟩ := H
      refine sb_iald (pc' := 92) rfl aI_89 o4.1 o4.2 dX4_apart_91 ?_
      refine sb_istore (pc' := 94) rfl (L' := [some (.ref (ad 88)), some (.ref (ad c1)), some (vi x2), some (.ref (ad c3)), some (vi x4), some (vi x5), some (vi (ia σ 89 x7)), some (vi x7), some (vi (x6 + 1))]) rfl (by decide) dX4_apart_92 ?_
      refine sb_aload_n (pc' := 95) rfl rfl dX4_apart_94 ?_
      refine sb_getC (pc' := 98) rfl fc_88_0 wd_629 dX4_apart_95 ?_
      refine sb_iload (pc' := 100) rfl rfl dX4_apart_98 ?_
      refine sb_iload (pc' := 102) rfl rfl dX4_apart_100 ?_
      refine sb_aload_n (pc' := 103) rfl rfl dX4_apart_102 ?_
      refine sb_getC (pc' := 106) rfl fc_88_0 wd_629 dX4_apart_103 ?_
      refine sb_iload (pc' := 108) rfl rfl dX4_apart_106 ?_
      refine sb_iconst (pc' := 109) rfl dX4_apart_108 ?_
      refine sb_isub (pc' := 110) rfl dX4_apart_109 ?_
      obtain ⟨o5, H⟩ := H
      refine sb_iald (pc' := 111) rfl aI_89 o5.1 o5.2 dX4_apart_110 ?_
      refine sb_iload (pc' := 113) rfl rfl dX4_apart_111 ?_
      obtain ⟨d6, hd6, H⟩ := H
      refine sb_callS (pc' := 116) rfl rfl (rc := rc) (rs := rs) (mc' := 0) (ms' := 0) (As := [(vi (ia σ 89 (x7 - 1))), (vi (ia σ 89 x7))]) (st := [(vi (x6 + 1)), (vi x7), (.ref (ad 89))])  rfl rfl (Nat.le_of_ble_eq_true rfl) hd6 kJ9_min_7cf53 ⟨wd_1495, wd_776⟩ dX4_apart_113 (Eb.mono H ?_)
      rintro o s6 ⟨r6, rfl, hr6, hs6, H⟩
      show Wb g ad d mX4_apart Q 116 [some (.ref (ad 88)), some (.ref (ad c1)), some (vi x2), some (.ref (ad c3)), some (vi x4), some (vi x5), some (vi (ia σ 89 x7)), some (vi x7), some (vi (x6 + 1))] [(vi r6), (vi (x6 + 1)), (vi x7), (.ref (ad 89))] s6 rc rs
      refine sb_iconst (pc' := 117) rfl dX4_apart_116 ?_
      refine sb_iadd (pc' := 118) rfl dX4_apart_117 ?_
      obtain ⟨d7, hd7, H⟩ := H
      refine sb_callS (pc' := 121) rfl rfl (rc := rc) (rs := rs) (mc' := 0) (ms' := 0) (As := [(vi (x6 + 1)), (vi (r6 + 1))]) (st := [(vi x7), (.ref (ad 89))])  rfl rfl (Nat.le_of_ble_eq_true rfl) hd7 kJ9_min_7cf53 ⟨wd_1495, wd_776⟩ dX4_apart_118 (Eb.mono H ?_)
      rintro o s7 ⟨r7, rfl, hr7, hs7, H⟩
      show Wb g ad d mX4_apart Q 121 [some (.ref (ad 88)), some (.ref (ad c1)), some (vi x2), some (.ref (ad c3)), some (vi x4), some (vi x5), some (vi (ia σ 89 x7)), some (vi x7), some (vi (x6 + 1))] [(vi r7), (vi x7), (.ref (ad 89))] s7 rc rs
      refine sb_iast (pc' := 122) rfl aI_89 o4.1 o4.2  dX4_apart_121 ?_
      refine sb_iinc (pc' := 125) rfl rfl (L' := [some (.ref (ad 88)), some (.ref (ad c1)), some (vi x2), some (.ref (ad c3)), some (vi x4), some (vi x5), some (vi (ia σ 89 x7)), some (vi (x7 + 1)), some (vi (x6 + 1))]) rfl (by decide) dX4_apart_122 ?_
      refine sb_goto (tgt := 53) (by decide) dX4_apart_125 ?_
      obtain ⟨o8, H⟩ := H
      refine Wb.forget [true, true, true, true, true, true, true, true, false] ?_
      exact (H hx2 hx4 hx5 (SR_ia hS _ _) o8 (SR_setI hs7 hr7))
    · intro cc; have H := H.2 cc
      refine sb_iconst (pc' := 78) rfl dX4_apart_77 ?_
      refine sb_goto (tgt := 82) (by decide) dX4_apart_78 ?_
      refine sb_iadd (pc' := 83) rfl dX4_apart_82 ?_
      refine sb_istore (pc' := 85) rfl (L' := [some (.ref (ad 88)), some (.ref (ad c1)), some (vi x2), some (.ref (ad c3)), some (vi x4), some (vi x5), some (vi x6), some (vi x7), some (vi (x6 + 0))]) rfl (by decide) dX4_apart_83 ?_
      refine sb_aload_n (pc' := 86) rfl rfl dX4_apart_85 ?_
      refine sb_getC (pc' := 89) rfl fc_88_0 wd_629 dX4_apart_86 ?_
      refine sb_iload (pc' := 91) rfl rfl dX4_apart_89 ?_
      obtain ⟨o9, H⟩ := H
      refine sb_iald (pc' := 92) rfl aI_89 o9.1 o9.2 dX4_apart_91 ?_
      refine sb_istore (pc' := 94) rfl (L' := [some (.ref (ad 88)), some (.ref (ad c1)), some (vi x2), some (.ref (ad c3)), some (vi x4), some (vi x5), some (vi (ia σ 89 x7)), some (vi x7), some (vi (x6 + 0))]) rfl (by decide) dX4_apart_92 ?_
      refine sb_aload_n (pc' := 95) rfl rfl dX4_apart_94 ?_
      refine sb_getC (pc' := 98) rfl fc_88_0 wd_629 dX4_apart_95 ?_
      refine sb_iload (pc' := 100) rfl rfl dX4_apart_98 ?_
      refine sb_iload (pc' := 102) rfl rfl dX4_apart_100 ?_
      refine sb_aload_n (pc' := 103) rfl rfl dX4_apart_102 ?_
      refine sb_getC (pc' := 106) rfl fc_88_0 wd_629 dX4_apart_103 ?_
      refine sb_iload (pc' := 108) rfl rfl dX4_apart_106 ?_
      refine sb_iconst (pc' := 109) rfl dX4_apart_108 ?_
      refine sb_isub (pc' := 110) rfl dX4_apart_109 ?_
      obtain ⟨o10, H⟩ := H
      refine sb_iald (pc' := 111) rfl aI_89 o10.1 o10.2 dX4_apart_110 ?_
      refine sb_iload (pc' := 113) rfl rfl dX4_apart_111 ?_
      obtain ⟨d11, hd11, H⟩ := H
      refine sb_callS (pc' := 116) rfl rfl (rc := rc) (rs := rs) (mc' := 0) (ms' := 0) (As := [(vi (ia σ 89 (x7 - 1))), (vi (ia σ 89 x7))]) (st := [(vi (x6 + 0)), (vi x7), (.ref (ad 89))])  rfl rfl (Nat.le_of_ble_eq_true rfl) hd11 kJ9_min_7cf53 ⟨wd_1495, wd_776⟩ dX4_apart_113 (Eb.mono H ?_)
      rintro o s11 ⟨r11, rfl, hr11, hs11, H⟩
      show Wb g ad d mX4_apart Q 116 [some (.ref (ad 88)), some (.ref (ad c1)), some (vi x2), some (.ref (ad c3)), some (vi x4), some (vi x5), some (vi (ia σ 89 x7)), some (vi x7), some (vi (x6 + 0))] [(vi r11), (vi (x6 + 0)), (vi x7), (.ref (ad 89))] s11 rc rs
      refine sb_iconst (pc' := 117) rfl dX4_apart_116 ?_
      refine sb_iadd (pc' := 118) rfl dX4_apart_117 ?_
      obtain ⟨d12, hd12, H⟩ := H
      refine sb_callS (pc' := 121) rfl rfl (rc := rc) (rs := rs) (mc' := 0) (ms' := 0) (As := [(vi (x6 + 0)), (vi (r11 + 1))]) (st := [(vi x7), (.ref (ad 89))])  rfl rfl (Nat.le_of_ble_eq_true rfl) hd12 kJ9_min_7cf53 ⟨wd_1495, wd_776⟩ dX4_apart_118 (Eb.mono H ?_)
      rintro o s12 ⟨r12, rfl, hr12, hs12, H⟩
      show Wb g ad d mX4_apart Q 121 [some (.ref (ad 88)), some (.ref (ad c1)), some (vi x2), some (.ref (ad c3)), some (vi x4), some (vi x5), some (vi (ia σ 89 x7)), some (vi x7), some (vi (x6 + 0))] [(vi r12), (vi x7), (.ref (ad 89))] s12 rc rs
      refine sb_iast (pc' := 122) rfl aI_89 o9.1 o9.2  dX4_apart_121 ?_
      refine sb_iinc (pc' := 125) rfl rfl (L' := [some (.ref (ad 88)), some (.ref (ad c1)), some (vi x2), some (.ref (ad c3)), some (vi x4), some (vi x5), some (vi (ia σ 89 x7)), some (vi (x7 + 1)), some (vi (x6 + 0))]) rfl (by decide) dX4_apart_122 ?_
      refine sb_goto (tgt := 53) (by decide) dX4_apart_125 ?_
      obtain ⟨o13, H⟩ := H
      refine Wb.forget [true, true, true, true, true, true, true, true, false] ?_
      exact (H hx2 hx4 hx5 (SR_ia hS _ _) o13 (SR_setI hs12 hr12))
theorem bX4_common_0 {g : AG} {ad : Nat → Nat} {d : Nat} {Q : AO → SG → Prop} {rc rs : Nat} {σ : SG} {x2 x4 x5 : Int} {c1 n1 : Nat} (hc1 : aI c1 n1) {c3 n3 : Nat} (hc3 : aI c3 n3) (hx2 : iR x2) (hx4 : iR x4) (hx5 : iR x5) (hS : SR σ) (H : (iR x2 → iR x4 → iR x5 → iR 0 → iR 0 → SR σ → Wb g ad d mX4_common Q 6 [some (.ref (ad 88)), some (.ref (ad c1)), some (vi x2), some (.ref (ad c3)), some (vi x4), some (vi x5), some (vi 0), some (vi 0), none] [] σ rc rs)) : Wb g ad d mX4_common Q 0 [some (.ref (ad 88)), some (.ref (ad c1)), some (vi x2), some (.ref (ad c3)), some (vi x4), some (vi x5), none, none, none] [] σ rc rs := by
  refine sb_iconst (pc' := 1) rfl dX4_common_0 ?_
  refine sb_istore (pc' := 3) rfl (L' := [some (.ref (ad 88)), some (.ref (ad c1)), some (vi x2), some (.ref (ad c3)), some (vi x4), some (vi x5), some (vi 0), none, none]) rfl (by decide) dX4_common_1 ?_
  refine sb_iconst (pc' := 4) rfl dX4_common_3 ?_
  refine sb_istore (pc' := 6) rfl (L' := [some (.ref (ad 88)), some (.ref (ad c1)), some (vi x2), some (.ref (ad c3)), some (vi x4), some (vi x5), some (vi 0), some (vi 0), none]) rfl (by decide) dX4_common_4 ?_
  exact (H hx2 hx4 hx5 (iR_lit rfl) (iR_lit rfl) hS)
theorem bX4_common_6 {g : AG} {ad : Nat → Nat} {d : Nat} {Q : AO → SG → Prop} {rc rs : Nat} {σ : SG} {x2 x4 x5 x6 x7 : Int} {c1 n1 : Nat} (hc1 : aI c1 n1) {c3 n3 : Nat} (hc3 : aI c3 n3) (hx2 : iR x2) (hx4 : iR x4) (hx5 : iR x5) (hx6 : iR x6) (hx7 : iR x7) (hS : SR σ) (H : iR (x7 + x5) ∧ ((x2 < (x7 + x5) → (iR x6 → SR σ → Q (.inl (some (vi x6))) σ)) ∧ (¬ x2 < (x7 + x5) → Cl g ad d mX4_howOften 0 0 [(.ref (ad 88)), (.ref (ad c1)), (vi x7), (.ref (ad c1)), (vi ((x7 + x5) - 1)), (vi x5)] σ (Ki fun r2 s2 => Cl g ad d mX4_howOften 0 0 [(.ref (ad 88)), (.ref (ad c1)), (vi x7), (.ref (ad c3)), (vi x4), (vi x5)] s2 (Ki fun r3 s3 => ((r3 ≤ r2 → iR (x7 + 1) ∧ (iR x2 → iR x4 → iR x5 → iR x6 → iR (x7 + 1) → SR s3 → Wb g ad d mX4_common Q 6 [some (.ref (ad 88)), some (.ref (ad c1)), some (vi x2), some (.ref (ad c3)), some (vi x4), some (vi x5), some (vi x6), some (vi (x7 + 1)), none] [] s3 rc rs)) ∧ (¬ r3 ≤ r2 → iR (x6 + 1) ∧ iR (x7 + 1) ∧ (iR x2 → iR x4 → iR x5 → iR (x6 + 1) → iR (x7 + 1) → SR s3 → Wb g ad d mX4_common Q 6 [some (.ref (ad 88)), some (.ref (ad c1)), some (vi x2), some (.ref (ad c3)), some (vi x4), some (vi x5), some (vi (x6 + 1)), some (vi (x7 + 1)), none] [] s3 rc rs)))))))) : Wb g ad d mX4_common Q 6 [some (.ref (ad 88)), some (.ref (ad c1)), some (vi x2), some (.ref (ad c3)), some (vi x4), some (vi x5), some (vi x6), some (vi x7), none] [] σ rc rs := by
  refine sb_iload (pc' := 8) rfl rfl dX4_common_6 ?_
  refine sb_iload (pc' := 10) rfl rfl dX4_common_8 ?_
  refine sb_iadd (pc' := 11) rfl dX4_common_10 ?_
  refine sb_iload_n (pc' := 12) rfl rfl dX4_common_11 ?_
  obtain ⟨o1, H⟩ := H
  refine sb_icmp_gt (pc' := 15) (tgt := 60) rfl (by decide) o1 hx2 dX4_common_12 ?_ ?_
  · intro cc; have H := H.1 cc
    refine sb_iload (pc' := 62) rfl rfl dX4_common_60 ?_
    exact sb_iret rfl rfl dX4_common_62 (H hx6 hS)
  · intro cc; have H := H.2 cc
    refine sb_aload_n (pc' := 16) rfl rfl dX4_common_15 ?_
    refine sb_aload_n (pc' := 17) rfl rfl dX4_common_16 ?_
    refine sb_iload (pc' := 19) rfl rfl dX4_common_17 ?_
    refine sb_aload_n (pc' := 20) rfl rfl dX4_common_19 ?_
    refine sb_iload (pc' := 22) rfl rfl dX4_common_20 ?_
    refine sb_iload (pc' := 24) rfl rfl dX4_common_22 ?_
    refine sb_iadd (pc' := 25) rfl dX4_common_24 ?_
    refine sb_iconst (pc' := 26) rfl dX4_common_25 ?_
    refine sb_isub (pc' := 27) rfl dX4_common_26 ?_
    refine sb_iload (pc' := 29) rfl rfl dX4_common_27 ?_
    obtain ⟨d2, hd2, H⟩ := H
    refine sb_callV (pc' := 32) rfl rfl (rc := rc) (rs := rs) (mc' := 0) (ms' := 0) (As := [(.ref (ad c1)), (vi x7), (.ref (ad c1)), (vi ((x7 + x5) - 1)), (vi x5)]) (st := []) of_88 rfl rfl (Nat.le_of_ble_eq_true rfl) hd2 kX4_howOften ⟨wd_1508, wd_1510, wd_94⟩ dX4_common_29 (Eb.mono H ?_)
    rintro o s2 ⟨r2, rfl, hr2, hs2, H⟩
    show Wb g ad d mX4_common Q 32 [some (.ref (ad 88)), some (.ref (ad c1)), some (vi x2), some (.ref (ad c3)), some (vi x4), some (vi x5), some (vi x6), some (vi x7), none] [(vi r2)] s2 rc rs
    refine sb_istore (pc' := 34) rfl (L' := [some (.ref (ad 88)), some (.ref (ad c1)), some (vi x2), some (.ref (ad c3)), some (vi x4), some (vi x5), some (vi x6), some (vi x7), some (vi r2)]) rfl (by decide) dX4_common_32 ?_
    refine sb_iload (pc' := 36) rfl rfl dX4_common_34 ?_
    refine sb_aload_n (pc' := 37) rfl rfl dX4_common_36 ?_
    refine sb_aload_n (pc' := 38) rfl rfl dX4_common_37 ?_
    refine sb_iload (pc' := 40) rfl rfl dX4_common_38 ?_
    refine sb_aload_n (pc' := 41) rfl rfl dX4_common_40 ?_
    refine sb_iload (pc' := 43) rfl rfl dX4_common_41 ?_
    refine sb_iload (pc' := 45) rfl rfl dX4_common_43 ?_
    obtain ⟨d3, hd3, H⟩ := H
    refine sb_callV (pc' := 48) rfl rfl (rc := rc) (rs := rs) (mc' := 0) (ms' := 0) (As := [(.ref (ad c1)), (vi x7), (.ref (ad c3)), (vi x4), (vi x5)]) (st := [(vi r2)]) of_88 rfl rfl (Nat.le_of_ble_eq_true rfl) hd3 kX4_howOften ⟨wd_1508, wd_1510, wd_94⟩ dX4_common_45 (Eb.mono H ?_)
    rintro o s3 ⟨r3, rfl, hr3, hs3, H⟩
    show Wb g ad d mX4_common Q 48 [some (.ref (ad 88)), some (.ref (ad c1)), some (vi x2), some (.ref (ad c3)), some (vi x4), some (vi x5), some (vi x6), some (vi x7), some (vi r2)] [(vi r3), (vi r2)] s3 rc rs
    refine sb_icmp_ge (pc' := 51) (tgt := 54) rfl (by decide) hr2 hr3 dX4_common_48 ?_ ?_
    · intro cc; have H := H.1 cc
      refine sb_iinc (pc' := 57) rfl rfl (L' := [some (.ref (ad 88)), some (.ref (ad c1)), some (vi x2), some (.ref (ad c3)), some (vi x4), some (vi x5), some (vi x6), some (vi (x7 + 1)), some (vi r2)]) rfl (by decide) dX4_common_54 ?_
      refine sb_goto (tgt := 6) (by decide) dX4_common_57 ?_
      obtain ⟨o4, H⟩ := H
      refine Wb.forget [true, true, true, true, true, true, true, true, false] ?_
      exact (H hx2 hx4 hx5 hx6 o4 hs3)
    · intro cc; have H := H.2 cc
      refine sb_iinc (pc' := 54) rfl rfl (L' := [some (.ref (ad 88)), some (.ref (ad c1)), some (vi x2), some (.ref (ad c3)), some (vi x4), some (vi x5), some (vi (x6 + 1)), some (vi x7), some (vi r2)]) rfl (by decide) dX4_common_51 ?_
      refine sb_iinc (pc' := 57) rfl rfl (L' := [some (.ref (ad 88)), some (.ref (ad c1)), some (vi x2), some (.ref (ad c3)), some (vi x4), some (vi x5), some (vi (x6 + 1)), some (vi (x7 + 1)), some (vi r2)]) rfl (by decide) dX4_common_54 ?_
      refine sb_goto (tgt := 6) (by decide) dX4_common_57 ?_
      obtain ⟨o5, H⟩ := H
      obtain ⟨o6, H⟩ := H
      refine Wb.forget [true, true, true, true, true, true, true, true, false] ?_
      exact (H hx2 hx4 hx5 o5 o6 hs3)
theorem bX4_howOften_0 {g : AG} {ad : Nat → Nat} {d : Nat} {Q : AO → SG → Prop} {rc rs : Nat} {σ : SG} {x2 x4 x5 : Int} {c1 n1 : Nat} (hc1 : aI c1 n1) {c3 n3 : Nat} (hc3 : aI c3 n3) (hx2 : iR x2) (hx4 : iR x4) (hx5 : iR x5) (hS : SR σ) (H : (iR x2 → iR x4 → iR x5 → iR 0 → iR 0 → SR σ → Wb g ad d mX4_howOften Q 6 [some (.ref (ad 88)), some (.ref (ad c1)), some (vi x2), some (.ref (ad c3)), some (vi x4), some (vi x5), some (vi 0), some (vi 0)] [] σ rc rs)) : Wb g ad d mX4_howOften Q 0 [some (.ref (ad 88)), some (.ref (ad c1)), some (vi x2), some (.ref (ad c3)), some (vi x4), some (vi x5), none, none] [] σ rc rs := by
  refine sb_iconst (pc' := 1) rfl dX4_howOften_0 ?_
  refine sb_istore (pc' := 3) rfl (L' := [some (.ref (ad 88)), some (.ref (ad c1)), some (vi x2), some (.ref (ad c3)), some (vi x4), some (vi x5), some (vi 0), none]) rfl (by decide) dX4_howOften_1 ?_
  refine sb_iconst (pc' := 4) rfl dX4_howOften_3 ?_
  refine sb_istore (pc' := 6) rfl (L' := [some (.ref (ad 88)), some (.ref (ad c1)), some (vi x2), some (.ref (ad c3)), some (vi x4), some (vi x5), some (vi 0), some (vi 0)]) rfl (by decide) dX4_howOften_4 ?_
  exact (H hx2 hx4 hx5 (iR_lit rfl) (iR_lit rfl) hS)
theorem bX4_howOften_6 {g : AG} {ad : Nat → Nat} {d : Nat} {Q : AO → SG → Prop} {rc rs : Nat} {σ : SG} {x2 x4 x5 x6 x7 : Int} {c1 n1 : Nat} (hc1 : aI c1 n1) {c3 n3 : Nat} (hc3 : aI c3 n3) (hx2 : iR x2) (hx4 : iR x4) (hx5 : iR x5) (hx6 : iR x6) (hx7 : iR x7) (hS : SR σ) (H : iR (x7 + x5) ∧ ((x4 < (x7 + x5) → (iR x6 → SR σ → Q (.inl (some (vi x6))) σ)) ∧ (¬ x4 < (x7 + x5) → Cl g ad d mX2_sameRow 0 0 [(.ref (ad c1)), (vi x2), (.ref (ad c3)), (vi x7), (vi x5)] σ (Ki fun r2 s2 => ((r2 = 0 → iR (x6 + 0) ∧ iR (x7 + 1) ∧ (iR x2 → iR x4 → iR x5 → iR (x6 + 0) → iR (x7 + 1) → SR s2 → Wb g ad d mX4_howOften Q 6 [some (.ref (ad 88)), some (.ref (ad c1)), some (vi x2), some (.ref (ad c3)), some (vi x4), some (vi x5), some (vi (x6 + 0)), some (vi (x7 + 1))] [] s2 rc rs)) ∧ (¬ r2 = 0 → iR (x6 + 1) ∧ iR (x7 + 1) ∧ (iR x2 → iR x4 → iR x5 → iR (x6 + 1) → iR (x7 + 1) → SR s2 → Wb g ad d mX4_howOften Q 6 [some (.ref (ad 88)), some (.ref (ad c1)), some (vi x2), some (.ref (ad c3)), some (vi x4), some (vi x5), some (vi (x6 + 1)), some (vi (x7 + 1))] [] s2 rc rs))))))) : Wb g ad d mX4_howOften Q 6 [some (.ref (ad 88)), some (.ref (ad c1)), some (vi x2), some (.ref (ad c3)), some (vi x4), some (vi x5), some (vi x6), some (vi x7)] [] σ rc rs := by
  refine sb_iload (pc' := 8) rfl rfl dX4_howOften_6 ?_
  refine sb_iload (pc' := 10) rfl rfl dX4_howOften_8 ?_
  refine sb_iadd (pc' := 11) rfl dX4_howOften_10 ?_
  refine sb_iload (pc' := 13) rfl rfl dX4_howOften_11 ?_
  obtain ⟨o1, H⟩ := H
  refine sb_icmp_gt (pc' := 16) (tgt := 45) rfl (by decide) o1 hx4 dX4_howOften_13 ?_ ?_
  · intro cc; have H := H.1 cc
    refine sb_iload (pc' := 47) rfl rfl dX4_howOften_45 ?_
    exact sb_iret rfl rfl dX4_howOften_47 (H hx6 hS)
  · intro cc; have H := H.2 cc
    refine sb_iload (pc' := 18) rfl rfl dX4_howOften_16 ?_
    refine sb_aload_n (pc' := 19) rfl rfl dX4_howOften_18 ?_
    refine sb_iload_n (pc' := 20) rfl rfl dX4_howOften_19 ?_
    refine sb_aload_n (pc' := 21) rfl rfl dX4_howOften_20 ?_
    refine sb_iload (pc' := 23) rfl rfl dX4_howOften_21 ?_
    refine sb_iload (pc' := 25) rfl rfl dX4_howOften_23 ?_
    obtain ⟨d2, hd2, H⟩ := H
    refine sb_callSN (pc' := 28) rfl rfl (rc := rc) (rs := rs) (mc' := 0) (ms' := 0) (As := [(.ref (ad c1)), (vi x2), (.ref (ad c3)), (vi x7), (vi x5)]) (st := [(vi x6)])  rfl rfl (Nat.le_of_ble_eq_true rfl) hd2 kX2_sameRow ⟨wd_1512, wd_721⟩ dX4_howOften_25 (Eb.mono H ?_)
    rintro o s2 ⟨r2, rfl, hr2, hs2, H⟩
    show Wb g ad d mX4_howOften Q 28 [some (.ref (ad 88)), some (.ref (ad c1)), some (vi x2), some (.ref (ad c3)), some (vi x4), some (vi x5), some (vi x6), some (vi x7)] [(vi r2), (vi x6)] s2 rc rs
    refine sb_if_eq (pc' := 31) (tgt := 35) rfl (by decide) hr2 dX4_howOften_28 ?_ ?_
    · intro cc; have H := H.1 cc
      refine sb_iconst (pc' := 36) rfl dX4_howOften_35 ?_
      refine sb_iadd (pc' := 37) rfl dX4_howOften_36 ?_
      refine sb_istore (pc' := 39) rfl (L' := [some (.ref (ad 88)), some (.ref (ad c1)), some (vi x2), some (.ref (ad c3)), some (vi x4), some (vi x5), some (vi (x6 + 0)), some (vi x7)]) rfl (by decide) dX4_howOften_37 ?_
      refine sb_iinc (pc' := 42) rfl rfl (L' := [some (.ref (ad 88)), some (.ref (ad c1)), some (vi x2), some (.ref (ad c3)), some (vi x4), some (vi x5), some (vi (x6 + 0)), some (vi (x7 + 1))]) rfl (by decide) dX4_howOften_39 ?_
      refine sb_goto (tgt := 6) (by decide) dX4_howOften_42 ?_
      obtain ⟨o3, H⟩ := H
      obtain ⟨o4, H⟩ := H
      exact (H hx2 hx4 hx5 o3 o4 hs2)
    · intro cc; have H := H.2 cc
      refine sb_iconst (pc' := 32) rfl dX4_howOften_31 ?_
      refine sb_goto (tgt := 36) (by decide) dX4_howOften_32 ?_
      refine sb_iadd (pc' := 37) rfl dX4_howOften_36 ?_
      refine sb_istore (pc' := 39) rfl (L' := [some (.ref (ad 88)), some (.ref (ad c1)), some (vi x2), some (.ref (ad c3)), some (vi x4), some (vi x5), some (vi (x6 + 1)), some (vi x7)]) rfl (by decide) dX4_howOften_37 ?_
      refine sb_iinc (pc' := 42) rfl rfl (L' := [some (.ref (ad 88)), some (.ref (ad c1)), some (vi x2), some (.ref (ad c3)), some (vi x4), some (vi x5), some (vi (x6 + 1)), some (vi (x7 + 1))]) rfl (by decide) dX4_howOften_39 ?_
      refine sb_goto (tgt := 6) (by decide) dX4_howOften_42 ?_
      obtain ⟨o5, H⟩ := H
      obtain ⟨o6, H⟩ := H
      exact (H hx2 hx4 hx5 o5 o6 hs2)
theorem bX4_clear_0 {g : AG} {ad : Nat → Nat} {d : Nat} {Q : AO → SG → Prop} {rc rs : Nat} {σ : SG}    (hS : SR σ) (H : (SR (setS σ 88 3 0) → Q (.inl none) (setS σ 88 3 0))) : Wb g ad d mX4_clear Q 0 [some (.ref (ad 88))] [] σ rc rs := by
  refine sb_aload_n (pc' := 1) rfl rfl dX4_clear_0 ?_
  refine sb_iconst (pc' := 2) rfl dX4_clear_1 ?_
  refine sb_putI (pc' := 5) rfl fi_88_3 (Or.inl rfl) wd_632 dX4_clear_2 ?_
  exact sb_vret rfl dX4_clear_5 (H (SR_setS hS (iR_lit rfl)))
theorem bX4_add_0 {g : AG} {ad : Nat → Nat} {d : Nat} {Q : AO → SG → Prop} {rc rs : Nat} {σ : SG} {x2 : Int} {c1 n1 : Nat} (hc1 : aI c1 n1) (hx2 : iR x2) (hS : SR σ) (H : ((10 ≤ (sc σ 88 3) → (SR σ → Q (.inl none) σ)) ∧ (¬ 10 ≤ (sc σ 88 3) → (0 ≤ sc σ 88 3 ∧ sc σ 88 3 < 10) ∧ ((0 : Int) ≤ 0 ∧ (0 : Int) ≤ 0 ∧ (0 : Int) ≤ x2 ∧ (0 : Int) + x2 ≤ n1 ∧ (0 : Int) + x2 ≤ 18) ∧ 2 ≤ d ∧ (0 ≤ sc (setA σ (90 + 1 + Int.toNat (sc σ 88 3)) (cpy (ia σ c1) (ia σ (90 + 1 + Int.toNat (sc σ 88 3))) 0 0 x2)) 88 3 ∧ sc (setA σ (90 + 1 + Int.toNat (sc σ 88 3)) (cpy (ia σ c1) (ia σ (90 + 1 + Int.toNat (sc σ 88 3))) 0 0 x2)) 88 3 < 10) ∧ iR ((sc (setI (setA σ (90 + 1 + Int.toNat (sc σ 88 3)) (cpy (ia σ c1) (ia σ (90 + 1 + Int.toNat (sc σ 88 3))) 0 0 x2)) 101 (sc (setA σ (90 + 1 + Int.toNat (sc σ 88 3)) (cpy (ia σ c1) (ia σ (90 + 1 + Int.toNat (sc σ 88 3))) 0 0 x2)) 88 3) x2) 88 3) + 1) ∧ (SR (setS (setI (setA σ (90 + 1 + Int.toNat (sc σ 88 3)) (cpy (ia σ c1) (ia σ (90 + 1 + Int.toNat (sc σ 88 3))) 0 0 x2)) 101 (sc (setA σ (90 + 1 + Int.toNat (sc σ 88 3)) (cpy (ia σ c1) (ia σ (90 + 1 + Int.toNat (sc σ 88 3))) 0 0 x2)) 88 3) x2) 88 3 ((sc (setI (setA σ (90 + 1 + Int.toNat (sc σ 88 3)) (cpy (ia σ c1) (ia σ (90 + 1 + Int.toNat (sc σ 88 3))) 0 0 x2)) 101 (sc (setA σ (90 + 1 + Int.toNat (sc σ 88 3)) (cpy (ia σ c1) (ia σ (90 + 1 + Int.toNat (sc σ 88 3))) 0 0 x2)) 88 3) x2) 88 3) + 1)) → Q (.inl none) (setS (setI (setA σ (90 + 1 + Int.toNat (sc σ 88 3)) (cpy (ia σ c1) (ia σ (90 + 1 + Int.toNat (sc σ 88 3))) 0 0 x2)) 101 (sc (setA σ (90 + 1 + Int.toNat (sc σ 88 3)) (cpy (ia σ c1) (ia σ (90 + 1 + Int.toNat (sc σ 88 3))) 0 0 x2)) 88 3) x2) 88 3 ((sc (setI (setA σ (90 + 1 + Int.toNat (sc σ 88 3)) (cpy (ia σ c1) (ia σ (90 + 1 + Int.toNat (sc σ 88 3))) 0 0 x2)) 101 (sc (setA σ (90 + 1 + Int.toNat (sc σ 88 3)) (cpy (ia σ c1) (ia σ (90 + 1 + Int.toNat (sc σ 88 3))) 0 0 x2)) 88 3) x2) 88 3) + 1)))))) : Wb g ad d mX4_add Q 0 [some (.ref (ad 88)), some (.ref (ad c1)), some (vi x2)] [] σ rc rs := by
  refine sb_aload_n (pc' := 1) rfl rfl dX4_add_0 ?_
  refine sb_getI (pc' := 4) rfl fi_88_3 wd_632 dX4_add_1 ?_
  refine sb_bipush (pc' := 6) rfl (z := 10) (by decide) dX4_add_4 ?_
  refine sb_icmp_ge (pc' := 9) (tgt := 45) rfl (by decide) (SR_sc hS _ _) (iR_lit rfl) dX4_add_6 ?_ ?_
  · intro cc; have H := H.1 cc
    exact sb_vret rfl dX4_add_45 (H hS)
  · intro cc; have H := H.2 cc
    refine sb_aload_n (pc' := 10) rfl rfl dX4_add_9 ?_
    refine sb_iconst (pc' := 11) rfl dX4_add_10 ?_
    refine sb_aload_n (pc' := 12) rfl rfl dX4_add_11 ?_
    refine sb_getC (pc' := 15) rfl fc_88_1 wd_630 dX4_add_12 ?_
    refine sb_aload_n (pc' := 16) rfl rfl dX4_add_15 ?_
    refine sb_getI (pc' := 19) rfl fi_88_3 wd_632 dX4_add_16 ?_
    obtain ⟨o1, H⟩ := H
    refine sb_aald (pc' := 20) rfl aA_90 o1.1 o1.2 dX4_add_19 ?_
    refine sb_iconst (pc' := 21) rfl dX4_add_20 ?_
    refine sb_iload_n (pc' := 22) rfl rfl dX4_add_21 ?_
    obtain ⟨o2, H⟩ := H
    obtain ⟨o3, H⟩ := H
    refine sb_copy (pc' := 25) rfl hc1 (aI_tx o1.1 o1.2) o2 (Nat.le_of_ble_eq_true rfl) o3 wd_1529 dX4_add_22 ?_
    refine sb_aload_n (pc' := 26) rfl rfl dX4_add_25 ?_
    refine sb_getC (pc' := 29) rfl fc_88_2 wd_631 dX4_add_26 ?_
    refine sb_aload_n (pc' := 30) rfl rfl dX4_add_29 ?_
    refine sb_getI (pc' := 33) rfl fi_88_3 wd_632 dX4_add_30 ?_
    refine sb_iload_n (pc' := 34) rfl rfl dX4_add_33 ?_
    obtain ⟨o4, H⟩ := H
    refine sb_iast (pc' := 35) rfl aI_101 o4.1 o4.2  dX4_add_34 ?_
    refine sb_aload_n (pc' := 36) rfl rfl dX4_add_35 ?_
    refine sb_dup (pc' := 37) rfl rfl dX4_add_36 ?_
    refine sb_getI (pc' := 40) rfl fi_88_3 wd_632 dX4_add_37 ?_
    refine sb_iconst (pc' := 41) rfl dX4_add_40 ?_
    refine sb_iadd (pc' := 42) rfl dX4_add_41 ?_
    obtain ⟨o5, H⟩ := H
    refine sb_putI (pc' := 45) rfl fi_88_3 (Or.inl rfl) wd_632 dX4_add_42 ?_
    exact sb_vret rfl dX4_add_45 (H (SR_setS (SR_setI (SR_cpy hS) hx2) o5))
theorem bX4_middle_0 {g : AG} {ad : Nat → Nat} {d : Nat} {Q : AO → SG → Prop} {rc rs : Nat} {σ : SG}    (hS : SR σ) (H : (iR 0 → iR 1000000 → iR 0 → SR σ → Wb g ad d mX4_middle Q 7 [some (.ref (ad 88)), some (vi 0), some (vi 1000000), some (vi 0), none, none] [] σ rc rs)) : Wb g ad d mX4_middle Q 0 [some (.ref (ad 88)), none, none, none, none, none] [] σ rc rs := by
  refine sb_iconst (pc' := 1) rfl dX4_middle_0 ?_
  refine sb_istore_n (pc' := 2) rfl (L' := [some (.ref (ad 88)), some (vi 0), none, none, none, none]) rfl (by decide) dX4_middle_1 ?_
  refine sb_ldc (pc' := 4) rfl (z := 1000000) rfl wd_1534 dX4_middle_2 ?_
  refine sb_istore_n (pc' := 5) rfl (L' := [some (.ref (ad 88)), some (vi 0), some (vi 1000000), none, none, none]) rfl (by decide) dX4_middle_4 ?_
  refine sb_iconst (pc' := 6) rfl dX4_middle_5 ?_
  refine sb_istore_n (pc' := 7) rfl (L' := [some (.ref (ad 88)), some (vi 0), some (vi 1000000), some (vi 0), none, none]) rfl (by decide) dX4_middle_6 ?_
  exact (H (iR_lit rfl) (iR_lit rfl) (iR_lit rfl) hS)
theorem bX4_middle_7 {g : AG} {ad : Nat → Nat} {d : Nat} {Q : AO → SG → Prop} {rc rs : Nat} {σ : SG} {x1 x2 x3 : Int}  (hx1 : iR x1) (hx2 : iR x2) (hx3 : iR x3) (hS : SR σ) (H : (((sc σ 88 3) ≤ x3 → (iR x1 → SR σ → Q (.inl (some (vi x1))) σ)) ∧ (¬ (sc σ 88 3) ≤ x3 → (iR x1 → iR x2 → iR x3 → iR 0 → iR 0 → SR σ → Wb g ad d mX4_middle Q 21 [some (.ref (ad 88)), some (vi x1), some (vi x2), some (vi x3), some (vi 0), some (vi 0)] [] σ rc rs)))) : Wb g ad d mX4_middle Q 7 [some (.ref (ad 88)), some (vi x1), some (vi x2), some (vi x3), none, none] [] σ rc rs := by
  refine sb_iload_n (pc' := 8) rfl rfl dX4_middle_7 ?_
  refine sb_aload_n (pc' := 9) rfl rfl dX4_middle_8 ?_
  refine sb_getI (pc' := 12) rfl fi_88_3 wd_632 dX4_middle_9 ?_
  refine sb_icmp_ge (pc' := 15) (tgt := 88) rfl (by decide) hx3 (SR_sc hS _ _) dX4_middle_12 ?_ ?_
  · intro cc; have H := H.1 cc
    refine sb_iload_n (pc' := 89) rfl rfl dX4_middle_88 ?_
    exact sb_iret rfl rfl dX4_middle_89 (H hx1 hS)
  · intro cc; have H := H.2 cc
    refine sb_iconst (pc' := 16) rfl dX4_middle_15 ?_
    refine sb_istore (pc' := 18) rfl (L' := [some (.ref (ad 88)), some (vi x1), some (vi x2), some (vi x3), some (vi 0), none]) rfl (by decide) dX4_middle_16 ?_
    refine sb_iconst (pc' := 19) rfl dX4_middle_18 ?_
    refine sb_istore (pc' := 21) rfl (L' := [some (.ref (ad 88)), some (vi x1), some (vi x2), some (vi x3), some (vi 0), some (vi 0)]) rfl (by decide) dX4_middle_19 ?_
    exact (H hx1 hx2 hx3 (iR_lit rfl) (iR_lit rfl) hS)
theorem bX4_middle_21 {g : AG} {ad : Nat → Nat} {d : Nat} {Q : AO → SG → Prop} {rc rs : Nat} {σ : SG} {x1 x2 x3 x4 x5 : Int}  (hx1 : iR x1) (hx2 : iR x2) (hx3 : iR x3) (hx4 : iR x4) (hx5 : iR x5) (hS : SR σ) (H : (((sc σ 88 3) ≤ x5 → ((x2 ≤ x4 → iR (x3 + 1) ∧ (iR x1 → iR x2 → iR (x3 + 1) → SR σ → Wb g ad d mX4_middle Q 7 [some (.ref (ad 88)), some (vi x1), some (vi x2), some (vi (x3 + 1)), none, none] [] σ rc rs)) ∧ (¬ x2 ≤ x4 → iR (x3 + 1) ∧ (iR x3 → iR x4 → iR (x3 + 1) → SR σ → Wb g ad d mX4_middle Q 7 [some (.ref (ad 88)), some (vi x3), some (vi x4), some (vi (x3 + 1)), none, none] [] σ rc rs)))) ∧ (¬ (sc σ 88 3) ≤ x5 → (0 ≤ x3 ∧ x3 < 10) ∧ (0 ≤ x5 ∧ x5 < 10) ∧ Cl g ad d mX4_apart 0 0 [(.ref (ad 88)), (.ref (ad (90 + 1 + Int.toNat x3))), (vi (ia σ 101 x3)), (.ref (ad (90 + 1 + Int.toNat x5))), (vi (ia σ 101 x5))] σ (Ki fun r5 s5 => iR (x4 + r5) ∧ iR (x5 + 1) ∧ (iR x1 → iR x2 → iR x3 → iR (x4 + r5) → iR (x5 + 1) → SR s5 → Wb g ad d mX4_middle Q 21 [some (.ref (ad 88)), some (vi x1), some (vi x2), some (vi x3), some (vi (x4 + r5)), some (vi (x5 + 1))] [] s5 rc rs))))) : Wb g ad d mX4_middle Q 21 [some (.ref (ad 88)), some (vi x1), some (vi x2), some (vi x3), some (vi x4), some (vi x5)] [] σ rc rs := by
  refine sb_iload (pc' := 23) rfl rfl dX4_middle_21 ?_
  refine sb_aload_n (pc' := 24) rfl rfl dX4_middle_23 ?_
  refine sb_getI (pc' := 27) rfl fi_88_3 wd_632 dX4_middle_24 ?_
  refine sb_icmp_ge (pc' := 30) (tgt := 71) rfl (by decide) hx5 (SR_sc hS _ _) dX4_middle_27 ?_ ?_
  · intro cc; have H := H.1 cc
    refine sb_iload (pc' := 73) rfl rfl dX4_middle_71 ?_
    refine sb_iload_n (pc' := 74) rfl rfl dX4_middle_73 ?_
    refine sb_icmp_ge (pc' := 77) (tgt := 82) rfl (by decide) hx4 hx2 dX4_middle_74 ?_ ?_
    · intro cc; have H := H.1 cc
      refine sb_iinc (pc' := 85) rfl rfl (L' := [some (.ref (ad 88)), some (vi x1), some (vi x2), some (vi (x3 + 1)), some (vi x4), some (vi x5)]) rfl (by decide) dX4_middle_82 ?_
      refine sb_goto (tgt := 7) (by decide) dX4_middle_85 ?_
      obtain ⟨o1, H⟩ := H
      refine Wb.forget [true, true, true, true, false, false] ?_
      exact (H hx1 hx2 o1 hS)
    · intro cc; have H := H.2 cc
      refine sb_iload (pc' := 79) rfl rfl dX4_middle_77 ?_
      refine sb_istore_n (pc' := 80) rfl (L' := [some (.ref (ad 88)), some (vi x1), some (vi x4), some (vi x3), some (vi x4), some (vi x5)]) rfl (by decide) dX4_middle_79 ?_
      refine sb_iload_n (pc' := 81) rfl rfl dX4_middle_80 ?_
      refine sb_istore_n (pc' := 82) rfl (L' := [some (.ref (ad 88)), some (vi x3), some (vi x4), some (vi x3), some (vi x4), some (vi x5)]) rfl (by decide) dX4_middle_81 ?_
      refine sb_iinc (pc' := 85) rfl rfl (L' := [some (.ref (ad 88)), some (vi x3), some (vi x4), some (vi (x3 + 1)), some (vi x4), some (vi x5)]) rfl (by decide) dX4_middle_82 ?_
      refine sb_goto (tgt := 7) (by decide) dX4_middle_85 ?_
      obtain ⟨o2, H⟩ := H
      refine Wb.forget [true, true, true, true, false, false] ?_
      exact (H hx3 hx4 o2 hS)
  · intro cc; have H := H.2 cc
    refine sb_iload (pc' := 32) rfl rfl dX4_middle_30 ?_
    refine sb_aload_n (pc' := 33) rfl rfl dX4_middle_32 ?_
    refine sb_aload_n (pc' := 34) rfl rfl dX4_middle_33 ?_
    refine sb_getC (pc' := 37) rfl fc_88_1 wd_630 dX4_middle_34 ?_
    refine sb_iload_n (pc' := 38) rfl rfl dX4_middle_37 ?_
    obtain ⟨o3, H⟩ := H
    refine sb_aald (pc' := 39) rfl aA_90 o3.1 o3.2 dX4_middle_38 ?_
    refine sb_aload_n (pc' := 40) rfl rfl dX4_middle_39 ?_
    refine sb_getC (pc' := 43) rfl fc_88_2 wd_631 dX4_middle_40 ?_
    refine sb_iload_n (pc' := 44) rfl rfl dX4_middle_43 ?_
    refine sb_iald (pc' := 45) rfl aI_101 o3.1 o3.2 dX4_middle_44 ?_
    refine sb_aload_n (pc' := 46) rfl rfl dX4_middle_45 ?_
    refine sb_getC (pc' := 49) rfl fc_88_1 wd_630 dX4_middle_46 ?_
    refine sb_iload (pc' := 51) rfl rfl dX4_middle_49 ?_
    obtain ⟨o4, H⟩ := H
    refine sb_aald (pc' := 52) rfl aA_90 o4.1 o4.2 dX4_middle_51 ?_
    refine sb_aload_n (pc' := 53) rfl rfl dX4_middle_52 ?_
    refine sb_getC (pc' := 56) rfl fc_88_2 wd_631 dX4_middle_53 ?_
    refine sb_iload (pc' := 58) rfl rfl dX4_middle_56 ?_
    refine sb_iald (pc' := 59) rfl aI_101 o4.1 o4.2 dX4_middle_58 ?_
    obtain ⟨d5, hd5, H⟩ := H
    refine sb_callV (pc' := 62) rfl rfl (rc := rc) (rs := rs) (mc' := 0) (ms' := 0) (As := [(.ref (ad (90 + 1 + Int.toNat x3))), (vi (ia σ 101 x3)), (.ref (ad (90 + 1 + Int.toNat x5))), (vi (ia σ 101 x5))]) (st := [(vi x4)]) of_88 rfl rfl (Nat.le_of_ble_eq_true rfl) hd5 kX4_apart ⟨wd_1535, wd_1493, wd_92⟩ dX4_middle_59 (Eb.mono H ?_)
    rintro o s5 ⟨r5, rfl, hr5, hs5, H⟩
    show Wb g ad d mX4_middle Q 62 [some (.ref (ad 88)), some (vi x1), some (vi x2), some (vi x3), some (vi x4), some (vi x5)] [(vi r5), (vi x4)] s5 rc rs
    refine sb_iadd (pc' := 63) rfl dX4_middle_62 ?_
    refine sb_istore (pc' := 65) rfl (L' := [some (.ref (ad 88)), some (vi x1), some (vi x2), some (vi x3), some (vi (x4 + r5)), some (vi x5)]) rfl (by decide) dX4_middle_63 ?_
    refine sb_iinc (pc' := 68) rfl rfl (L' := [some (.ref (ad 88)), some (vi x1), some (vi x2), some (vi x3), some (vi (x4 + r5)), some (vi (x5 + 1))]) rfl (by decide) dX4_middle_65 ?_
    refine sb_goto (tgt := 21) (by decide) dX4_middle_68 ?_
    obtain ⟨o6, H⟩ := H
    obtain ⟨o7, H⟩ := H
    exact (H hx1 hx2 hx3 o6 o7 hs5)
theorem bX5_gather_0 {g : AG} {ad : Nat → Nat} {d : Nat} {Q : AO → SG → Prop} {rc rs : Nat} {σ : SG}  {k1 : Nat} (hk1 : isK k1)  (hS : SR σ) (H : (iR 0 → SR (setS (setS (setR σ 48 11 k1) 48 10 (sc (setR σ 48 11 k1) k1 13)) 48 9 0) → Wb g ad d mX5_gather Q 20 [some (.ref (ad 48)), some (.ref (ad k1)), some (vi 0), none] [] (setS (setS (setR σ 48 11 k1) 48 10 (sc (setR σ 48 11 k1) k1 13)) 48 9 0) rc rs)) : Wb g ad d mX5_gather Q 0 [some (.ref (ad 48)), some (.ref (ad k1)), none, none] [] σ rc rs := by
  refine sb_aload_n (pc' := 1) rfl rfl dX5_gather_0 ?_
  refine sb_aload_n (pc' := 2) rfl rfl dX5_gather_1 ?_
  refine sb_putR (pc' := 5) rfl fr_48_11 wd_398 dX5_gather_2 ?_
  refine sb_aload_n (pc' := 6) rfl rfl dX5_gather_5 ?_
  refine sb_aload_n (pc' := 7) rfl rfl dX5_gather_6 ?_
  refine sb_getIN (pc' := 10) rfl (fiK_13 hk1) wd_236 dX5_gather_7 ?_
  refine sb_putI (pc' := 13) rfl fi_48_10 (Or.inl rfl) wd_394 dX5_gather_10 ?_
  refine sb_aload_n (pc' := 14) rfl rfl dX5_gather_13 ?_
  refine sb_iconst (pc' := 15) rfl dX5_gather_14 ?_
  refine sb_putI (pc' := 18) rfl fi_48_9 (Or.inl rfl) wd_388 dX5_gather_15 ?_
  refine sb_iconst (pc' := 19) rfl dX5_gather_18 ?_
  refine sb_istore_n (pc' := 20) rfl (L' := [some (.ref (ad 48)), some (.ref (ad k1)), some (vi 0), none]) rfl (by decide) dX5_gather_19 ?_
  exact (H (iR_lit rfl) (SR_setS (SR_setS (SR_setR hS) (SR_sc (SR_setR hS) _ _)) (iR_lit rfl)))
theorem bX5_gather_20 {g : AG} {ad : Nat → Nat} {d : Nat} {Q : AO → SG → Prop} {rc rs : Nat} {σ : SG} {x2 : Int} {k1 : Nat} (hk1 : isK k1) (hx2 : iR x2) (hS : SR σ) (H : (((sc σ 48 10) ≤ x2 → (SR σ → Q (.inl none) σ)) ∧ (¬ (sc σ 48 10) ≤ x2 → (iR x2 → iR 0 → SR σ → Wb g ad d mX5_gather Q 30 [some (.ref (ad 48)), some (.ref (ad k1)), some (vi x2), some (vi 0)] [] σ rc rs)))) : Wb g ad d mX5_gather Q 20 [some (.ref (ad 48)), some (.ref (ad k1)), some (vi x2), none] [] σ rc rs := by
  refine sb_iload_n (pc' := 21) rfl rfl dX5_gather_20 ?_
  refine sb_aload_n (pc' := 22) rfl rfl dX5_gather_21 ?_
  refine sb_getI (pc' := 25) rfl fi_48_10 wd_394 dX5_gather_22 ?_
  refine sb_icmp_ge (pc' := 28) (tgt := 118) rfl (by decide) hx2 (SR_sc hS _ _) dX5_gather_25 ?_ ?_
  · intro cc; have H := H.1 cc
    exact sb_vret rfl dX5_gather_118 (H hS)
  · intro cc; have H := H.2 cc
    refine sb_iconst (pc' := 29) rfl dX5_gather_28 ?_
    refine sb_istore_n (pc' := 30) rfl (L' := [some (.ref (ad 48)), some (.ref (ad k1)), some (vi x2), some (vi 0)]) rfl (by decide) dX5_gather_29 ?_
    exact (H hx2 (iR_lit rfl) hS)
theorem bX5_gather_30 {g : AG} {ad : Nat → Nat} {d : Nat} {Q : AO → SG → Prop} {rc rs : Nat} {σ : SG} {x2 x3 : Int} {k1 : Nat} (hk1 : isK k1) (hx2 : iR x2) (hx3 : iR x3) (hS : SR σ) (H : (((sc σ k1 9) ≤ x3 → Cl g ad d mX5_add 0 0 [(.ref (ad 48)), (vi x2), (vi 1), (vi 99), (vi (ia σ (k1 + 11) 1))] σ (Kv fun s1 => Cl g ad d mX5_bring 0 0 [(.ref (ad 48)), (.ref (ad (k1 + 10))), (vi x2), (vi 1)] s1 (Kv fun s2 => iR (x2 + 1) ∧ (iR (x2 + 1) → SR s2 → Wb g ad d mX5_gather Q 20 [some (.ref (ad 48)), some (.ref (ad k1)), some (vi (x2 + 1)), none] [] s2 rc rs)))) ∧ (¬ (sc σ k1 9) ≤ x3 → Cl g ad d mX2_isOption 0 0 [(.ref (ad k1)), (vi x3), (vi x2)] σ (Ki fun r4 s4 => ((r4 = 0 → iR (x3 + 1) ∧ (iR x2 → iR (x3 + 1) → SR s4 → Wb g ad d mX5_gather Q 30 [some (.ref (ad 48)), some (.ref (ad k1)), some (vi x2), some (vi (x3 + 1))] [] s4 rc rs)) ∧ (¬ r4 = 0 → (0 ≤ x3 ∧ x3 < 30) ∧ Cl g ad d mX5_add 0 0 [(.ref (ad 48)), (vi x2), (vi (ia s4 (k1 + 4) x3)), (vi x3), (vi (ia s4 (k1 + 7) x3))] s4 (Kv fun s7 => Cl g ad d mX5_bring 0 0 [(.ref (ad 48)), (.ref (ad (k1 + 5))), (vi (x3 * 3)), (vi (ia s7 (k1 + 6) x3))] s7 (Kv fun s8 => iR (x3 + 1) ∧ (iR x2 → iR (x3 + 1) → SR s8 → Wb g ad d mX5_gather Q 30 [some (.ref (ad 48)), some (.ref (ad k1)), some (vi x2), some (vi (x3 + 1))] [] s8 rc rs))))))))) : Wb g ad d mX5_gather Q 30 [some (.ref (ad 48)), some (.ref (ad k1)), some (vi x2), some (vi x3)] [] σ rc rs := by
  refine sb_iload_n (pc' := 31) rfl rfl dX5_gather_30 ?_
  refine sb_aload_n (pc' := 32) rfl rfl dX5_gather_31 ?_
  refine sb_getIN (pc' := 35) rfl (fiK_9 hk1) wd_226 dX5_gather_32 ?_
  refine sb_icmp_ge (pc' := 38) (tgt := 88) rfl (by decide) hx3 (SR_sc hS _ _) dX5_gather_35 ?_ ?_
  · intro cc; have H := H.1 cc
    refine sb_aload_n (pc' := 89) rfl rfl dX5_gather_88 ?_
    refine sb_iload_n (pc' := 90) rfl rfl dX5_gather_89 ?_
    refine sb_iconst (pc' := 91) rfl dX5_gather_90 ?_
    refine sb_bipush (pc' := 93) rfl (z := 99) (by decide) dX5_gather_91 ?_
    refine sb_aload_n (pc' := 94) rfl rfl dX5_gather_93 ?_
    refine sb_getCN (pc' := 97) rfl (fcK_14 hk1) wd_240 dX5_gather_94 ?_
    refine sb_iconst (pc' := 98) rfl dX5_gather_97 ?_
    refine sb_iald (pc' := 99) rfl (aIK_11 hk1) (by decide) (by decide) dX5_gather_98 ?_
    obtain ⟨d1, hd1, H⟩ := H
    refine sb_callV (pc' := 102) rfl rfl (rc := rc) (rs := rs) (mc' := 0) (ms' := 0) (As := [(vi x2), (vi 1), (vi 99), (vi (ia σ (k1 + 11) 1))]) (st := []) of_48 rfl rfl (Nat.le_of_ble_eq_true rfl) hd1 kX5_add ⟨wd_723, wd_725, wd_4⟩ dX5_gather_99 (Eb.mono H ?_)
    rintro o s1 ⟨rfl, hs1, H⟩
    show Wb g ad d mX5_gather Q 102 [some (.ref (ad 48)), some (.ref (ad k1)), some (vi x2), some (vi x3)] [] s1 rc rs
    refine sb_aload_n (pc' := 103) rfl rfl dX5_gather_102 ?_
    refine sb_aload_n (pc' := 104) rfl rfl dX5_gather_103 ?_
    refine sb_getCN (pc' := 107) rfl (fcK_12 hk1) wd_234 dX5_gather_104 ?_
    refine sb_iload_n (pc' := 108) rfl rfl dX5_gather_107 ?_
    refine sb_iconst (pc' := 109) rfl dX5_gather_108 ?_
    obtain ⟨d2, hd2, H⟩ := H
    refine sb_callV (pc' := 112) rfl rfl (rc := rc) (rs := rs) (mc' := 0) (ms' := 0) (As := [(.ref (ad (k1 + 10))), (vi x2), (vi 1)]) (st := []) of_48 rfl rfl (Nat.le_of_ble_eq_true rfl) hd2 kX5_bring ⟨wd_727, wd_729, wd_5⟩ dX5_gather_109 (Eb.mono H ?_)
    rintro o s2 ⟨rfl, hs2, H⟩
    show Wb g ad d mX5_gather Q 112 [some (.ref (ad 48)), some (.ref (ad k1)), some (vi x2), some (vi x3)] [] s2 rc rs
    refine sb_iinc (pc' := 115) rfl rfl (L' := [some (.ref (ad 48)), some (.ref (ad k1)), some (vi (x2 + 1)), some (vi x3)]) rfl (by decide) dX5_gather_112 ?_
    refine sb_goto (tgt := 20) (by decide) dX5_gather_115 ?_
    obtain ⟨o3, H⟩ := H
    refine Wb.forget [true, true, true, false] ?_
    exact (H o3 hs2)
  · intro cc; have H := H.2 cc
    refine sb_aload_n (pc' := 39) rfl rfl dX5_gather_38 ?_
    refine sb_iload_n (pc' := 40) rfl rfl dX5_gather_39 ?_
    refine sb_iload_n (pc' := 41) rfl rfl dX5_gather_40 ?_
    obtain ⟨d4, hd4, H⟩ := H
    refine sb_callVN (pc' := 44) rfl rfl (rc := rc) (rs := rs) (mc' := 0) (ms' := 0) (As := [(vi x3), (vi x2)]) (st := []) (ofK hk1) rfl rfl (Nat.le_of_ble_eq_true rfl) hd4 kX2_isOption ⟨wd_716, wd_718, wd_3⟩ dX5_gather_41 (Eb.mono H ?_)
    rintro o s4 ⟨r4, rfl, hr4, hs4, H⟩
    show Wb g ad d mX5_gather Q 44 [some (.ref (ad 48)), some (.ref (ad k1)), some (vi x2), some (vi x3)] [(vi r4)] s4 rc rs
    refine sb_if_eq (pc' := 47) (tgt := 82) rfl (by decide) hr4 dX5_gather_44 ?_ ?_
    · intro cc; have H := H.1 cc
      refine sb_iinc (pc' := 85) rfl rfl (L' := [some (.ref (ad 48)), some (.ref (ad k1)), some (vi x2), some (vi (x3 + 1))]) rfl (by decide) dX5_gather_82 ?_
      refine sb_goto (tgt := 30) (by decide) dX5_gather_85 ?_
      obtain ⟨o5, H⟩ := H
      exact (H hx2 o5 hs4)
    · intro cc; have H := H.2 cc
      refine sb_aload_n (pc' := 48) rfl rfl dX5_gather_47 ?_
      refine sb_iload_n (pc' := 49) rfl rfl dX5_gather_48 ?_
      refine sb_aload_n (pc' := 50) rfl rfl dX5_gather_49 ?_
      refine sb_getCN (pc' := 53) rfl (fcK_4 hk1) wd_212 dX5_gather_50 ?_
      refine sb_iload_n (pc' := 54) rfl rfl dX5_gather_53 ?_
      obtain ⟨o6, H⟩ := H
      refine sb_iald (pc' := 55) rfl (aIK_4 hk1) o6.1 o6.2 dX5_gather_54 ?_
      refine sb_iload_n (pc' := 56) rfl rfl dX5_gather_55 ?_
      refine sb_aload_n (pc' := 57) rfl rfl dX5_gather_56 ?_
      refine sb_getCN (pc' := 60) rfl (fcK_7 hk1) wd_221 dX5_gather_57 ?_
      refine sb_iload_n (pc' := 61) rfl rfl dX5_gather_60 ?_
      refine sb_iald (pc' := 62) rfl (aIK_7 hk1) o6.1 o6.2 dX5_gather_61 ?_
      obtain ⟨d7, hd7, H⟩ := H
      refine sb_callV (pc' := 65) rfl rfl (rc := rc) (rs := rs) (mc' := 0) (ms' := 0) (As := [(vi x2), (vi (ia s4 (k1 + 4) x3)), (vi x3), (vi (ia s4 (k1 + 7) x3))]) (st := []) of_48 rfl rfl (Nat.le_of_ble_eq_true rfl) hd7 kX5_add ⟨wd_723, wd_725, wd_4⟩ dX5_gather_62 (Eb.mono H ?_)
      rintro o s7 ⟨rfl, hs7, H⟩
      show Wb g ad d mX5_gather Q 65 [some (.ref (ad 48)), some (.ref (ad k1)), some (vi x2), some (vi x3)] [] s7 rc rs
      refine sb_aload_n (pc' := 66) rfl rfl dX5_gather_65 ?_
      refine sb_aload_n (pc' := 67) rfl rfl dX5_gather_66 ?_
      refine sb_getCN (pc' := 70) rfl (fcK_5 hk1) wd_215 dX5_gather_67 ?_
      refine sb_iload_n (pc' := 71) rfl rfl dX5_gather_70 ?_
      refine sb_iconst (pc' := 72) rfl dX5_gather_71 ?_
      refine sb_imul (pc' := 73) rfl dX5_gather_72 ?_
      refine sb_aload_n (pc' := 74) rfl rfl dX5_gather_73 ?_
      refine sb_getCN (pc' := 77) rfl (fcK_6 hk1) wd_218 dX5_gather_74 ?_
      refine sb_iload_n (pc' := 78) rfl rfl dX5_gather_77 ?_
      refine sb_iald (pc' := 79) rfl (aIK_6 hk1) o6.1 o6.2 dX5_gather_78 ?_
      obtain ⟨d8, hd8, H⟩ := H
      refine sb_callV (pc' := 82) rfl rfl (rc := rc) (rs := rs) (mc' := 0) (ms' := 0) (As := [(.ref (ad (k1 + 5))), (vi (x3 * 3)), (vi (ia s7 (k1 + 6) x3))]) (st := []) of_48 rfl rfl (Nat.le_of_ble_eq_true rfl) hd8 kX5_bring ⟨wd_727, wd_729, wd_5⟩ dX5_gather_79 (Eb.mono H ?_)
      rintro o s8 ⟨rfl, hs8, H⟩
      show Wb g ad d mX5_gather Q 82 [some (.ref (ad 48)), some (.ref (ad k1)), some (vi x2), some (vi x3)] [] s8 rc rs
      refine sb_iinc (pc' := 85) rfl rfl (L' := [some (.ref (ad 48)), some (.ref (ad k1)), some (vi x2), some (vi (x3 + 1))]) rfl (by decide) dX5_gather_82 ?_
      refine sb_goto (tgt := 30) (by decide) dX5_gather_85 ?_
      obtain ⟨o9, H⟩ := H
      exact (H hx2 o9 hs8)
theorem bX5_add_0 {g : AG} {ad : Nat → Nat} {d : Nat} {Q : AO → SG → Prop} {rc rs : Nat} {σ : SG} {x1 x2 x3 x4 : Int}  (hx1 : iR x1) (hx2 : iR x2) (hx3 : iR x3) (hx4 : iR x4) (hS : SR σ) (H : (0 ≤ sc σ 48 9 ∧ sc σ 48 9 < 186) ∧ (0 ≤ sc (setI σ 49 (sc σ 48 9) x1) 48 9 ∧ sc (setI σ 49 (sc σ 48 9) x1) 48 9 < 186) ∧ iR (x1 + x2) ∧ (0 ≤ sc (setI (setI σ 49 (sc σ 48 9) x1) 50 (sc (setI σ 49 (sc σ 48 9) x1) 48 9) (x1 + x2)) 48 9 ∧ sc (setI (setI σ 49 (sc σ 48 9) x1) 50 (sc (setI σ 49 (sc σ 48 9) x1) 48 9) (x1 + x2)) 48 9 < 186) ∧ iR ((bShl 1 (x1 + x2)) - (bShl 1 x1)) ∧ (0 ≤ sc (setI (setI (setI σ 49 (sc σ 48 9) x1) 50 (sc (setI σ 49 (sc σ 48 9) x1) 48 9) (x1 + x2)) 51 (sc (setI (setI σ 49 (sc σ 48 9) x1) 50 (sc (setI σ 49 (sc σ 48 9) x1) 48 9) (x1 + x2)) 48 9) ((bShl 1 (x1 + x2)) - (bShl 1 x1))) 48 9 ∧ sc (setI (setI (setI σ 49 (sc σ 48 9) x1) 50 (sc (setI σ 49 (sc σ 48 9) x1) 48 9) (x1 + x2)) 51 (sc (setI (setI σ 49 (sc σ 48 9) x1) 50 (sc (setI σ 49 (sc σ 48 9) x1) 48 9) (x1 + x2)) 48 9) ((bShl 1 (x1 + x2)) - (bShl 1 x1))) 48 9 < 186) ∧ (0 ≤ sc (setI (setI (setI (setI σ 49 (sc σ 48 9) x1) 50 (sc (setI σ 49 (sc σ 48 9) x1) 48 9) (x1 + x2)) 51 (sc (setI (setI σ 49 (sc σ 48 9) x1) 50 (sc (setI σ 49 (sc σ 48 9) x1) 48 9) (x1 + x2)) 48 9) ((bShl 1 (x1 + x2)) - (bShl 1 x1))) 52 (sc (setI (setI (setI σ 49 (sc σ 48 9) x1) 50 (sc (setI σ 49 (sc σ 48 9) x1) 48 9) (x1 + x2)) 51 (sc (setI (setI σ 49 (sc σ 48 9) x1) 50 (sc (setI σ 49 (sc σ 48 9) x1) 48 9) (x1 + x2)) 48 9) ((bShl 1 (x1 + x2)) - (bShl 1 x1))) 48 9) x3) 48 9 ∧ sc (setI (setI (setI (setI σ 49 (sc σ 48 9) x1) 50 (sc (setI σ 49 (sc σ 48 9) x1) 48 9) (x1 + x2)) 51 (sc (setI (setI σ 49 (sc σ 48 9) x1) 50 (sc (setI σ 49 (sc σ 48 9) x1) 48 9) (x1 + x2)) 48 9) ((bShl 1 (x1 + x2)) - (bShl 1 x1))) 52 (sc (setI (setI (setI σ 49 (sc σ 48 9) x1) 50 (sc (setI σ 49 (sc σ 48 9) x1) 48 9) (x1 + x2)) 51 (sc (setI (setI σ 49 (sc σ 48 9) x1) 50 (sc (setI σ 49 (sc σ 48 9) x1) 48 9) (x1 + x2)) 48 9) ((bShl 1 (x1 + x2)) - (bShl 1 x1))) 48 9) x3) 48 9 < 186) ∧ (SR (setI (setI (setI (setI (setI σ 49 (sc σ 48 9) x1) 50 (sc (setI σ 49 (sc σ 48 9) x1) 48 9) (x1 + x2)) 51 (sc (setI (setI σ 49 (sc σ 48 9) x1) 50 (sc (setI σ 49 (sc σ 48 9) x1) 48 9) (x1 + x2)) 48 9) ((bShl 1 (x1 + x2)) - (bShl 1 x1))) 52 (sc (setI (setI (setI σ 49 (sc σ 48 9) x1) 50 (sc (setI σ 49 (sc σ 48 9) x1) 48 9) (x1 + x2)) 51 (sc (setI (setI σ 49 (sc σ 48 9) x1) 50 (sc (setI σ 49 (sc σ 48 9) x1) 48 9) (x1 + x2)) 48 9) ((bShl 1 (x1 + x2)) - (bShl 1 x1))) 48 9) x3) 57 (sc (setI (setI (setI (setI σ 49 (sc σ 48 9) x1) 50 (sc (setI σ 49 (sc σ 48 9) x1) 48 9) (x1 + x2)) 51 (sc (setI (setI σ 49 (sc σ 48 9) x1) 50 (sc (setI σ 49 (sc σ 48 9) x1) 48 9) (x1 + x2)) 48 9) ((bShl 1 (x1 + x2)) - (bShl 1 x1))) 52 (sc (setI (setI (setI σ 49 (sc σ 48 9) x1) 50 (sc (setI σ 49 (sc σ 48 9) x1) 48 9) (x1 + x2)) 51 (sc (setI (setI σ 49 (sc σ 48 9) x1) 50 (sc (setI σ 49 (sc σ 48 9) x1) 48 9) (x1 + x2)) 48 9) ((bShl 1 (x1 + x2)) - (bShl 1 x1))) 48 9) x3) 48 9) x4) → Q (.inl none) (setI (setI (setI (setI (setI σ 49 (sc σ 48 9) x1) 50 (sc (setI σ 49 (sc σ 48 9) x1) 48 9) (x1 + x2)) 51 (sc (setI (setI σ 49 (sc σ 48 9) x1) 50 (sc (setI σ 49 (sc σ 48 9) x1) 48 9) (x1 + x2)) 48 9) ((bShl 1 (x1 + x2)) - (bShl 1 x1))) 52 (sc (setI (setI (setI σ 49 (sc σ 48 9) x1) 50 (sc (setI σ 49 (sc σ 48 9) x1) 48 9) (x1 + x2)) 51 (sc (setI (setI σ 49 (sc σ 48 9) x1) 50 (sc (setI σ 49 (sc σ 48 9) x1) 48 9) (x1 + x2)) 48 9) ((bShl 1 (x1 + x2)) - (bShl 1 x1))) 48 9) x3) 57 (sc (setI (setI (setI (setI σ 49 (sc σ 48 9) x1) 50 (sc (setI σ 49 (sc σ 48 9) x1) 48 9) (x1 + x2)) 51 (sc (setI (setI σ 49 (sc σ 48 9) x1) 50 (sc (setI σ 49 (sc σ 48 9) x1) 48 9) (x1 + x2)) 48 9) ((bShl 1 (x1 + x2)) - (bShl 1 x1))) 52 (sc (setI (setI (setI σ 49 (sc σ 48 9) x1) 50 (sc (setI σ 49 (sc σ 48 9) x1) 48 9) (x1 + x2)) 51 (sc (setI (setI σ 49 (sc σ 48 9) x1) 50 (sc (setI σ 49 (sc σ 48 9) x1) 48 9) (x1 + x2)) 48 9) ((bShl 1 (x1 + x2)) - (bShl 1 x1))) 48 9) x3) 48 9) x4))) : Wb g ad d mX5_add Q 0 [some (.ref (ad 48)), some (vi x1), some (vi x2), some (vi x3), some (vi x4)] [] σ rc rs := by
  refine sb_aload_n (pc' := 1) rfl rfl dX5_add_0 ?_
  refine sb_getC (pc' := 4) rfl fc_48_0 wd_360 dX5_add_1 ?_
  refine sb_aload_n (pc' := 5) rfl rfl dX5_add_4 ?_
  refine sb_getI (pc' := 8) rfl fi_48_9 wd_388 dX5_add_5 ?_
  refine sb_iload_n (pc' := 9) rfl rfl dX5_add_8 ?_
  obtain ⟨o1, H⟩ := H
  refine sb_iast (pc' := 10) rfl aI_49 o1.1 o1.2  dX5_add_9 ?_
  refine sb_aload_n (pc' := 11) rfl rfl dX5_add_10 ?_
  refine sb_getC (pc' := 14) rfl fc_48_1 wd_363 dX5_add_11 ?_
  refine sb_aload_n (pc' := 15) rfl rfl dX5_add_14 ?_
  refine sb_getI (pc' := 18) rfl fi_48_9 wd_388 dX5_add_15 ?_
  refine sb_iload_n (pc' := 19) rfl rfl dX5_add_18 ?_
  refine sb_iload_n (pc' := 20) rfl rfl dX5_add_19 ?_
  refine sb_iadd (pc' := 21) rfl dX5_add_20 ?_
  obtain ⟨o2, H⟩ := H
  obtain ⟨o3, H⟩ := H
  refine sb_iast (pc' := 22) rfl aI_50 o2.1 o2.2  dX5_add_21 ?_
  refine sb_aload_n (pc' := 23) rfl rfl dX5_add_22 ?_
  refine sb_getC (pc' := 26) rfl fc_48_2 wd_368 dX5_add_23 ?_
  refine sb_aload_n (pc' := 27) rfl rfl dX5_add_26 ?_
  refine sb_getI (pc' := 30) rfl fi_48_9 wd_388 dX5_add_27 ?_
  refine sb_iconst (pc' := 31) rfl dX5_add_30 ?_
  refine sb_iload_n (pc' := 32) rfl rfl dX5_add_31 ?_
  refine sb_iload_n (pc' := 33) rfl rfl dX5_add_32 ?_
  refine sb_iadd (pc' := 34) rfl dX5_add_33 ?_
  refine sb_ishl (pc' := 35) rfl dX5_add_34 ?_
  refine sb_iconst (pc' := 36) rfl dX5_add_35 ?_
  refine sb_iload_n (pc' := 37) rfl rfl dX5_add_36 ?_
  refine sb_ishl (pc' := 38) rfl dX5_add_37 ?_
  refine sb_isub (pc' := 39) rfl dX5_add_38 ?_
  obtain ⟨o4, H⟩ := H
  obtain ⟨o5, H⟩ := H
  refine sb_iast (pc' := 40) rfl aI_51 o4.1 o4.2  dX5_add_39 ?_
  refine sb_aload_n (pc' := 41) rfl rfl dX5_add_40 ?_
  refine sb_getC (pc' := 44) rfl fc_48_3 wd_373 dX5_add_41 ?_
  refine sb_aload_n (pc' := 45) rfl rfl dX5_add_44 ?_
  refine sb_getI (pc' := 48) rfl fi_48_9 wd_388 dX5_add_45 ?_
  refine sb_iload_n (pc' := 49) rfl rfl dX5_add_48 ?_
  obtain ⟨o6, H⟩ := H
  refine sb_iast (pc' := 50) rfl aI_52 o6.1 o6.2  dX5_add_49 ?_
  refine sb_aload_n (pc' := 51) rfl rfl dX5_add_50 ?_
  refine sb_getC (pc' := 54) rfl fc_48_8 wd_386 dX5_add_51 ?_
  refine sb_aload_n (pc' := 55) rfl rfl dX5_add_54 ?_
  refine sb_getI (pc' := 58) rfl fi_48_9 wd_388 dX5_add_55 ?_
  refine sb_iload (pc' := 60) rfl rfl dX5_add_58 ?_
  obtain ⟨o7, H⟩ := H
  refine sb_iast (pc' := 61) rfl aI_57 o7.1 o7.2  dX5_add_60 ?_
  exact sb_vret rfl dX5_add_61 (H (SR_setI (SR_setI (SR_setI (SR_setI (SR_setI hS hx1) o3) o5) hx3) hx4))
theorem bX5_bring_0 {g : AG} {ad : Nat → Nat} {d : Nat} {Q : AO → SG → Prop} {rc rs : Nat} {σ : SG} {x2 x3 : Int} {c1 n1 : Nat} (hc1 : aI c1 n1) (hx2 : iR x2) (hx3 : iR x3) (hS : SR σ) (H : ((0 : Int) ≤ x2 ∧ (0 : Int) ≤ (sc σ 48 9) * 3 ∧ (0 : Int) ≤ x3 ∧ (x2 : Int) + x3 ≤ n1 ∧ ((sc σ 48 9) * 3 : Int) + x3 ≤ 558) ∧ 2 ≤ d ∧ (0 ≤ sc (setA σ 53 (cpy (ia σ c1) (ia σ 53) x2 ((sc σ 48 9) * 3) x3)) 48 9 ∧ sc (setA σ 53 (cpy (ia σ c1) (ia σ 53) x2 ((sc σ 48 9) * 3) x3)) 48 9 < 186) ∧ ((¬ x3 = 0 → (0 ≤ x2 ∧ x2 < n1) ∧ (0 ≤ sc (setI (setA σ 53 (cpy (ia σ c1) (ia σ 53) x2 ((sc σ 48 9) * 3) x3)) 54 (sc (setA σ 53 (cpy (ia σ c1) (ia σ 53) x2 ((sc σ 48 9) * 3) x3)) 48 9) x3) 48 9 ∧ sc (setI (setA σ 53 (cpy (ia σ c1) (ia σ 53) x2 ((sc σ 48 9) * 3) x3)) 54 (sc (setA σ 53 (cpy (ia σ c1) (ia σ 53) x2 ((sc σ 48 9) * 3) x3)) 48 9) x3) 48 9 < 186) ∧ ((¬ x3 = 0 → (0 ≤ (x2 + x3) - 1 ∧ (x2 + x3) - 1 < n1) ∧ (0 ≤ sc (setI (setI (setA σ 53 (cpy (ia σ c1) (ia σ 53) x2 ((sc σ 48 9) * 3) x3)) 54 (sc (setA σ 53 (cpy (ia σ c1) (ia σ 53) x2 ((sc σ 48 9) * 3) x3)) 48 9) x3) 55 (sc (setI (setA σ 53 (cpy (ia σ c1) (ia σ 53) x2 ((sc σ 48 9) * 3) x3)) 54 (sc (setA σ 53 (cpy (ia σ c1) (ia σ 53) x2 ((sc σ 48 9) * 3) x3)) 48 9) x3) 48 9) (ia (setI (setA σ 53 (cpy (ia σ c1) (ia σ 53) x2 ((sc σ 48 9) * 3) x3)) 54 (sc (setA σ 53 (cpy (ia σ c1) (ia σ 53) x2 ((sc σ 48 9) * 3) x3)) 48 9) x3) c1 x2)) 48 9 ∧ sc (setI (setI (setA σ 53 (cpy (ia σ c1) (ia σ 53) x2 ((sc σ 48 9) * 3) x3)) 54 (sc (setA σ 53 (cpy (ia σ c1) (ia σ 53) x2 ((sc σ 48 9) * 3) x3)) 48 9) x3) 55 (sc (setI (setA σ 53 (cpy (ia σ c1) (ia σ 53) x2 ((sc σ 48 9) * 3) x3)) 54 (sc (setA σ 53 (cpy (ia σ c1) (ia σ 53) x2 ((sc σ 48 9) * 3) x3)) 48 9) x3) 48 9) (ia (setI (setA σ 53 (cpy (ia σ c1) (ia σ 53) x2 ((sc σ 48 9) * 3) x3)) 54 (sc (setA σ 53 (cpy (ia σ c1) (ia σ 53) x2 ((sc σ 48 9) * 3) x3)) 48 9) x3) c1 x2)) 48 9 < 186) ∧ (iR x2 → iR x3 → iR 1 → SR (setI (setI (setI (setA σ 53 (cpy (ia σ c1) (ia σ 53) x2 ((sc σ 48 9) * 3) x3)) 54 (sc (setA σ 53 (cpy (ia σ c1) (ia σ 53) x2 ((sc σ 48 9) * 3) x3)) 48 9) x3) 55 (sc (setI (setA σ 53 (cpy (ia σ c1) (ia σ 53) x2 ((sc σ 48 9) * 3) x3)) 54 (sc (setA σ 53 (cpy (ia σ c1) (ia σ 53) x2 ((sc σ 48 9) * 3) x3)) 48 9) x3) 48 9) (ia (setI (setA σ 53 (cpy (ia σ c1) (ia σ 53) x2 ((sc σ 48 9) * 3) x3)) 54 (sc (setA σ 53 (cpy (ia σ c1) (ia σ 53) x2 ((sc σ 48 9) * 3) x3)) 48 9) x3) c1 x2)) 56 (sc (setI (setI (setA σ 53 (cpy (ia σ c1) (ia σ 53) x2 ((sc σ 48 9) * 3) x3)) 54 (sc (setA σ 53 (cpy (ia σ c1) (ia σ 53) x2 ((sc σ 48 9) * 3) x3)) 48 9) x3) 55 (sc (setI (setA σ 53 (cpy (ia σ c1) (ia σ 53) x2 ((sc σ 48 9) * 3) x3)) 54 (sc (setA σ 53 (cpy (ia σ c1) (ia σ 53) x2 ((sc σ 48 9) * 3) x3)) 48 9) x3) 48 9) (ia (setI (setA σ 53 (cpy (ia σ c1) (ia σ 53) x2 ((sc σ 48 9) * 3) x3)) 54 (sc (setA σ 53 (cpy (ia σ c1) (ia σ 53) x2 ((sc σ 48 9) * 3) x3)) 48 9) x3) c1 x2)) 48 9) (ia (setI (setI (setA σ 53 (cpy (ia σ c1) (ia σ 53) x2 ((sc σ 48 9) * 3) x3)) 54 (sc (setA σ 53 (cpy (ia σ c1) (ia σ 53) x2 ((sc σ 48 9) * 3) x3)) 48 9) x3) 55 (sc (setI (setA σ 53 (cpy (ia σ c1) (ia σ 53) x2 ((sc σ 48 9) * 3) x3)) 54 (sc (setA σ 53 (cpy (ia σ c1) (ia σ 53) x2 ((sc σ 48 9) * 3) x3)) 48 9) x3) 48 9) (ia (setI (setA σ 53 (cpy (ia σ c1) (ia σ 53) x2 ((sc σ 48 9) * 3) x3)) 54 (sc (setA σ 53 (cpy (ia σ c1) (ia σ 53) x2 ((sc σ 48 9) * 3) x3)) 48 9) x3) c1 x2)) c1 ((x2 + x3) - 1))) → Wb g ad d mX5_bring Q 73 [some (.ref (ad 48)), some (.ref (ad c1)), some (vi x2), some (vi x3), some (vi 1)] [] (setI (setI (setI (setA σ 53 (cpy (ia σ c1) (ia σ 53) x2 ((sc σ 48 9) * 3) x3)) 54 (sc (setA σ 53 (cpy (ia σ c1) (ia σ 53) x2 ((sc σ 48 9) * 3) x3)) 48 9) x3) 55 (sc (setI (setA σ 53 (cpy (ia σ c1) (ia σ 53) x2 ((sc σ 48 9) * 3) x3)) 54 (sc (setA σ 53 (cpy (ia σ c1) (ia σ 53) x2 ((sc σ 48 9) * 3) x3)) 48 9) x3) 48 9) (ia (setI (setA σ 53 (cpy (ia σ c1) (ia σ 53) x2 ((sc σ 48 9) * 3) x3)) 54 (sc (setA σ 53 (cpy (ia σ c1) (ia σ 53) x2 ((sc σ 48 9) * 3) x3)) 48 9) x3) c1 x2)) 56 (sc (setI (setI (setA σ 53 (cpy (ia σ c1) (ia σ 53) x2 ((sc σ 48 9) * 3) x3)) 54 (sc (setA σ 53 (cpy (ia σ c1) (ia σ 53) x2 ((sc σ 48 9) * 3) x3)) 48 9) x3) 55 (sc (setI (setA σ 53 (cpy (ia σ c1) (ia σ 53) x2 ((sc σ 48 9) * 3) x3)) 54 (sc (setA σ 53 (cpy (ia σ c1) (ia σ 53) x2 ((sc σ 48 9) * 3) x3)) 48 9) x3) 48 9) (ia (setI (setA σ 53 (cpy (ia σ c1) (ia σ 53) x2 ((sc σ 48 9) * 3) x3)) 54 (sc (setA σ 53 (cpy (ia σ c1) (ia σ 53) x2 ((sc σ 48 9) * 3) x3)) 48 9) x3) c1 x2)) 48 9) (ia (setI (setI (setA σ 53 (cpy (ia σ c1) (ia σ 53) x2 ((sc σ 48 9) * 3) x3)) 54 (sc (setA σ 53 (cpy (ia σ c1) (ia σ 53) x2 ((sc σ 48 9) * 3) x3)) 48 9) x3) 55 (sc (setI (setA σ 53 (cpy (ia σ c1) (ia σ 53) x2 ((sc σ 48 9) * 3) x3)) 54 (sc (setA σ 53 (cpy (ia σ c1) (ia σ 53) x2 ((sc σ 48 9) * 3) x3)) 48 9) x3) 48 9) (ia (setI (setA σ 53 (cpy (ia σ c1) (ia σ 53) x2 ((sc σ 48 9) * 3) x3)) 54 (sc (setA σ 53 (cpy (ia σ c1) (ia σ 53) x2 ((sc σ 48 9) * 3) x3)) 48 9) x3) c1 x2)) c1 ((x2 + x3) - 1))) rc rs)) ∧ (x3 = 0 → (0 ≤ sc (setI (setI (setA σ 53 (cpy (ia σ c1) (ia σ 53) x2 ((sc σ 48 9) * 3) x3)) 54 (sc (setA σ 53 (cpy (ia σ c1) (ia σ 53) x2 ((sc σ 48 9) * 3) x3)) 48 9) x3) 55 (sc (setI (setA σ 53 (cpy (ia σ c1) (ia σ 53) x2 ((sc σ 48 9) * 3) x3)) 54 (sc (setA σ 53 (cpy (ia σ c1) (ia σ 53) x2 ((sc σ 48 9) * 3) x3)) 48 9) x3) 48 9) (ia (setI (setA σ 53 (cpy (ia σ c1) (ia σ 53) x2 ((sc σ 48 9) * 3) x3)) 54 (sc (setA σ 53 (cpy (ia σ c1) (ia σ 53) x2 ((sc σ 48 9) * 3) x3)) 48 9) x3) c1 x2)) 48 9 ∧ sc (setI (setI (setA σ 53 (cpy (ia σ c1) (ia σ 53) x2 ((sc σ 48 9) * 3) x3)) 54 (sc (setA σ 53 (cpy (ia σ c1) (ia σ 53) x2 ((sc σ 48 9) * 3) x3)) 48 9) x3) 55 (sc (setI (setA σ 53 (cpy (ia σ c1) (ia σ 53) x2 ((sc σ 48 9) * 3) x3)) 54 (sc (setA σ 53 (cpy (ia σ c1) (ia σ 53) x2 ((sc σ 48 9) * 3) x3)) 48 9) x3) 48 9) (ia (setI (setA σ 53 (cpy (ia σ c1) (ia σ 53) x2 ((sc σ 48 9) * 3) x3)) 54 (sc (setA σ 53 (cpy (ia σ c1) (ia σ 53) x2 ((sc σ 48 9) * 3) x3)) 48 9) x3) c1 x2)) 48 9 < 186) ∧ (iR x2 → iR x3 → iR 1 → SR (setI (setI (setI (setA σ 53 (cpy (ia σ c1) (ia σ 53) x2 ((sc σ 48 9) * 3) x3)) 54 (sc (setA σ 53 (cpy (ia σ c1) (ia σ 53) x2 ((sc σ 48 9) * 3) x3)) 48 9) x3) 55 (sc (setI (setA σ 53 (cpy (ia σ c1) (ia σ 53) x2 ((sc σ 48 9) * 3) x3)) 54 (sc (setA σ 53 (cpy (ia σ c1) (ia σ 53) x2 ((sc σ 48 9) * 3) x3)) 48 9) x3) 48 9) (ia (setI (setA σ 53 (cpy (ia σ c1) (ia σ 53) x2 ((sc σ 48 9) * 3) x3)) 54 (sc (setA σ 53 (cpy (ia σ c1) (ia σ 53) x2 ((sc σ 48 9) * 3) x3)) 48 9) x3) c1 x2)) 56 (sc (setI (setI (setA σ 53 (cpy (ia σ c1) (ia σ 53) x2 ((sc σ 48 9) * 3) x3)) 54 (sc (setA σ 53 (cpy (ia σ c1) (ia σ 53) x2 ((sc σ 48 9) * 3) x3)) 48 9) x3) 55 (sc (setI (setA σ 53 (cpy (ia σ c1) (ia σ 53) x2 ((sc σ 48 9) * 3) x3)) 54 (sc (setA σ 53 (cpy (ia σ c1) (ia σ 53) x2 ((sc σ 48 9) * 3) x3)) 48 9) x3) 48 9) (ia (setI (setA σ 53 (cpy (ia σ c1) (ia σ 53) x2 ((sc σ 48 9) * 3) x3)) 54 (sc (setA σ 53 (cpy (ia σ c1) (ia σ 53) x2 ((sc σ 48 9) * 3) x3)) 48 9) x3) c1 x2)) 48 9) ((-1))) → Wb g ad d mX5_bring Q 73 [some (.ref (ad 48)), some (.ref (ad c1)), some (vi x2), some (vi x3), some (vi 1)] [] (setI (setI (setI (setA σ 53 (cpy (ia σ c1) (ia σ 53) x2 ((sc σ 48 9) * 3) x3)) 54 (sc (setA σ 53 (cpy (ia σ c1) (ia σ 53) x2 ((sc σ 48 9) * 3) x3)) 48 9) x3) 55 (sc (setI (setA σ 53 (cpy (ia σ c1) (ia σ 53) x2 ((sc σ 48 9) * 3) x3)) 54 (sc (setA σ 53 (cpy (ia σ c1) (ia σ 53) x2 ((sc σ 48 9) * 3) x3)) 48 9) x3) 48 9) (ia (setI (setA σ 53 (cpy (ia σ c1) (ia σ 53) x2 ((sc σ 48 9) * 3) x3)) 54 (sc (setA σ 53 (cpy (ia σ c1) (ia σ 53) x2 ((sc σ 48 9) * 3) x3)) 48 9) x3) c1 x2)) 56 (sc (setI (setI (setA σ 53 (cpy (ia σ c1) (ia σ 53) x2 ((sc σ 48 9) * 3) x3)) 54 (sc (setA σ 53 (cpy (ia σ c1) (ia σ 53) x2 ((sc σ 48 9) * 3) x3)) 48 9) x3) 55 (sc (setI (setA σ 53 (cpy (ia σ c1) (ia σ 53) x2 ((sc σ 48 9) * 3) x3)) 54 (sc (setA σ 53 (cpy (ia σ c1) (ia σ 53) x2 ((sc σ 48 9) * 3) x3)) 48 9) x3) 48 9) (ia (setI (setA σ 53 (cpy (ia σ c1) (ia σ 53) x2 ((sc σ 48 9) * 3) x3)) 54 (sc (setA σ 53 (cpy (ia σ c1) (ia σ 53) x2 ((sc σ 48 9) * 3) x3)) 48 9) x3) c1 x2)) 48 9) ((-1))) rc rs)))) ∧ (x3 = 0 → (0 ≤ sc (setI (setA σ 53 (cpy (ia σ c1) (ia σ 53) x2 ((sc σ 48 9) * 3) x3)) 54 (sc (setA σ 53 (cpy (ia σ c1) (ia σ 53) x2 ((sc σ 48 9) * 3) x3)) 48 9) x3) 48 9 ∧ sc (setI (setA σ 53 (cpy (ia σ c1) (ia σ 53) x2 ((sc σ 48 9) * 3) x3)) 54 (sc (setA σ 53 (cpy (ia σ c1) (ia σ 53) x2 ((sc σ 48 9) * 3) x3)) 48 9) x3) 48 9 < 186) ∧ ((¬ x3 = 0 → (0 ≤ (x2 + x3) - 1 ∧ (x2 + x3) - 1 < n1) ∧ (0 ≤ sc (setI (setI (setA σ 53 (cpy (ia σ c1) (ia σ 53) x2 ((sc σ 48 9) * 3) x3)) 54 (sc (setA σ 53 (cpy (ia σ c1) (ia σ 53) x2 ((sc σ 48 9) * 3) x3)) 48 9) x3) 55 (sc (setI (setA σ 53 (cpy (ia σ c1) (ia σ 53) x2 ((sc σ 48 9) * 3) x3)) 54 (sc (setA σ 53 (cpy (ia σ c1) (ia σ 53) x2 ((sc σ 48 9) * 3) x3)) 48 9) x3) 48 9) ((-1))) 48 9 ∧ sc (setI (setI (setA σ 53 (cpy (ia σ c1) (ia σ 53) x2 ((sc σ 48 9) * 3) x3)) 54 (sc (setA σ 53 (cpy (ia σ c1) (ia σ 53) x2 ((sc σ 48 9) * 3) x3)) 48 9) x3) 55 (sc (setI (setA σ 53 (cpy (ia σ c1) (ia σ 53) x2 ((sc σ 48 9) * 3) x3)) 54 (sc (setA σ 53 (cpy (ia σ c1) (ia σ 53) x2 ((sc σ 48 9) * 3) x3)) 48 9) x3) 48 9) ((-1))) 48 9 < 186) ∧ (iR x2 → iR x3 → iR 1 → SR (setI (setI (setI (setA σ 53 (cpy (ia σ c1) (ia σ 53) x2 ((sc σ 48 9) * 3) x3)) 54 (sc (setA σ 53 (cpy (ia σ c1) (ia σ 53) x2 ((sc σ 48 9) * 3) x3)) 48 9) x3) 55 (sc (setI (setA σ 53 (cpy (ia σ c1) (ia σ 53) x2 ((sc σ 48 9) * 3) x3)) 54 (sc (setA σ 53 (cpy (ia σ c1) (ia σ 53) x2 ((sc σ 48 9) * 3) x3)) 48 9) x3) 48 9) ((-1))) 56 (sc (setI (setI (setA σ 53 (cpy (ia σ c1) (ia σ 53) x2 ((sc σ 48 9) * 3) x3)) 54 (sc (setA σ 53 (cpy (ia σ c1) (ia σ 53) x2 ((sc σ 48 9) * 3) x3)) 48 9) x3) 55 (sc (setI (setA σ 53 (cpy (ia σ c1) (ia σ 53) x2 ((sc σ 48 9) * 3) x3)) 54 (sc (setA σ 53 (cpy (ia σ c1) (ia σ 53) x2 ((sc σ 48 9) * 3) x3)) 48 9) x3) 48 9) ((-1))) 48 9) (ia (setI (setI (setA σ 53 (cpy (ia σ c1) (ia σ 53) x2 ((sc σ 48 9) * 3) x3)) 54 (sc (setA σ 53 (cpy (ia σ c1) (ia σ 53) x2 ((sc σ 48 9) * 3) x3)) 48 9) x3) 55 (sc (setI (setA σ 53 (cpy (ia σ c1) (ia σ 53) x2 ((sc σ 48 9) * 3) x3)) 54 (sc (setA σ 53 (cpy (ia σ c1) (ia σ 53) x2 ((sc σ 48 9) * 3) x3)) 48 9) x3) 48 9) ((-1))) c1 ((x2 + x3) - 1))) → Wb g ad d mX5_bring Q 73 [some (.ref (ad 48)), some (.ref (ad c1)), some (vi x2), some (vi x3), some (vi 1)] [] (setI (setI (setI (setA σ 53 (cpy (ia σ c1) (ia σ 53) x2 ((sc σ 48 9) * 3) x3)) 54 (sc (setA σ 53 (cpy (ia σ c1) (ia σ 53) x2 ((sc σ 48 9) * 3) x3)) 48 9) x3) 55 (sc (setI (setA σ 53 (cpy (ia σ c1) (ia σ 53) x2 ((sc σ 48 9) * 3) x3)) 54 (sc (setA σ 53 (cpy (ia σ c1) (ia σ 53) x2 ((sc σ 48 9) * 3) x3)) 48 9) x3) 48 9) ((-1))) 56 (sc (setI (setI (setA σ 53 (cpy (ia σ c1) (ia σ 53) x2 ((sc σ 48 9) * 3) x3)) 54 (sc (setA σ 53 (cpy (ia σ c1) (ia σ 53) x2 ((sc σ 48 9) * 3) x3)) 48 9) x3) 55 (sc (setI (setA σ 53 (cpy (ia σ c1) (ia σ 53) x2 ((sc σ 48 9) * 3) x3)) 54 (sc (setA σ 53 (cpy (ia σ c1) (ia σ 53) x2 ((sc σ 48 9) * 3) x3)) 48 9) x3) 48 9) ((-1))) 48 9) (ia (setI (setI (setA σ 53 (cpy (ia σ c1) (ia σ 53) x2 ((sc σ 48 9) * 3) x3)) 54 (sc (setA σ 53 (cpy (ia σ c1) (ia σ 53) x2 ((sc σ 48 9) * 3) x3)) 48 9) x3) 55 (sc (setI (setA σ 53 (cpy (ia σ c1) (ia σ 53) x2 ((sc σ 48 9) * 3) x3)) 54 (sc (setA σ 53 (cpy (ia σ c1) (ia σ 53) x2 ((sc σ 48 9) * 3) x3)) 48 9) x3) 48 9) ((-1))) c1 ((x2 + x3) - 1))) rc rs)) ∧ (x3 = 0 → (0 ≤ sc (setI (setI (setA σ 53 (cpy (ia σ c1) (ia σ 53) x2 ((sc σ 48 9) * 3) x3)) 54 (sc (setA σ 53 (cpy (ia σ c1) (ia σ 53) x2 ((sc σ 48 9) * 3) x3)) 48 9) x3) 55 (sc (setI (setA σ 53 (cpy (ia σ c1) (ia σ 53) x2 ((sc σ 48 9) * 3) x3)) 54 (sc (setA σ 53 (cpy (ia σ c1) (ia σ 53) x2 ((sc σ 48 9) * 3) x3)) 48 9) x3) 48 9) ((-1))) 48 9 ∧ sc (setI (setI (setA σ 53 (cpy (ia σ c1) (ia σ 53) x2 ((sc σ 48 9) * 3) x3)) 54 (sc (setA σ 53 (cpy (ia σ c1) (ia σ 53) x2 ((sc σ 48 9) * 3) x3)) 48 9) x3) 55 (sc (setI (setA σ 53 (cpy (ia σ c1) (ia σ 53) x2 ((sc σ 48 9) * 3) x3)) 54 (sc (setA σ 53 (cpy (ia σ c1) (ia σ 53) x2 ((sc σ 48 9) * 3) x3)) 48 9) x3) 48 9) ((-1))) 48 9 < 186) ∧ (iR x2 → iR x3 → iR 1 → SR (setI (setI (setI (setA σ 53 (cpy (ia σ c1) (ia σ 53) x2 ((sc σ 48 9) * 3) x3)) 54 (sc (setA σ 53 (cpy (ia σ c1) (ia σ 53) x2 ((sc σ 48 9) * 3) x3)) 48 9) x3) 55 (sc (setI (setA σ 53 (cpy (ia σ c1) (ia σ 53) x2 ((sc σ 48 9) * 3) x3)) 54 (sc (setA σ 53 (cpy (ia σ c1) (ia σ 53) x2 ((sc σ 48 9) * 3) x3)) 48 9) x3) 48 9) ((-1))) 56 (sc (setI (setI (setA σ 53 (cpy (ia σ c1) (ia σ 53) x2 ((sc σ 48 9) * 3) x3)) 54 (sc (setA σ 53 (cpy (ia σ c1) (ia σ 53) x2 ((sc σ 48 9) * 3) x3)) 48 9) x3) 55 (sc (setI (setA σ 53 (cpy (ia σ c1) (ia σ 53) x2 ((sc σ 48 9) * 3) x3)) 54 (sc (setA σ 53 (cpy (ia σ c1) (ia σ 53) x2 ((sc σ 48 9) * 3) x3)) 48 9) x3) 48 9) ((-1))) 48 9) ((-1))) → Wb g ad d mX5_bring Q 73 [some (.ref (ad 48)), some (.ref (ad c1)), some (vi x2), some (vi x3), some (vi 1)] [] (setI (setI (setI (setA σ 53 (cpy (ia σ c1) (ia σ 53) x2 ((sc σ 48 9) * 3) x3)) 54 (sc (setA σ 53 (cpy (ia σ c1) (ia σ 53) x2 ((sc σ 48 9) * 3) x3)) 48 9) x3) 55 (sc (setI (setA σ 53 (cpy (ia σ c1) (ia σ 53) x2 ((sc σ 48 9) * 3) x3)) 54 (sc (setA σ 53 (cpy (ia σ c1) (ia σ 53) x2 ((sc σ 48 9) * 3) x3)) 48 9) x3) 48 9) ((-1))) 56 (sc (setI (setI (setA σ 53 (cpy (ia σ c1) (ia σ 53) x2 ((sc σ 48 9) * 3) x3)) 54 (sc (setA σ 53 (cpy (ia σ c1) (ia σ 53) x2 ((sc σ 48 9) * 3) x3)) 48 9) x3) 55 (sc (setI (setA σ 53 (cpy (ia σ c1) (ia σ 53) x2 ((sc σ 48 9) * 3) x3)) 54 (sc (setA σ 53 (cpy (ia σ c1) (ia σ 53) x2 ((sc σ 48 9) * 3) x3)) 48 9) x3) 48 9) ((-1))) 48 9) ((-1))) rc rs)))))) : Wb g ad d mX5_bring Q 0 [some (.ref (ad 48)), some (.ref (ad c1)), some (vi x2), some (vi x3), none] [] σ rc rs := by
  refine sb_aload_n (pc' := 1) rfl rfl dX5_bring_0 ?_
  refine sb_iload_n (pc' := 2) rfl rfl dX5_bring_1 ?_
  refine sb_aload_n (pc' := 3) rfl rfl dX5_bring_2 ?_
  refine sb_getC (pc' := 6) rfl fc_48_4 wd_376 dX5_bring_3 ?_
  refine sb_aload_n (pc' := 7) rfl rfl dX5_bring_6 ?_
  refine sb_getI (pc' := 10) rfl fi_48_9 wd_388 dX5_bring_7 ?_
  refine sb_iconst (pc' := 11) rfl dX5_bring_10 ?_
  refine sb_imul (pc' := 12) rfl dX5_bring_11 ?_
  refine sb_iload_n (pc' := 13) rfl rfl dX5_bring_12 ?_
  obtain ⟨o1, H⟩ := H
  obtain ⟨o2, H⟩ := H
  refine sb_copy (pc' := 16) rfl hc1 aI_53 o1 (Nat.le_of_ble_eq_true rfl) o2 wd_731 dX5_bring_13 ?_
  refine sb_aload_n (pc' := 17) rfl rfl dX5_bring_16 ?_
  refine sb_getC (pc' := 20) rfl fc_48_5 wd_379 dX5_bring_17 ?_
  refine sb_aload_n (pc' := 21) rfl rfl dX5_bring_20 ?_
  refine sb_getI (pc' := 24) rfl fi_48_9 wd_388 dX5_bring_21 ?_
  refine sb_iload_n (pc' := 25) rfl rfl dX5_bring_24 ?_
  obtain ⟨o3, H⟩ := H
  refine sb_iast (pc' := 26) rfl aI_54 o3.1 o3.2  dX5_bring_25 ?_
  refine sb_aload_n (pc' := 27) rfl rfl dX5_bring_26 ?_
  refine sb_getC (pc' := 30) rfl fc_48_6 wd_382 dX5_bring_27 ?_
  refine sb_aload_n (pc' := 31) rfl rfl dX5_bring_30 ?_
  refine sb_getI (pc' := 34) rfl fi_48_9 wd_388 dX5_bring_31 ?_
  refine sb_iload_n (pc' := 35) rfl rfl dX5_bring_34 ?_
  refine sb_if_ne (pc' := 38) (tgt := 42) rfl (by decide) hx3 dX5_bring_35 ?_ ?_
  · intro cc; have H := H.1 cc
    refine sb_aload_n (pc' := 43) rfl rfl dX5_bring_42 ?_
    refine sb_iload_n (pc' := 44) rfl rfl dX5_bring_43 ?_
    obtain ⟨o4, H⟩ := H
    refine sb_iald (pc' := 45) rfl hc1 o4.1 o4.2 dX5_bring_44 ?_
    obtain ⟨o5, H⟩ := H
    refine sb_iast (pc' := 46) rfl aI_55 o5.1 o5.2  dX5_bring_45 ?_
    refine sb_aload_n (pc' := 47) rfl rfl dX5_bring_46 ?_
    refine sb_getC (pc' := 50) rfl fc_48_7 wd_383 dX5_bring_47 ?_
    refine sb_aload_n (pc' := 51) rfl rfl dX5_bring_50 ?_
    refine sb_getI (pc' := 54) rfl fi_48_9 wd_388 dX5_bring_51 ?_
    refine sb_iload_n (pc' := 55) rfl rfl dX5_bring_54 ?_
    refine sb_if_ne (pc' := 58) (tgt := 62) rfl (by decide) hx3 dX5_bring_55 ?_ ?_
    · intro cc; have H := H.1 cc
      refine sb_aload_n (pc' := 63) rfl rfl dX5_bring_62 ?_
      refine sb_iload_n (pc' := 64) rfl rfl dX5_bring_63 ?_
      refine sb_iload_n (pc' := 65) rfl rfl dX5_bring_64 ?_
      refine sb_iadd (pc' := 66) rfl dX5_bring_65 ?_
      refine sb_iconst (pc' := 67) rfl dX5_bring_66 ?_
      refine sb_isub (pc' := 68) rfl dX5_bring_67 ?_
      obtain ⟨o6, H⟩ := H
      refine sb_iald (pc' := 69) rfl hc1 o6.1 o6.2 dX5_bring_68 ?_
      obtain ⟨o7, H⟩ := H
      refine sb_iast (pc' := 70) rfl aI_56 o7.1 o7.2  dX5_bring_69 ?_
      refine sb_iconst (pc' := 71) rfl dX5_bring_70 ?_
      refine sb_istore (pc' := 73) rfl (L' := [some (.ref (ad 48)), some (.ref (ad c1)), some (vi x2), some (vi x3), some (vi 1)]) rfl (by decide) dX5_bring_71 ?_
      exact (H hx2 hx3 (iR_lit rfl) (SR_setI (SR_setI (SR_setI (SR_cpy hS) hx3) (SR_ia (SR_setI (SR_cpy hS) hx3) _ _)) (SR_ia (SR_setI (SR_setI (SR_cpy hS) hx3) (SR_ia (SR_setI (SR_cpy hS) hx3) _ _)) _ _)))
    · intro cc; have H := H.2 cc
      refine sb_iconst (pc' := 59) rfl dX5_bring_58 ?_
      refine sb_goto (tgt := 69) (by decide) dX5_bring_59 ?_
      obtain ⟨o8, H⟩ := H
      refine sb_iast (pc' := 70) rfl aI_56 o8.1 o8.2  dX5_bring_69 ?_
      refine sb_iconst (pc' := 71) rfl dX5_bring_70 ?_
      refine sb_istore (pc' := 73) rfl (L' := [some (.ref (ad 48)), some (.ref (ad c1)), some (vi x2), some (vi x3), some (vi 1)]) rfl (by decide) dX5_bring_71 ?_
      exact (H hx2 hx3 (iR_lit rfl) (SR_setI (SR_setI (SR_setI (SR_cpy hS) hx3) (SR_ia (SR_setI (SR_cpy hS) hx3) _ _)) (iR_lit rfl)))
  · intro cc; have H := H.2 cc
    refine sb_iconst (pc' := 39) rfl dX5_bring_38 ?_
    refine sb_goto (tgt := 45) (by decide) dX5_bring_39 ?_
    obtain ⟨o9, H⟩ := H
    refine sb_iast (pc' := 46) rfl aI_55 o9.1 o9.2  dX5_bring_45 ?_
    refine sb_aload_n (pc' := 47) rfl rfl dX5_bring_46 ?_
    refine sb_getC (pc' := 50) rfl fc_48_7 wd_383 dX5_bring_47 ?_
    refine sb_aload_n (pc' := 51) rfl rfl dX5_bring_50 ?_
    refine sb_getI (pc' := 54) rfl fi_48_9 wd_388 dX5_bring_51 ?_
    refine sb_iload_n (pc' := 55) rfl rfl dX5_bring_54 ?_
    refine sb_if_ne (pc' := 58) (tgt := 62) rfl (by decide) hx3 dX5_bring_55 ?_ ?_
    · intro cc; have H := H.1 cc
      refine sb_aload_n (pc' := 63) rfl rfl dX5_bring_62 ?_
      refine sb_iload_n (pc' := 64) rfl rfl dX5_bring_63 ?_
      refine sb_iload_n (pc' := 65) rfl rfl dX5_bring_64 ?_
      refine sb_iadd (pc' := 66) rfl dX5_bring_65 ?_
      refine sb_iconst (pc' := 67) rfl dX5_bring_66 ?_
      refine sb_isub (pc' := 68) rfl dX5_bring_67 ?_
      obtain ⟨o10, H⟩ := H
      refine sb_iald (pc' := 69) rfl hc1 o10.1 o10.2 dX5_bring_68 ?_
      obtain ⟨o11, H⟩ := H
      refine sb_iast (pc' := 70) rfl aI_56 o11.1 o11.2  dX5_bring_69 ?_
      refine sb_iconst (pc' := 71) rfl dX5_bring_70 ?_
      refine sb_istore (pc' := 73) rfl (L' := [some (.ref (ad 48)), some (.ref (ad c1)), some (vi x2), some (vi x3), some (vi 1)]) rfl (by decide) dX5_bring_71 ?_
      exact (H hx2 hx3 (iR_lit rfl) (SR_setI (SR_setI (SR_setI (SR_cpy hS) hx3) (iR_lit rfl)) (SR_ia (SR_setI (SR_setI (SR_cpy hS) hx3) (iR_lit rfl)) _ _)))
    · intro cc; have H := H.2 cc
      refine sb_iconst (pc' := 59) rfl dX5_bring_58 ?_
      refine sb_goto (tgt := 69) (by decide) dX5_bring_59 ?_
      obtain ⟨o12, H⟩ := H
      refine sb_iast (pc' := 70) rfl aI_56 o12.1 o12.2  dX5_bring_69 ?_
      refine sb_iconst (pc' := 71) rfl dX5_bring_70 ?_
      refine sb_istore (pc' := 73) rfl (L' := [some (.ref (ad 48)), some (.ref (ad c1)), some (vi x2), some (vi x3), some (vi 1)]) rfl (by decide) dX5_bring_71 ?_
      exact (H hx2 hx3 (iR_lit rfl) (SR_setI (SR_setI (SR_setI (SR_cpy hS) hx3) (iR_lit rfl)) (iR_lit rfl)))
theorem bX5_bring_73 {g : AG} {ad : Nat → Nat} {d : Nat} {Q : AO → SG → Prop} {rc rs : Nat} {σ : SG} {x2 x3 x4 : Int} {c1 n1 : Nat} (hc1 : aI c1 n1) (hx2 : iR x2) (hx3 : iR x3) (hx4 : iR x4) (hS : SR σ) (H : ((x3 ≤ x4 → iR ((sc σ 48 9) + 1) ∧ (SR (setS σ 48 9 ((sc σ 48 9) + 1)) → Q (.inl none) (setS σ 48 9 ((sc σ 48 9) + 1)))) ∧ (¬ x3 ≤ x4 → (0 ≤ sc σ 48 9 ∧ sc σ 48 9 < 186) ∧ isK (rv σ 48 11) ∧ (0 ≤ (x2 + x4) - 1 ∧ (x2 + x4) - 1 < n1) ∧ (0 ≤ x2 + x4 ∧ x2 + x4 < n1) ∧ Cl g ad d mX2_flow 0 0 [(.ref (ad (rv σ 48 11))), (vi (ia σ c1 ((x2 + x4) - 1))), (vi (ia σ c1 (x2 + x4)))] σ (Ki fun r6 s6 => iR ((ia σ 57 (sc σ 48 9)) + r6) ∧ iR (x4 + 1) ∧ (iR x2 → iR x3 → iR (x4 + 1) → SR (setI s6 57 (sc σ 48 9) ((ia σ 57 (sc σ 48 9)) + r6)) → Wb g ad d mX5_bring Q 73 [some (.ref (ad 48)), some (.ref (ad c1)), some (vi x2), some (vi x3), some (vi (x4 + 1))] [] (setI s6 57 (sc σ 48 9) ((ia σ 57 (sc σ 48 9)) + r6)) rc rs))))) : Wb g ad d mX5_bring Q 73 [some (.ref (ad 48)), some (.ref (ad c1)), some (vi x2), some (vi x3), some (vi x4)] [] σ rc rs := by
  refine sb_iload (pc' := 75) rfl rfl dX5_bring_73 ?_
  refine sb_iload_n (pc' := 76) rfl rfl dX5_bring_75 ?_
  refine sb_icmp_ge (pc' := 79) (tgt := 118) rfl (by decide) hx4 hx3 dX5_bring_76 ?_ ?_
  · intro cc; have H := H.1 cc
    refine sb_aload_n (pc' := 119) rfl rfl dX5_bring_118 ?_
    refine sb_dup (pc' := 120) rfl rfl dX5_bring_119 ?_
    refine sb_getI (pc' := 123) rfl fi_48_9 wd_388 dX5_bring_120 ?_
    refine sb_iconst (pc' := 124) rfl dX5_bring_123 ?_
    refine sb_iadd (pc' := 125) rfl dX5_bring_124 ?_
    obtain ⟨o1, H⟩ := H
    refine sb_putI (pc' := 128) rfl fi_48_9 (Or.inl rfl) wd_388 dX5_bring_125 ?_
    exact sb_vret rfl dX5_bring_128 (H (SR_setS hS o1))
  · intro cc; have H := H.2 cc
    refine sb_aload_n (pc' := 80) rfl rfl dX5_bring_79 ?_
    refine sb_getC (pc' := 83) rfl fc_48_8 wd_386 dX5_bring_80 ?_
    refine sb_aload_n (pc' := 84) rfl rfl dX5_bring_83 ?_
    refine sb_getI (pc' := 87) rfl fi_48_9 wd_388 dX5_bring_84 ?_
    refine sb_dup2 (pc' := 88) rfl rfl rfl dX5_bring_87 ?_
    obtain ⟨o2, H⟩ := H
    refine sb_iald (pc' := 89) rfl aI_57 o2.1 o2.2 dX5_bring_88 ?_
    refine sb_aload_n (pc' := 90) rfl rfl dX5_bring_89 ?_
    obtain ⟨o3, H⟩ := H
    refine sb_getR (pc' := 93) rfl fr_48_11 wd_398 dX5_bring_90 ?_
    refine sb_aload_n (pc' := 94) rfl rfl dX5_bring_93 ?_
    refine sb_iload_n (pc' := 95) rfl rfl dX5_bring_94 ?_
    refine sb_iload (pc' := 97) rfl rfl dX5_bring_95 ?_
    refine sb_iadd (pc' := 98) rfl dX5_bring_97 ?_
    refine sb_iconst (pc' := 99) rfl dX5_bring_98 ?_
    refine sb_isub (pc' := 100) rfl dX5_bring_99 ?_
    obtain ⟨o4, H⟩ := H
    refine sb_iald (pc' := 101) rfl hc1 o4.1 o4.2 dX5_bring_100 ?_
    refine sb_aload_n (pc' := 102) rfl rfl dX5_bring_101 ?_
    refine sb_iload_n (pc' := 103) rfl rfl dX5_bring_102 ?_
    refine sb_iload (pc' := 105) rfl rfl dX5_bring_103 ?_
    refine sb_iadd (pc' := 106) rfl dX5_bring_105 ?_
    obtain ⟨o5, H⟩ := H
    refine sb_iald (pc' := 107) rfl hc1 o5.1 o5.2 dX5_bring_106 ?_
    obtain ⟨d6, hd6, H⟩ := H
    refine sb_callVN (pc' := 110) rfl rfl (rc := rc) (rs := rs) (mc' := 0) (ms' := 0) (As := [(vi (ia σ c1 ((x2 + x4) - 1))), (vi (ia σ c1 (x2 + x4)))]) (st := [(vi (ia σ 57 (sc σ 48 9))), (vi (sc σ 48 9)), (.ref (ad 57))]) (ofK o3) rfl rfl (Nat.le_of_ble_eq_true rfl) hd6 kX2_flow ⟨wd_734, wd_736, wd_6⟩ dX5_bring_107 (Eb.mono H ?_)
    rintro o s6 ⟨r6, rfl, hr6, hs6, H⟩
    show Wb g ad d mX5_bring Q 110 [some (.ref (ad 48)), some (.ref (ad c1)), some (vi x2), some (vi x3), some (vi x4)] [(vi r6), (vi (ia σ 57 (sc σ 48 9))), (vi (sc σ 48 9)), (.ref (ad 57))] s6 rc rs
    refine sb_iadd (pc' := 111) rfl dX5_bring_110 ?_
    obtain ⟨o7, H⟩ := H
    refine sb_iast (pc' := 112) rfl aI_57 o2.1 o2.2  dX5_bring_111 ?_
    refine sb_iinc (pc' := 115) rfl rfl (L' := [some (.ref (ad 48)), some (.ref (ad c1)), some (vi x2), some (vi x3), some (vi (x4 + 1))]) rfl (by decide) dX5_bring_112 ?_
    refine sb_goto (tgt := 73) (by decide) dX5_bring_115 ?_
    obtain ⟨o8, H⟩ := H
    exact (H hx2 hx3 o8 (SR_setI hs6 o7))
theorem bX5_howOften_0 {g : AG} {ad : Nat → Nat} {d : Nat} {Q : AO → SG → Prop} {rc rs : Nat} {σ : SG} {x1 : Int}  (hx1 : iR x1) (hS : SR σ) (H : (iR x1 → iR 0 → iR 0 → SR σ → Wb g ad d mX5_howOften Q 4 [some (.ref (ad 48)), some (vi x1), some (vi 0), some (vi 0)] [] σ rc rs)) : Wb g ad d mX5_howOften Q 0 [some (.ref (ad 48)), some (vi x1), none, none] [] σ rc rs := by
  refine sb_iconst (pc' := 1) rfl dX5_howOften_0 ?_
  refine sb_istore_n (pc' := 2) rfl (L' := [some (.ref (ad 48)), some (vi x1), some (vi 0), none]) rfl (by decide) dX5_howOften_1 ?_
  refine sb_iconst (pc' := 3) rfl dX5_howOften_2 ?_
  refine sb_istore_n (pc' := 4) rfl (L' := [some (.ref (ad 48)), some (vi x1), some (vi 0), some (vi 0)]) rfl (by decide) dX5_howOften_3 ?_
  exact (H hx1 (iR_lit rfl) (iR_lit rfl) hS)
theorem bX5_howOften_4 {g : AG} {ad : Nat → Nat} {d : Nat} {Q : AO → SG → Prop} {rc rs : Nat} {σ : SG} {x1 x2 x3 : Int}  (hx1 : iR x1) (hx2 : iR x2) (hx3 : iR x3) (hS : SR σ) (H : (((sc σ 48 9) ≤ x3 → (iR x2 → SR σ → Q (.inl (some (vi x2))) σ)) ∧ (¬ (sc σ 48 9) ≤ x3 → (0 ≤ x3 ∧ x3 < 186) ∧ ((¬ (ia σ 52 x3) = x1 → iR (x2 + 0) ∧ iR (x3 + 1) ∧ (iR x1 → iR (x2 + 0) → iR (x3 + 1) → SR σ → Wb g ad d mX5_howOften Q 4 [some (.ref (ad 48)), some (vi x1), some (vi (x2 + 0)), some (vi (x3 + 1))] [] σ rc rs)) ∧ ((ia σ 52 x3) = x1 → iR (x2 + 1) ∧ iR (x3 + 1) ∧ (iR x1 → iR (x2 + 1) → iR (x3 + 1) → SR σ → Wb g ad d mX5_howOften Q 4 [some (.ref (ad 48)), some (vi x1), some (vi (x2 + 1)), some (vi (x3 + 1))] [] σ rc rs)))))) : Wb g ad d mX5_howOften Q 4 [some (.ref (ad 48)), some (vi x1), some (vi x2), some (vi x3)] [] σ rc rs := by
  refine sb_iload_n (pc' := 5) rfl rfl dX5_howOften_4 ?_
  refine sb_aload_n (pc' := 6) rfl rfl dX5_howOften_5 ?_
  refine sb_getI (pc' := 9) rfl fi_48_9 wd_388 dX5_howOften_6 ?_
  refine sb_icmp_ge (pc' := 12) (tgt := 36) rfl (by decide) hx3 (SR_sc hS _ _) dX5_howOften_9 ?_ ?_
  · intro cc; have H := H.1 cc
    refine sb_iload_n (pc' := 37) rfl rfl dX5_howOften_36 ?_
    exact sb_iret rfl rfl dX5_howOften_37 (H hx2 hS)
  · intro cc; have H := H.2 cc
    refine sb_iload_n (pc' := 13) rfl rfl dX5_howOften_12 ?_
    refine sb_aload_n (pc' := 14) rfl rfl dX5_howOften_13 ?_
    refine sb_getC (pc' := 17) rfl fc_48_3 wd_373 dX5_howOften_14 ?_
    refine sb_iload_n (pc' := 18) rfl rfl dX5_howOften_17 ?_
    obtain ⟨o1, H⟩ := H
    refine sb_iald (pc' := 19) rfl aI_52 o1.1 o1.2 dX5_howOften_18 ?_
    refine sb_iload_n (pc' := 20) rfl rfl dX5_howOften_19 ?_
    refine sb_icmp_ne (pc' := 23) (tgt := 27) rfl (by decide) (SR_ia hS _ _) hx1 dX5_howOften_20 ?_ ?_
    · intro cc; have H := H.1 cc
      refine sb_iconst (pc' := 28) rfl dX5_howOften_27 ?_
      refine sb_iadd (pc' := 29) rfl dX5_howOften_28 ?_
      refine sb_istore_n (pc' := 30) rfl (L' := [some (.ref (ad 48)), some (vi x1), some (vi (x2 + 0)), some (vi x3)]) rfl (by decide) dX5_howOften_29 ?_
      refine sb_iinc (pc' := 33) rfl rfl (L' := [some (.ref (ad 48)), some (vi x1), some (vi (x2 + 0)), some (vi (x3 + 1))]) rfl (by decide) dX5_howOften_30 ?_
      refine sb_goto (tgt := 4) (by decide) dX5_howOften_33 ?_
      obtain ⟨o2, H⟩ := H
      obtain ⟨o3, H⟩ := H
      exact (H hx1 o2 o3 hS)
    · intro cc; have H := H.2 cc
      refine sb_iconst (pc' := 24) rfl dX5_howOften_23 ?_
      refine sb_goto (tgt := 28) (by decide) dX5_howOften_24 ?_
      refine sb_iadd (pc' := 29) rfl dX5_howOften_28 ?_
      refine sb_istore_n (pc' := 30) rfl (L' := [some (.ref (ad 48)), some (vi x1), some (vi (x2 + 1)), some (vi x3)]) rfl (by decide) dX5_howOften_29 ?_
      refine sb_iinc (pc' := 33) rfl rfl (L' := [some (.ref (ad 48)), some (vi x1), some (vi (x2 + 1)), some (vi (x3 + 1))]) rfl (by decide) dX5_howOften_30 ?_
      refine sb_goto (tgt := 4) (by decide) dX5_howOften_33 ?_
      obtain ⟨o4, H⟩ := H
      obtain ⟨o5, H⟩ := H
      exact (H hx1 o4 o5 hS)
theorem bX5_numberAt_0 {g : AG} {ad : Nat → Nat} {d : Nat} {Q : AO → SG → Prop} {rc rs : Nat} {σ : SG} {x1 x2 : Int}  (hx1 : iR x1) (hx2 : iR x2) (hS : SR σ) (H : (iR x1 → iR x2 → iR 0 → iR 0 → SR σ → Wb g ad d mX5_numberAt Q 5 [some (.ref (ad 48)), some (vi x1), some (vi x2), some (vi 0), some (vi 0)] [] σ rc rs)) : Wb g ad d mX5_numberAt Q 0 [some (.ref (ad 48)), some (vi x1), some (vi x2), none, none] [] σ rc rs := by
  refine sb_iconst (pc' := 1) rfl dX5_numberAt_0 ?_
  refine sb_istore_n (pc' := 2) rfl (L' := [some (.ref (ad 48)), some (vi x1), some (vi x2), some (vi 0), none]) rfl (by decide) dX5_numberAt_1 ?_
  refine sb_iconst (pc' := 3) rfl dX5_numberAt_2 ?_
  refine sb_istore (pc' := 5) rfl (L' := [some (.ref (ad 48)), some (vi x1), some (vi x2), some (vi 0), some (vi 0)]) rfl (by decide) dX5_numberAt_3 ?_
  exact (H hx1 hx2 (iR_lit rfl) (iR_lit rfl) hS)
theorem bX5_numberAt_5 {g : AG} {ad : Nat → Nat} {d : Nat} {Q : AO → SG → Prop} {rc rs : Nat} {σ : SG} {x1 x2 x3 x4 : Int}  (hx1 : iR x1) (hx2 : iR x2) (hx3 : iR x3) (hx4 : iR x4) (hS : SR σ) (H : (((sc σ 48 9) ≤ x4 → (iR ((-1)) → SR σ → Q (.inl (some (vi ((-1))))) σ)) ∧ (¬ (sc σ 48 9) ≤ x4 → (0 ≤ x4 ∧ x4 < 186) ∧ ((¬ (ia σ 49 x4) = x1 → iR (x4 + 1) ∧ (iR x1 → iR x2 → iR x3 → iR (x4 + 1) → SR σ → Wb g ad d mX5_numberAt Q 5 [some (.ref (ad 48)), some (vi x1), some (vi x2), some (vi x3), some (vi (x4 + 1))] [] σ rc rs)) ∧ ((ia σ 49 x4) = x1 → ((¬ x3 = x2 → iR (x3 + 1) ∧ iR (x4 + 1) ∧ (iR x1 → iR x2 → iR (x3 + 1) → iR (x4 + 1) → SR σ → Wb g ad d mX5_numberAt Q 5 [some (.ref (ad 48)), some (vi x1), some (vi x2), some (vi (x3 + 1)), some (vi (x4 + 1))] [] σ rc rs)) ∧ (x3 = x2 → (iR (ia σ 52 x4) → SR σ → Q (.inl (some (vi (ia σ 52 x4)))) σ)))))))) : Wb g ad d mX5_numberAt Q 5 [some (.ref (ad 48)), some (vi x1), some (vi x2), some (vi x3), some (vi x4)] [] σ rc rs := by
  refine sb_iload (pc' := 7) rfl rfl dX5_numberAt_5 ?_
  refine sb_aload_n (pc' := 8) rfl rfl dX5_numberAt_7 ?_
  refine sb_getI (pc' := 11) rfl fi_48_9 wd_388 dX5_numberAt_8 ?_
  refine sb_icmp_ge (pc' := 14) (tgt := 47) rfl (by decide) hx4 (SR_sc hS _ _) dX5_numberAt_11 ?_ ?_
  · intro cc; have H := H.1 cc
    refine sb_iconst (pc' := 48) rfl dX5_numberAt_47 ?_
    exact sb_iret rfl rfl dX5_numberAt_48 (H (iR_lit rfl) hS)
  · intro cc; have H := H.2 cc
    refine sb_aload_n (pc' := 15) rfl rfl dX5_numberAt_14 ?_
    refine sb_getC (pc' := 18) rfl fc_48_0 wd_360 dX5_numberAt_15 ?_
    refine sb_iload (pc' := 20) rfl rfl dX5_numberAt_18 ?_
    obtain ⟨o1, H⟩ := H
    refine sb_iald (pc' := 21) rfl aI_49 o1.1 o1.2 dX5_numberAt_20 ?_
    refine sb_iload_n (pc' := 22) rfl rfl dX5_numberAt_21 ?_
    refine sb_icmp_ne (pc' := 25) (tgt := 41) rfl (by decide) (SR_ia hS _ _) hx1 dX5_numberAt_22 ?_ ?_
    · intro cc; have H := H.1 cc
      refine sb_iinc (pc' := 44) rfl rfl (L' := [some (.ref (ad 48)), some (vi x1), some (vi x2), some (vi x3), some (vi (x4 + 1))]) rfl (by decide) dX5_numberAt_41 ?_
      refine sb_goto (tgt := 5) (by decide) dX5_numberAt_44 ?_
      obtain ⟨o2, H⟩ := H
      exact (H hx1 hx2 hx3 o2 hS)
    · intro cc; have H := H.2 cc
      refine sb_iload_n (pc' := 26) rfl rfl dX5_numberAt_25 ?_
      refine sb_iload_n (pc' := 27) rfl rfl dX5_numberAt_26 ?_
      refine sb_icmp_ne (pc' := 30) (tgt := 38) rfl (by decide) hx3 hx2 dX5_numberAt_27 ?_ ?_
      · intro cc; have H := H.1 cc
        refine sb_iinc (pc' := 41) rfl rfl (L' := [some (.ref (ad 48)), some (vi x1), some (vi x2), some (vi (x3 + 1)), some (vi x4)]) rfl (by decide) dX5_numberAt_38 ?_
        refine sb_iinc (pc' := 44) rfl rfl (L' := [some (.ref (ad 48)), some (vi x1), some (vi x2), some (vi (x3 + 1)), some (vi (x4 + 1))]) rfl (by decide) dX5_numberAt_41 ?_
        refine sb_goto (tgt := 5) (by decide) dX5_numberAt_44 ?_
        obtain ⟨o3, H⟩ := H
        obtain ⟨o4, H⟩ := H
        exact (H hx1 hx2 o3 o4 hS)
      · intro cc; have H := H.2 cc
        refine sb_aload_n (pc' := 31) rfl rfl dX5_numberAt_30 ?_
        refine sb_getC (pc' := 34) rfl fc_48_3 wd_373 dX5_numberAt_31 ?_
        refine sb_iload (pc' := 36) rfl rfl dX5_numberAt_34 ?_
        refine sb_iald (pc' := 37) rfl aI_52 o1.1 o1.2 dX5_numberAt_36 ?_
        exact sb_iret rfl rfl dX5_numberAt_37 (H (SR_ia hS _ _) hS)
theorem bX5_full_0 {g : AG} {ad : Nat → Nat} {d : Nat} {Q : AO → SG → Prop} {rc rs : Nat} {σ : SG}    (hS : SR σ) (H : iR ((bShl 1 (sc σ 48 10)) - 1) ∧ (iR ((bShl 1 (sc σ 48 10)) - 1) → SR σ → Q (.inl (some (vi ((bShl 1 (sc σ 48 10)) - 1)))) σ)) : Wb g ad d mX5_full Q 0 [some (.ref (ad 48))] [] σ rc rs := by
  refine sb_iconst (pc' := 1) rfl dX5_full_0 ?_
  refine sb_aload_n (pc' := 2) rfl rfl dX5_full_1 ?_
  refine sb_getI (pc' := 5) rfl fi_48_10 wd_394 dX5_full_2 ?_
  refine sb_ishl (pc' := 6) rfl dX5_full_5 ?_
  refine sb_iconst (pc' := 7) rfl dX5_full_6 ?_
  refine sb_isub (pc' := 8) rfl dX5_full_7 ?_
  obtain ⟨o1, H⟩ := H
  exact sb_iret rfl rfl dX5_full_8 (H o1 hS)
theorem bX5_gap_0 {g : AG} {ad : Nat → Nat} {d : Nat} {Q : AO → SG → Prop} {rc rs : Nat} {σ : SG} {x1 x2 : Int}  (hx1 : iR x1) (hx2 : iR x2) (hS : SR σ) (H : (0 ≤ x1 ∧ x1 < 186) ∧ Cl g ad d mJ9_abs_0f7a4 0 0 [(vi ((ia σ 49 x1) - x2))] σ (Ki fun r2 s2 => (iR r2 → SR s2 → Q (.inl (some (vi r2))) s2))) : Wb g ad d mX5_gap Q 0 [some (.ref (ad 48)), some (vi x1), some (vi x2)] [] σ rc rs := by
  refine sb_aload_n (pc' := 1) rfl rfl dX5_gap_0 ?_
  refine sb_getC (pc' := 4) rfl fc_48_0 wd_360 dX5_gap_1 ?_
  refine sb_iload_n (pc' := 5) rfl rfl dX5_gap_4 ?_
  obtain ⟨o1, H⟩ := H
  refine sb_iald (pc' := 6) rfl aI_49 o1.1 o1.2 dX5_gap_5 ?_
  refine sb_iload_n (pc' := 7) rfl rfl dX5_gap_6 ?_
  refine sb_isub (pc' := 8) rfl dX5_gap_7 ?_
  obtain ⟨d2, hd2, H⟩ := H
  refine sb_callS (pc' := 11) rfl rfl (rc := rc) (rs := rs) (mc' := 0) (ms' := 0) (As := [(vi ((ia σ 49 x1) - x2))]) (st := [])  rfl rfl (Nat.le_of_ble_eq_true rfl) hd2 kJ9_abs_0f7a4 ⟨wd_820, wd_821⟩ dX5_gap_8 (Eb.mono H ?_)
  rintro o s2 ⟨r2, rfl, hr2, hs2, H⟩
  show Wb g ad d mX5_gap Q 11 [some (.ref (ad 48)), some (vi x1), some (vi x2)] [(vi r2)] s2 rc rs
  exact sb_iret rfl rfl dX5_gap_11 (H hr2 hs2)
theorem bX5_standing_0 {g : AG} {ad : Nat → Nat} {d : Nat} {Q : AO → SG → Prop} {rc rs : Nat} {σ : SG} {x1 x2 : Int}  (hx1 : iR x1) (hx2 : iR x2) (hS : SR σ) (H : (0 ≤ x1 ∧ x1 < 186) ∧ ((¬ (ia σ 55 x1) = ((-1)) → isK (rv σ 48 11) ∧ Cl g ad d mX2_flow 0 0 [(.ref (ad (rv σ 48 11))), (vi x2), (vi (ia σ 55 x1))] σ (Ki fun r3 s3 => iR ((ia σ 57 x1) + r3) ∧ (iR ((ia σ 57 x1) + r3) → SR s3 → Q (.inl (some (vi ((ia σ 57 x1) + r3)))) s3))) ∧ ((ia σ 55 x1) = ((-1)) → (iR (ia σ 57 x1) → SR σ → Q (.inl (some (vi (ia σ 57 x1)))) σ)))) : Wb g ad d mX5_standing Q 0 [some (.ref (ad 48)), some (vi x1), some (vi x2)] [] σ rc rs := by
  refine sb_aload_n (pc' := 1) rfl rfl dX5_standing_0 ?_
  refine sb_getC (pc' := 4) rfl fc_48_6 wd_382 dX5_standing_1 ?_
  refine sb_iload_n (pc' := 5) rfl rfl dX5_standing_4 ?_
  obtain ⟨o1, H⟩ := H
  refine sb_iald (pc' := 6) rfl aI_55 o1.1 o1.2 dX5_standing_5 ?_
  refine sb_iconst (pc' := 7) rfl dX5_standing_6 ?_
  refine sb_icmp_ne (pc' := 10) (tgt := 19) rfl (by decide) (SR_ia hS _ _) (iR_lit rfl) dX5_standing_7 ?_ ?_
  · intro cc; have H := H.1 cc
    refine sb_aload_n (pc' := 20) rfl rfl dX5_standing_19 ?_
    refine sb_getC (pc' := 23) rfl fc_48_8 wd_386 dX5_standing_20 ?_
    refine sb_iload_n (pc' := 24) rfl rfl dX5_standing_23 ?_
    refine sb_iald (pc' := 25) rfl aI_57 o1.1 o1.2 dX5_standing_24 ?_
    refine sb_aload_n (pc' := 26) rfl rfl dX5_standing_25 ?_
    obtain ⟨o2, H⟩ := H
    refine sb_getR (pc' := 29) rfl fr_48_11 wd_398 dX5_standing_26 ?_
    refine sb_iload_n (pc' := 30) rfl rfl dX5_standing_29 ?_
    refine sb_aload_n (pc' := 31) rfl rfl dX5_standing_30 ?_
    refine sb_getC (pc' := 34) rfl fc_48_6 wd_382 dX5_standing_31 ?_
    refine sb_iload_n (pc' := 35) rfl rfl dX5_standing_34 ?_
    refine sb_iald (pc' := 36) rfl aI_55 o1.1 o1.2 dX5_standing_35 ?_
    obtain ⟨d3, hd3, H⟩ := H
    refine sb_callVN (pc' := 39) rfl rfl (rc := rc) (rs := rs) (mc' := 0) (ms' := 0) (As := [(vi x2), (vi (ia σ 55 x1))]) (st := [(vi (ia σ 57 x1))]) (ofK o2) rfl rfl (Nat.le_of_ble_eq_true rfl) hd3 kX2_flow ⟨wd_734, wd_736, wd_6⟩ dX5_standing_36 (Eb.mono H ?_)
    rintro o s3 ⟨r3, rfl, hr3, hs3, H⟩
    show Wb g ad d mX5_standing Q 39 [some (.ref (ad 48)), some (vi x1), some (vi x2)] [(vi r3), (vi (ia σ 57 x1))] s3 rc rs
    refine sb_iadd (pc' := 40) rfl dX5_standing_39 ?_
    obtain ⟨o4, H⟩ := H
    exact sb_iret rfl rfl dX5_standing_40 (H o4 hs3)
  · intro cc; have H := H.2 cc
    refine sb_aload_n (pc' := 11) rfl rfl dX5_standing_10 ?_
    refine sb_getC (pc' := 14) rfl fc_48_8 wd_386 dX5_standing_11 ?_
    refine sb_iload_n (pc' := 15) rfl rfl dX5_standing_14 ?_
    refine sb_iald (pc' := 16) rfl aI_57 o1.1 o1.2 dX5_standing_15 ?_
    refine sb_goto (tgt := 40) (by decide) dX5_standing_16 ?_
    exact sb_iret rfl rfl dX5_standing_40 (H (SR_ia hS _ _) hS)
theorem bX5_ending_0 {g : AG} {ad : Nat → Nat} {d : Nat} {Q : AO → SG → Prop} {rc rs : Nat} {σ : SG} {x1 : Int}  (hx1 : iR x1) (hS : SR σ) (H : isK (rv σ 48 11) ∧ Cl g ad d mX2_flow 0 0 [(.ref (ad (rv σ 48 11))), (vi x1), (vi 40)] σ (Ki fun r2 s2 => (iR r2 → SR s2 → Q (.inl (some (vi r2))) s2))) : Wb g ad d mX5_ending Q 0 [some (.ref (ad 48)), some (vi x1)] [] σ rc rs := by
  refine sb_aload_n (pc' := 1) rfl rfl dX5_ending_0 ?_
  obtain ⟨o1, H⟩ := H
  refine sb_getR (pc' := 4) rfl fr_48_11 wd_398 dX5_ending_1 ?_
  refine sb_iload_n (pc' := 5) rfl rfl dX5_ending_4 ?_
  refine sb_bipush (pc' := 7) rfl (z := 40) (by decide) dX5_ending_5 ?_
  obtain ⟨d2, hd2, H⟩ := H
  refine sb_callVN (pc' := 10) rfl rfl (rc := rc) (rs := rs) (mc' := 0) (ms' := 0) (As := [(vi x1), (vi 40)]) (st := []) (ofK o1) rfl rfl (Nat.le_of_ble_eq_true rfl) hd2 kX2_flow ⟨wd_734, wd_736, wd_6⟩ dX5_ending_7 (Eb.mono H ?_)
  rintro o s2 ⟨r2, rfl, hr2, hs2, H⟩
  show Wb g ad d mX5_ending Q 10 [some (.ref (ad 48)), some (vi x1)] [(vi r2)] s2 rc rs
  exact sb_iret rfl rfl dX5_ending_10 (H hr2 hs2)
theorem bX6_append_0 {g : AG} {ad : Nat → Nat} {d : Nat} {Q : AO → SG → Prop} {rc rs : Nat} {σ : SG} {x1 : Int}  (hx1 : iR x1) (hS : SR σ) (H : (iR x1 → iR 24 → SR σ → Wb g ad d mX6_append Q 3 [some (.ref (ad 37)), some (vi x1), some (vi 24)] [] σ rc rs)) : Wb g ad d mX6_append Q 0 [some (.ref (ad 37)), some (vi x1), none] [] σ rc rs := by
  refine sb_bipush (pc' := 2) rfl (z := 24) (by decide) dX6_append_0 ?_
  refine sb_istore_n (pc' := 3) rfl (L' := [some (.ref (ad 37)), some (vi x1), some (vi 24)]) rfl (by decide) dX6_append_2 ?_
  exact (H hx1 (iR_lit rfl) hS)
theorem bX6_append_3 {g : AG} {ad : Nat → Nat} {d : Nat} {Q : AO → SG → Prop} {rc rs : Nat} {σ : SG} {x1 x2 : Int}  (hx1 : iR x1) (hx2 : iR x2) (hS : SR σ) (H : ((x2 < 0 → (SR σ → Q (.inl none) σ)) ∧ (¬ x2 < 0 → ((400 ≤ (sc σ 37 1) → (SR σ → Q (.inl none) σ)) ∧ (¬ 400 ≤ (sc σ 37 1) → (0 ≤ sc σ 37 1 ∧ sc σ 37 1 < 400) ∧ iR ((sc (setI σ 38 (sc σ 37 1) (bAnd (bUshr x1 x2) 255)) 37 1) + 1) ∧ iR (x2 + (-8)) ∧ (iR x1 → iR (x2 + (-8)) → SR (setS (setI σ 38 (sc σ 37 1) (bAnd (bUshr x1 x2) 255)) 37 1 ((sc (setI σ 38 (sc σ 37 1) (bAnd (bUshr x1 x2) 255)) 37 1) + 1)) → Wb g ad d mX6_append Q 3 [some (.ref (ad 37)), some (vi x1), some (vi (x2 + (-8)))] [] (setS (setI σ 38 (sc σ 37 1) (bAnd (bUshr x1 x2) 255)) 37 1 ((sc (setI σ 38 (sc σ 37 1) (bAnd (bUshr x1 x2) 255)) 37 1) + 1)) rc rs)))))) : Wb g ad d mX6_append Q 3 [some (.ref (ad 37)), some (vi x1), some (vi x2)] [] σ rc rs := by
  refine sb_iload_n (pc' := 4) rfl rfl dX6_append_3 ?_
  refine sb_if_lt (pc' := 7) (tgt := 49) rfl (by decide) hx2 dX6_append_4 ?_ ?_
  · intro cc; have H := H.1 cc
    exact sb_vret rfl dX6_append_49 (H hS)
  · intro cc; have H := H.2 cc
    refine sb_aload_n (pc' := 8) rfl rfl dX6_append_7 ?_
    refine sb_getI (pc' := 11) rfl fi_37_1 wd_283 dX6_append_8 ?_
    refine sb_sipush (pc' := 14) rfl (z := 400) (by decide) dX6_append_11 ?_
    refine sb_icmp_ge (pc' := 17) (tgt := 49) rfl (by decide) (SR_sc hS _ _) (iR_lit rfl) dX6_append_14 ?_ ?_
    · intro cc; have H := H.1 cc
      exact sb_vret rfl dX6_append_49 (H hS)
    · intro cc; have H := H.2 cc
      refine sb_aload_n (pc' := 18) rfl rfl dX6_append_17 ?_
      refine sb_getC (pc' := 21) rfl fc_37_0 wd_281 dX6_append_18 ?_
      refine sb_aload_n (pc' := 22) rfl rfl dX6_append_21 ?_
      refine sb_getI (pc' := 25) rfl fi_37_1 wd_283 dX6_append_22 ?_
      refine sb_iload_n (pc' := 26) rfl rfl dX6_append_25 ?_
      refine sb_iload_n (pc' := 27) rfl rfl dX6_append_26 ?_
      refine sb_iushr (pc' := 28) rfl dX6_append_27 ?_
      refine sb_sipush (pc' := 31) rfl (z := 255) (by decide) dX6_append_28 ?_
      refine sb_iand (pc' := 32) rfl dX6_append_31 ?_
      obtain ⟨o1, H⟩ := H
      refine sb_iast (pc' := 33) rfl aI_38 o1.1 o1.2  dX6_append_32 ?_
      refine sb_aload_n (pc' := 34) rfl rfl dX6_append_33 ?_
      refine sb_dup (pc' := 35) rfl rfl dX6_append_34 ?_
      refine sb_getI (pc' := 38) rfl fi_37_1 wd_283 dX6_append_35 ?_
      refine sb_iconst (pc' := 39) rfl dX6_append_38 ?_
      refine sb_iadd (pc' := 40) rfl dX6_append_39 ?_
      obtain ⟨o2, H⟩ := H
      refine sb_putI (pc' := 43) rfl fi_37_1 (Or.inl rfl) wd_283 dX6_append_40 ?_
      refine sb_iinc (pc' := 46) rfl rfl (L' := [some (.ref (ad 37)), some (vi x1), some (vi (x2 + (-8)))]) rfl (by decide) dX6_append_43 ?_
      refine sb_goto (tgt := 3) (by decide) dX6_append_46 ?_
      obtain ⟨o3, H⟩ := H
      exact (H hx1 o3 (SR_setS (SR_setI hS (iR_b _)) o2))
theorem bX6_isRight_0 {g : AG} {ad : Nat → Nat} {d : Nat} {Q : AO → SG → Prop} {rc rs : Nat} {σ : SG}    (hS : SR σ) (H : ((¬ (sc σ 37 2) = ((-1)) → (iR 0 → SR σ → Q (.inl (some (vi 0))) σ)) ∧ ((sc σ 37 2) = ((-1)) → (iR 1 → SR σ → Q (.inl (some (vi 1))) σ)))) : Wb g ad d mX6_isRight Q 0 [some (.ref (ad 37))] [] σ rc rs := by
  refine sb_aload_n (pc' := 1) rfl rfl dX6_isRight_0 ?_
  refine sb_getI (pc' := 4) rfl fi_37_2 wd_284 dX6_isRight_1 ?_
  refine sb_iconst (pc' := 5) rfl dX6_isRight_4 ?_
  refine sb_icmp_ne (pc' := 8) (tgt := 12) rfl (by decide) (SR_sc hS _ _) (iR_lit rfl) dX6_isRight_5 ?_ ?_
  · intro cc; have H := H.1 cc
    refine sb_iconst (pc' := 13) rfl dX6_isRight_12 ?_
    exact sb_iret rfl (nar_z2 (Or.inl rfl)) dX6_isRight_13 (H (iR_lit rfl) hS)
  · intro cc; have H := H.2 cc
    refine sb_iconst (pc' := 9) rfl dX6_isRight_8 ?_
    refine sb_goto (tgt := 13) (by decide) dX6_isRight_9 ?_
    exact sb_iret rfl (nar_z2 (Or.inr rfl)) dX6_isRight_13 (H (iR_lit rfl) hS)
theorem bX6_fail_0 {g : AG} {ad : Nat → Nat} {d : Nat} {Q : AO → SG → Prop} {rc rs : Nat} {σ : SG} {x1 : Int}  (hx1 : iR x1) (hS : SR σ) (H : ((¬ (sc σ 37 2) = ((-1)) → (SR σ → Q (.inl none) σ)) ∧ ((sc σ 37 2) = ((-1)) → (SR (setS σ 37 2 x1) → Q (.inl none) (setS σ 37 2 x1))))) : Wb g ad d mX6_fail Q 0 [some (.ref (ad 37)), some (vi x1)] [] σ rc rs := by
  refine sb_aload_n (pc' := 1) rfl rfl dX6_fail_0 ?_
  refine sb_getI (pc' := 4) rfl fi_37_2 wd_284 dX6_fail_1 ?_
  refine sb_iconst (pc' := 5) rfl dX6_fail_4 ?_
  refine sb_icmp_ne (pc' := 8) (tgt := 13) rfl (by decide) (SR_sc hS _ _) (iR_lit rfl) dX6_fail_5 ?_ ?_
  · intro cc; have H := H.1 cc
    exact sb_vret rfl dX6_fail_13 (H hS)
  · intro cc; have H := H.2 cc
    refine sb_aload_n (pc' := 9) rfl rfl dX6_fail_8 ?_
    refine sb_iload_n (pc' := 10) rfl rfl dX6_fail_9 ?_
    refine sb_putI (pc' := 13) rfl fi_37_2 (Or.inl rfl) wd_284 dX6_fail_10 ?_
    exact sb_vret rfl dX6_fail_13 (H (SR_setS hS hx1))
theorem bX6_readBook_0 {g : AG} {ad : Nat → Nat} {d : Nat} {Q : AO → SG → Prop} {rc rs : Nat} {σ : SG}  {k1 : Nat} (hk1 : isK k1)  (hS : SR σ) (H : Cl g ad d mX6_start 0 0 [(.ref (ad 37)), (.ref (ad k1)), (vi 1)] σ (Kv fun s1 => (((sc s1 37 1) ≤ (sc s1 37 15) → (iR 0 → iR 0 → SR s1 → Wb g ad d mX6_readBook Q 25 [some (.ref (ad 37)), some (.ref (ad k1)), some (vi 0), some (vi 0)] [] s1 rc rs)) ∧ (¬ (sc s1 37 1) ≤ (sc s1 37 15) → (iR 1 → iR 0 → SR s1 → Wb g ad d mX6_readBook Q 25 [some (.ref (ad 37)), some (.ref (ad k1)), some (vi 1), some (vi 0)] [] s1 rc rs))))) : Wb g ad d mX6_readBook Q 0 [some (.ref (ad 37)), some (.ref (ad k1)), none, none] [] σ rc rs := by
  refine sb_aload_n (pc' := 1) rfl rfl dX6_readBook_0 ?_
  refine sb_aload_n (pc' := 2) rfl rfl dX6_readBook_1 ?_
  refine sb_iconst (pc' := 3) rfl dX6_readBook_2 ?_
  obtain ⟨d1, hd1, H⟩ := H
  refine sb_callV (pc' := 6) rfl rfl (rc := rc) (rs := rs) (mc' := 0) (ms' := 0) (As := [(.ref (ad k1)), (vi 1)]) (st := []) of_37 rfl rfl (Nat.le_of_ble_eq_true rfl) hd1 kX6_start ⟨wd_1007, wd_1009, wd_51⟩ dX6_readBook_3 (Eb.mono H ?_)
  rintro o s1 ⟨rfl, hs1, H⟩
  show Wb g ad d mX6_readBook Q 6 [some (.ref (ad 37)), some (.ref (ad k1)), none, none] [] s1 rc rs
  refine sb_aload_n (pc' := 7) rfl rfl dX6_readBook_6 ?_
  refine sb_getI (pc' := 10) rfl fi_37_15 wd_314 dX6_readBook_7 ?_
  refine sb_aload_n (pc' := 11) rfl rfl dX6_readBook_10 ?_
  refine sb_getI (pc' := 14) rfl fi_37_1 wd_283 dX6_readBook_11 ?_
  refine sb_icmp_ge (pc' := 17) (tgt := 21) rfl (by decide) (SR_sc hs1 _ _) (SR_sc hs1 _ _) dX6_readBook_14 ?_ ?_
  · intro cc; have H := H.1 cc
    refine sb_iconst (pc' := 22) rfl dX6_readBook_21 ?_
    refine sb_istore_n (pc' := 23) rfl (L' := [some (.ref (ad 37)), some (.ref (ad k1)), some (vi 0), none]) rfl (by decide) dX6_readBook_22 ?_
    refine sb_iconst (pc' := 24) rfl dX6_readBook_23 ?_
    refine sb_istore_n (pc' := 25) rfl (L' := [some (.ref (ad 37)), some (.ref (ad k1)), some (vi 0), some (vi 0)]) rfl (by decide) dX6_readBook_24 ?_
    exact (H (iR_lit rfl) (iR_lit rfl) hs1)
  · intro cc; have H := H.2 cc
    refine sb_iconst (pc' := 18) rfl dX6_readBook_17 ?_
    refine sb_goto (tgt := 22) (by decide) dX6_readBook_18 ?_
    refine sb_istore_n (pc' := 23) rfl (L' := [some (.ref (ad 37)), some (.ref (ad k1)), some (vi 1), none]) rfl (by decide) dX6_readBook_22 ?_
    refine sb_iconst (pc' := 24) rfl dX6_readBook_23 ?_
    refine sb_istore_n (pc' := 25) rfl (L' := [some (.ref (ad 37)), some (.ref (ad k1)), some (vi 1), some (vi 0)]) rfl (by decide) dX6_readBook_24 ?_
    exact (H (iR_lit rfl) (iR_lit rfl) hs1)
theorem bX6_readBook_25 {g : AG} {ad : Nat → Nat} {d : Nat} {Q : AO → SG → Prop} {rc rs : Nat} {σ : SG} {x2 x3 : Int} {k1 : Nat} (hk1 : isK k1) (hx2 : iR x2) (hx3 : iR x3) (hS : SR σ) (H : ((12 ≤ x3 → (SR σ → Q (.inl none) σ)) ∧ (¬ 12 ≤ x3 → ((x2 = 0 → (SR σ → Q (.inl none) σ)) ∧ (¬ x2 = 0 → Cl g ad d mX6_readEntry 0 0 [(.ref (ad 37)), (vi x3)] σ (Kv fun s1 => Cl g ad d mX6_goesOn 0 0 [(.ref (ad 37)), (vi x3)] s1 (Ki fun r2 s2 => iR (x3 + 1) ∧ (iR r2 → iR (x3 + 1) → SR s2 → Wb g ad d mX6_readBook Q 25 [some (.ref (ad 37)), some (.ref (ad k1)), some (vi r2), some (vi (x3 + 1))] [] s2 rc rs)))))))) : Wb g ad d mX6_readBook Q 25 [some (.ref (ad 37)), some (.ref (ad k1)), some (vi x2), some (vi x3)] [] σ rc rs := by
  refine sb_iload_n (pc' := 26) rfl rfl dX6_readBook_25 ?_
  refine sb_bipush (pc' := 28) rfl (z := 12) (by decide) dX6_readBook_26 ?_
  refine sb_icmp_ge (pc' := 31) (tgt := 52) rfl (by decide) hx3 (iR_lit rfl) dX6_readBook_28 ?_ ?_
  · intro cc; have H := H.1 cc
    exact sb_vret rfl dX6_readBook_52 (H hS)
  · intro cc; have H := H.2 cc
    refine sb_iload_n (pc' := 32) rfl rfl dX6_readBook_31 ?_
    refine sb_if_eq (pc' := 35) (tgt := 52) rfl (by decide) hx2 dX6_readBook_32 ?_ ?_
    · intro cc; have H := H.1 cc
      exact sb_vret rfl dX6_readBook_52 (H hS)
    · intro cc; have H := H.2 cc
      refine sb_aload_n (pc' := 36) rfl rfl dX6_readBook_35 ?_
      refine sb_iload_n (pc' := 37) rfl rfl dX6_readBook_36 ?_
      obtain ⟨d1, hd1, H⟩ := H
      refine sb_callV (pc' := 40) rfl rfl (rc := rc) (rs := rs) (mc' := 0) (ms' := 0) (As := [(vi x3)]) (st := []) of_37 rfl rfl (Nat.le_of_ble_eq_true rfl) hd1 kX6_readEntry ⟨wd_1015, wd_1017, wd_53⟩ dX6_readBook_37 (Eb.mono H ?_)
      rintro o s1 ⟨rfl, hs1, H⟩
      show Wb g ad d mX6_readBook Q 40 [some (.ref (ad 37)), some (.ref (ad k1)), some (vi x2), some (vi x3)] [] s1 rc rs
      refine sb_aload_n (pc' := 41) rfl rfl dX6_readBook_40 ?_
      refine sb_iload_n (pc' := 42) rfl rfl dX6_readBook_41 ?_
      obtain ⟨d2, hd2, H⟩ := H
      refine sb_callV (pc' := 45) rfl rfl (rc := rc) (rs := rs) (mc' := 0) (ms' := 0) (As := [(vi x3)]) (st := []) of_37 rfl rfl (Nat.le_of_ble_eq_true rfl) hd2 kX6_goesOn ⟨wd_1063, wd_1065, wd_65⟩ dX6_readBook_42 (Eb.mono H ?_)
      rintro o s2 ⟨r2, rfl, hr2, hs2, H⟩
      show Wb g ad d mX6_readBook Q 45 [some (.ref (ad 37)), some (.ref (ad k1)), some (vi x2), some (vi x3)] [(vi r2)] s2 rc rs
      refine sb_istore_n (pc' := 46) rfl (L' := [some (.ref (ad 37)), some (.ref (ad k1)), some (vi r2), some (vi x3)]) rfl (by decide) dX6_readBook_45 ?_
      refine sb_iinc (pc' := 49) rfl rfl (L' := [some (.ref (ad 37)), some (.ref (ad k1)), some (vi r2), some (vi (x3 + 1))]) rfl (by decide) dX6_readBook_46 ?_
      refine sb_goto (tgt := 25) (by decide) dX6_readBook_49 ?_
      obtain ⟨o3, H⟩ := H
      exact (H hr2 o3 hs2)
theorem bX6_readFluency_0 {g : AG} {ad : Nat → Nat} {d : Nat} {Q : AO → SG → Prop} {rc rs : Nat} {σ : SG}  {k1 : Nat} (hk1 : isK k1)  (hS : SR σ) (H : Cl g ad d mX6_start 0 0 [(.ref (ad 37)), (.ref (ad k1)), (vi 1)] σ (Kv fun s1 => (((sc s1 37 1) ≤ (sc s1 37 15) → (iR 0 → iR 0 → SR s1 → Wb g ad d mX6_readFluency Q 25 [some (.ref (ad 37)), some (.ref (ad k1)), some (vi 0), some (vi 0)] [] s1 rc rs)) ∧ (¬ (sc s1 37 1) ≤ (sc s1 37 15) → (iR 1 → iR 0 → SR s1 → Wb g ad d mX6_readFluency Q 25 [some (.ref (ad 37)), some (.ref (ad k1)), some (vi 1), some (vi 0)] [] s1 rc rs))))) : Wb g ad d mX6_readFluency Q 0 [some (.ref (ad 37)), some (.ref (ad k1)), none, none] [] σ rc rs := by
  refine sb_aload_n (pc' := 1) rfl rfl dX6_readFluency_0 ?_
  refine sb_aload_n (pc' := 2) rfl rfl dX6_readFluency_1 ?_
  refine sb_iconst (pc' := 3) rfl dX6_readFluency_2 ?_
  obtain ⟨d1, hd1, H⟩ := H
  refine sb_callV (pc' := 6) rfl rfl (rc := rc) (rs := rs) (mc' := 0) (ms' := 0) (As := [(.ref (ad k1)), (vi 1)]) (st := []) of_37 rfl rfl (Nat.le_of_ble_eq_true rfl) hd1 kX6_start ⟨wd_1007, wd_1009, wd_51⟩ dX6_readFluency_3 (Eb.mono H ?_)
  rintro o s1 ⟨rfl, hs1, H⟩
  show Wb g ad d mX6_readFluency Q 6 [some (.ref (ad 37)), some (.ref (ad k1)), none, none] [] s1 rc rs
  refine sb_aload_n (pc' := 7) rfl rfl dX6_readFluency_6 ?_
  refine sb_getI (pc' := 10) rfl fi_37_15 wd_314 dX6_readFluency_7 ?_
  refine sb_aload_n (pc' := 11) rfl rfl dX6_readFluency_10 ?_
  refine sb_getI (pc' := 14) rfl fi_37_1 wd_283 dX6_readFluency_11 ?_
  refine sb_icmp_ge (pc' := 17) (tgt := 21) rfl (by decide) (SR_sc hs1 _ _) (SR_sc hs1 _ _) dX6_readFluency_14 ?_ ?_
  · intro cc; have H := H.1 cc
    refine sb_iconst (pc' := 22) rfl dX6_readFluency_21 ?_
    refine sb_istore_n (pc' := 23) rfl (L' := [some (.ref (ad 37)), some (.ref (ad k1)), some (vi 0), none]) rfl (by decide) dX6_readFluency_22 ?_
    refine sb_iconst (pc' := 24) rfl dX6_readFluency_23 ?_
    refine sb_istore_n (pc' := 25) rfl (L' := [some (.ref (ad 37)), some (.ref (ad k1)), some (vi 0), some (vi 0)]) rfl (by decide) dX6_readFluency_24 ?_
    exact (H (iR_lit rfl) (iR_lit rfl) hs1)
  · intro cc; have H := H.2 cc
    refine sb_iconst (pc' := 18) rfl dX6_readFluency_17 ?_
    refine sb_goto (tgt := 22) (by decide) dX6_readFluency_18 ?_
    refine sb_istore_n (pc' := 23) rfl (L' := [some (.ref (ad 37)), some (.ref (ad k1)), some (vi 1), none]) rfl (by decide) dX6_readFluency_22 ?_
    refine sb_iconst (pc' := 24) rfl dX6_readFluency_23 ?_
    refine sb_istore_n (pc' := 25) rfl (L' := [some (.ref (ad 37)), some (.ref (ad k1)), some (vi 1), some (vi 0)]) rfl (by decide) dX6_readFluency_24 ?_
    exact (H (iR_lit rfl) (iR_lit rfl) hs1)
theorem bX6_readFluency_25 {g : AG} {ad : Nat → Nat} {d : Nat} {Q : AO → SG → Prop} {rc rs : Nat} {σ : SG} {x2 x3 : Int} {k1 : Nat} (hk1 : isK k1) (hx2 : iR x2) (hx3 : iR x3) (hS : SR σ) (H : ((12 ≤ x3 → (SR σ → Q (.inl none) σ)) ∧ (¬ 12 ≤ x3 → ((x2 = 0 → (SR σ → Q (.inl none) σ)) ∧ (¬ x2 = 0 → Cl g ad d mX6_readPair 0 0 [(.ref (ad 37)), (vi x3)] σ (Kv fun s1 => Cl g ad d mX6_goesOn 0 0 [(.ref (ad 37)), (vi x3)] s1 (Ki fun r2 s2 => iR (x3 + 1) ∧ (iR r2 → iR (x3 + 1) → SR s2 → Wb g ad d mX6_readFluency Q 25 [some (.ref (ad 37)), some (.ref (ad k1)), some (vi r2), some (vi (x3 + 1))] [] s2 rc rs)))))))) : Wb g ad d mX6_readFluency Q 25 [some (.ref (ad 37)), some (.ref (ad k1)), some (vi x2), some (vi x3)] [] σ rc rs := by
  refine sb_iload_n (pc' := 26) rfl rfl dX6_readFluency_25 ?_
  refine sb_bipush (pc' := 28) rfl (z := 12) (by decide) dX6_readFluency_26 ?_
  refine sb_icmp_ge (pc' := 31) (tgt := 52) rfl (by decide) hx3 (iR_lit rfl) dX6_readFluency_28 ?_ ?_
  · intro cc; have H := H.1 cc
    exact sb_vret rfl dX6_readFluency_52 (H hS)
  · intro cc; have H := H.2 cc
    refine sb_iload_n (pc' := 32) rfl rfl dX6_readFluency_31 ?_
    refine sb_if_eq (pc' := 35) (tgt := 52) rfl (by decide) hx2 dX6_readFluency_32 ?_ ?_
    · intro cc; have H := H.1 cc
      exact sb_vret rfl dX6_readFluency_52 (H hS)
    · intro cc; have H := H.2 cc
      refine sb_aload_n (pc' := 36) rfl rfl dX6_readFluency_35 ?_
      refine sb_iload_n (pc' := 37) rfl rfl dX6_readFluency_36 ?_
      obtain ⟨d1, hd1, H⟩ := H
      refine sb_callV (pc' := 40) rfl rfl (rc := rc) (rs := rs) (mc' := 0) (ms' := 0) (As := [(vi x3)]) (st := []) of_37 rfl rfl (Nat.le_of_ble_eq_true rfl) hd1 kX6_readPair ⟨wd_1170, wd_1172, wd_73⟩ dX6_readFluency_37 (Eb.mono H ?_)
      rintro o s1 ⟨rfl, hs1, H⟩
      show Wb g ad d mX6_readFluency Q 40 [some (.ref (ad 37)), some (.ref (ad k1)), some (vi x2), some (vi x3)] [] s1 rc rs
      refine sb_aload_n (pc' := 41) rfl rfl dX6_readFluency_40 ?_
      refine sb_iload_n (pc' := 42) rfl rfl dX6_readFluency_41 ?_
      obtain ⟨d2, hd2, H⟩ := H
      refine sb_callV (pc' := 45) rfl rfl (rc := rc) (rs := rs) (mc' := 0) (ms' := 0) (As := [(vi x3)]) (st := []) of_37 rfl rfl (Nat.le_of_ble_eq_true rfl) hd2 kX6_goesOn ⟨wd_1063, wd_1065, wd_65⟩ dX6_readFluency_42 (Eb.mono H ?_)
      rintro o s2 ⟨r2, rfl, hr2, hs2, H⟩
      show Wb g ad d mX6_readFluency Q 45 [some (.ref (ad 37)), some (.ref (ad k1)), some (vi x2), some (vi x3)] [(vi r2)] s2 rc rs
      refine sb_istore_n (pc' := 46) rfl (L' := [some (.ref (ad 37)), some (.ref (ad k1)), some (vi r2), some (vi x3)]) rfl (by decide) dX6_readFluency_45 ?_
      refine sb_iinc (pc' := 49) rfl rfl (L' := [some (.ref (ad 37)), some (.ref (ad k1)), some (vi r2), some (vi (x3 + 1))]) rfl (by decide) dX6_readFluency_46 ?_
      refine sb_goto (tgt := 25) (by decide) dX6_readFluency_49 ?_
      obtain ⟨o3, H⟩ := H
      exact (H hr2 o3 hs2)
theorem bX6_readRow_0 {g : AG} {ad : Nat → Nat} {d : Nat} {Q : AO → SG → Prop} {rc rs : Nat} {σ : SG} {x2 x3 : Int} {k1 : Nat} (hk1 : isK k1) (hx2 : iR x2) (hx3 : iR x3) (hS : SR σ) (H : Cl g ad d mX6_start 0 0 [(.ref (ad 37)), (.ref (ad k1)), (vi x2)] σ (Kv fun s1 => Cl g ad d mX6_readWords 0 0 [(.ref (ad 37)), (.ref (ad 45)), (vi 0), (vi x3)] s1 (Ki fun r2 s2 => (((sc (setS s2 37 11 r2) 37 1) ≤ (sc (setS s2 37 11 r2) 37 15) → (SR (setS s2 37 11 r2) → Q (.inl none) (setS s2 37 11 r2))) ∧ (¬ (sc (setS s2 37 11 r2) 37 1) ≤ (sc (setS s2 37 11 r2) 37 15) → Cl g ad d mX6_fail 0 0 [(.ref (ad 37)), (vi (sc (setS s2 37 11 r2) 37 15))] (setS s2 37 11 r2) (Kv fun s3 => (SR s3 → Q (.inl none) s3))))))) : Wb g ad d mX6_readRow Q 0 [some (.ref (ad 37)), some (.ref (ad k1)), some (vi x2), some (vi x3)] [] σ rc rs := by
  refine sb_aload_n (pc' := 1) rfl rfl dX6_readRow_0 ?_
  refine sb_aload_n (pc' := 2) rfl rfl dX6_readRow_1 ?_
  refine sb_iload_n (pc' := 3) rfl rfl dX6_readRow_2 ?_
  obtain ⟨d1, hd1, H⟩ := H
  refine sb_callV (pc' := 6) rfl rfl (rc := rc) (rs := rs) (mc' := 0) (ms' := 0) (As := [(.ref (ad k1)), (vi x2)]) (st := []) of_37 rfl rfl (Nat.le_of_ble_eq_true rfl) hd1 kX6_start ⟨wd_1007, wd_1009, wd_51⟩ dX6_readRow_3 (Eb.mono H ?_)
  rintro o s1 ⟨rfl, hs1, H⟩
  show Wb g ad d mX6_readRow Q 6 [some (.ref (ad 37)), some (.ref (ad k1)), some (vi x2), some (vi x3)] [] s1 rc rs
  refine sb_aload_n (pc' := 7) rfl rfl dX6_readRow_6 ?_
  refine sb_aload_n (pc' := 8) rfl rfl dX6_readRow_7 ?_
  refine sb_aload_n (pc' := 9) rfl rfl dX6_readRow_8 ?_
  refine sb_getC (pc' := 12) rfl fc_37_10 wd_300 dX6_readRow_9 ?_
  refine sb_iconst (pc' := 13) rfl dX6_readRow_12 ?_
  refine sb_iload_n (pc' := 14) rfl rfl dX6_readRow_13 ?_
  obtain ⟨d2, hd2, H⟩ := H
  refine sb_callV (pc' := 17) rfl rfl (rc := rc) (rs := rs) (mc' := 0) (ms' := 0) (As := [(.ref (ad 45)), (vi 0), (vi x3)]) (st := [(.ref (ad 37))]) of_37 rfl rfl (Nat.le_of_ble_eq_true rfl) hd2 kX6_readWords ⟨wd_1019, wd_1021, wd_54⟩ dX6_readRow_14 (Eb.mono H ?_)
  rintro o s2 ⟨r2, rfl, hr2, hs2, H⟩
  show Wb g ad d mX6_readRow Q 17 [some (.ref (ad 37)), some (.ref (ad k1)), some (vi x2), some (vi x3)] [(vi r2), (.ref (ad 37))] s2 rc rs
  refine sb_putI (pc' := 20) rfl fi_37_11 (Or.inl rfl) wd_305 dX6_readRow_17 ?_
  refine sb_aload_n (pc' := 21) rfl rfl dX6_readRow_20 ?_
  refine sb_getI (pc' := 24) rfl fi_37_15 wd_314 dX6_readRow_21 ?_
  refine sb_aload_n (pc' := 25) rfl rfl dX6_readRow_24 ?_
  refine sb_getI (pc' := 28) rfl fi_37_1 wd_283 dX6_readRow_25 ?_
  refine sb_icmp_ge (pc' := 31) (tgt := 39) rfl (by decide) (SR_sc (SR_setS hs2 hr2) _ _) (SR_sc (SR_setS hs2 hr2) _ _) dX6_readRow_28 ?_ ?_
  · intro cc; have H := H.1 cc
    exact sb_vret rfl dX6_readRow_39 (H (SR_setS hs2 hr2))
  · intro cc; have H := H.2 cc
    refine sb_aload_n (pc' := 32) rfl rfl dX6_readRow_31 ?_
    refine sb_aload_n (pc' := 33) rfl rfl dX6_readRow_32 ?_
    refine sb_getI (pc' := 36) rfl fi_37_15 wd_314 dX6_readRow_33 ?_
    obtain ⟨d3, hd3, H⟩ := H
    refine sb_callV (pc' := 39) rfl rfl (rc := rc) (rs := rs) (mc' := 0) (ms' := 0) (As := [(vi (sc (setS s2 37 11 r2) 37 15))]) (st := []) of_37 rfl rfl (Nat.le_of_ble_eq_true rfl) hd3 kX6_fail ⟨wd_1035, wd_1037, wd_58⟩ dX6_readRow_36 (Eb.mono H ?_)
    rintro o s3 ⟨rfl, hs3, H⟩
    show Wb g ad d mX6_readRow Q 39 [some (.ref (ad 37)), some (.ref (ad k1)), some (vi x2), some (vi x3)] [] s3 rc rs
    exact sb_vret rfl dX6_readRow_39 (H hs3)
theorem bX6_readLesson_0 {g : AG} {ad : Nat → Nat} {d : Nat} {Q : AO → SG → Prop} {rc rs : Nat} {σ : SG}  {k1 : Nat} (hk1 : isK k1)  (hS : SR σ) (H : Cl g ad d mX6_start 0 0 [(.ref (ad 37)), (.ref (ad k1)), (vi 1)] σ (Kv fun s1 => Cl g ad d mX6_readWords 0 0 [(.ref (ad 37)), (.ref (ad 45)), (vi 0), (vi 6)] s1 (Ki fun r2 s2 => Cl g ad d mX6_needSome 0 0 [(.ref (ad 37)), (vi (sc (setS s2 37 11 r2) 37 11))] (setS s2 37 11 r2) (Kv fun s3 => Cl g ad d mX6_expect 0 0 [(.ref (ad 37)), (vi 61)] s3 (Kv fun s4 => Cl g ad d mX6_readWords 0 0 [(.ref (ad 37)), (.ref (ad 46)), (vi 0), (vi 6)] s4 (Ki fun r5 s5 => Cl g ad d mX6_needSome 0 0 [(.ref (ad 37)), (vi (sc (setS s5 37 13 r5) 37 13))] (setS s5 37 13 r5) (Kv fun s6 => Cl g ad d mX6_expect 0 0 [(.ref (ad 37)), (vi 47)] s6 (Kv fun s7 => Cl g ad d mJ7_fill_53178 0 0 [(.ref (ad 47)), (vi 0)] s7 (Kv fun s8 => Cl g ad d mX6_isRight 0 0 [(.ref (ad 37))] s8 (Ki fun r9 s9 => (iR r9 → iR 0 → SR s9 → Wb g ad d mX6_readLesson Q 79 [some (.ref (ad 37)), some (.ref (ad k1)), some (vi r9), some (vi 0)] [] s9 rc rs))))))))))) : Wb g ad d mX6_readLesson Q 0 [some (.ref (ad 37)), some (.ref (ad k1)), none, none] [] σ rc rs := by
  refine sb_aload_n (pc' := 1) rfl rfl dX6_readLesson_0 ?_
  refine sb_aload_n (pc' := 2) rfl rfl dX6_readLesson_1 ?_
  refine sb_iconst (pc' := 3) rfl dX6_readLesson_2 ?_
  obtain ⟨d1, hd1, H⟩ := H
  refine sb_callV (pc' := 6) rfl rfl (rc := rc) (rs := rs) (mc' := 0) (ms' := 0) (As := [(.ref (ad k1)), (vi 1)]) (st := []) of_37 rfl rfl (Nat.le_of_ble_eq_true rfl) hd1 kX6_start ⟨wd_1007, wd_1009, wd_51⟩ dX6_readLesson_3 (Eb.mono H ?_)
  rintro o s1 ⟨rfl, hs1, H⟩
  show Wb g ad d mX6_readLesson Q 6 [some (.ref (ad 37)), some (.ref (ad k1)), none, none] [] s1 rc rs
  refine sb_aload_n (pc' := 7) rfl rfl dX6_readLesson_6 ?_
  refine sb_aload_n (pc' := 8) rfl rfl dX6_readLesson_7 ?_
  refine sb_aload_n (pc' := 9) rfl rfl dX6_readLesson_8 ?_
  refine sb_getC (pc' := 12) rfl fc_37_10 wd_300 dX6_readLesson_9 ?_
  refine sb_iconst (pc' := 13) rfl dX6_readLesson_12 ?_
  refine sb_bipush (pc' := 15) rfl (z := 6) (by decide) dX6_readLesson_13 ?_
  obtain ⟨d2, hd2, H⟩ := H
  refine sb_callV (pc' := 18) rfl rfl (rc := rc) (rs := rs) (mc' := 0) (ms' := 0) (As := [(.ref (ad 45)), (vi 0), (vi 6)]) (st := [(.ref (ad 37))]) of_37 rfl rfl (Nat.le_of_ble_eq_true rfl) hd2 kX6_readWords ⟨wd_1019, wd_1021, wd_54⟩ dX6_readLesson_15 (Eb.mono H ?_)
  rintro o s2 ⟨r2, rfl, hr2, hs2, H⟩
  show Wb g ad d mX6_readLesson Q 18 [some (.ref (ad 37)), some (.ref (ad k1)), none, none] [(vi r2), (.ref (ad 37))] s2 rc rs
  refine sb_putI (pc' := 21) rfl fi_37_11 (Or.inl rfl) wd_305 dX6_readLesson_18 ?_
  refine sb_aload_n (pc' := 22) rfl rfl dX6_readLesson_21 ?_
  refine sb_aload_n (pc' := 23) rfl rfl dX6_readLesson_22 ?_
  refine sb_getI (pc' := 26) rfl fi_37_11 wd_305 dX6_readLesson_23 ?_
  obtain ⟨d3, hd3, H⟩ := H
  refine sb_callV (pc' := 29) rfl rfl (rc := rc) (rs := rs) (mc' := 0) (ms' := 0) (As := [(vi (sc (setS s2 37 11 r2) 37 11))]) (st := []) of_37 rfl rfl (Nat.le_of_ble_eq_true rfl) hd3 kX6_needSome ⟨wd_1047, wd_1049, wd_61⟩ dX6_readLesson_26 (Eb.mono H ?_)
  rintro o s3 ⟨rfl, hs3, H⟩
  show Wb g ad d mX6_readLesson Q 29 [some (.ref (ad 37)), some (.ref (ad k1)), none, none] [] s3 rc rs
  refine sb_aload_n (pc' := 30) rfl rfl dX6_readLesson_29 ?_
  refine sb_bipush (pc' := 32) rfl (z := 61) (by decide) dX6_readLesson_30 ?_
  obtain ⟨d4, hd4, H⟩ := H
  refine sb_callV (pc' := 35) rfl rfl (rc := rc) (rs := rs) (mc' := 0) (ms' := 0) (As := [(vi 61)]) (st := []) of_37 rfl rfl (Nat.le_of_ble_eq_true rfl) hd4 kX6_expect ⟨wd_1051, wd_1053, wd_62⟩ dX6_readLesson_32 (Eb.mono H ?_)
  rintro o s4 ⟨rfl, hs4, H⟩
  show Wb g ad d mX6_readLesson Q 35 [some (.ref (ad 37)), some (.ref (ad k1)), none, none] [] s4 rc rs
  refine sb_aload_n (pc' := 36) rfl rfl dX6_readLesson_35 ?_
  refine sb_aload_n (pc' := 37) rfl rfl dX6_readLesson_36 ?_
  refine sb_aload_n (pc' := 38) rfl rfl dX6_readLesson_37 ?_
  refine sb_getC (pc' := 41) rfl fc_37_12 wd_308 dX6_readLesson_38 ?_
  refine sb_iconst (pc' := 42) rfl dX6_readLesson_41 ?_
  refine sb_bipush (pc' := 44) rfl (z := 6) (by decide) dX6_readLesson_42 ?_
  obtain ⟨d5, hd5, H⟩ := H
  refine sb_callV (pc' := 47) rfl rfl (rc := rc) (rs := rs) (mc' := 0) (ms' := 0) (As := [(.ref (ad 46)), (vi 0), (vi 6)]) (st := [(.ref (ad 37))]) of_37 rfl rfl (Nat.le_of_ble_eq_true rfl) hd5 kX6_readWords ⟨wd_1019, wd_1021, wd_54⟩ dX6_readLesson_44 (Eb.mono H ?_)
  rintro o s5 ⟨r5, rfl, hr5, hs5, H⟩
  show Wb g ad d mX6_readLesson Q 47 [some (.ref (ad 37)), some (.ref (ad k1)), none, none] [(vi r5), (.ref (ad 37))] s5 rc rs
  refine sb_putI (pc' := 50) rfl fi_37_13 (Or.inl rfl) wd_311 dX6_readLesson_47 ?_
  refine sb_aload_n (pc' := 51) rfl rfl dX6_readLesson_50 ?_
  refine sb_aload_n (pc' := 52) rfl rfl dX6_readLesson_51 ?_
  refine sb_getI (pc' := 55) rfl fi_37_13 wd_311 dX6_readLesson_52 ?_
  obtain ⟨d6, hd6, H⟩ := H
  refine sb_callV (pc' := 58) rfl rfl (rc := rc) (rs := rs) (mc' := 0) (ms' := 0) (As := [(vi (sc (setS s5 37 13 r5) 37 13))]) (st := []) of_37 rfl rfl (Nat.le_of_ble_eq_true rfl) hd6 kX6_needSome ⟨wd_1047, wd_1049, wd_61⟩ dX6_readLesson_55 (Eb.mono H ?_)
  rintro o s6 ⟨rfl, hs6, H⟩
  show Wb g ad d mX6_readLesson Q 58 [some (.ref (ad 37)), some (.ref (ad k1)), none, none] [] s6 rc rs
  refine sb_aload_n (pc' := 59) rfl rfl dX6_readLesson_58 ?_
  refine sb_bipush (pc' := 61) rfl (z := 47) (by decide) dX6_readLesson_59 ?_
  obtain ⟨d7, hd7, H⟩ := H
  refine sb_callV (pc' := 64) rfl rfl (rc := rc) (rs := rs) (mc' := 0) (ms' := 0) (As := [(vi 47)]) (st := []) of_37 rfl rfl (Nat.le_of_ble_eq_true rfl) hd7 kX6_expect ⟨wd_1051, wd_1053, wd_62⟩ dX6_readLesson_61 (Eb.mono H ?_)
  rintro o s7 ⟨rfl, hs7, H⟩
  show Wb g ad d mX6_readLesson Q 64 [some (.ref (ad 37)), some (.ref (ad k1)), none, none] [] s7 rc rs
  refine sb_aload_n (pc' := 65) rfl rfl dX6_readLesson_64 ?_
  refine sb_getC (pc' := 68) rfl fc_37_14 wd_312 dX6_readLesson_65 ?_
  refine sb_iconst (pc' := 69) rfl dX6_readLesson_68 ?_
  obtain ⟨d8, hd8, H⟩ := H
  refine sb_callS (pc' := 72) rfl rfl (rc := rc) (rs := rs) (mc' := 0) (ms' := 0) (As := [(.ref (ad 47)), (vi 0)]) (st := [])  rfl rfl (Nat.le_of_ble_eq_true rfl) hd8 kJ7_fill_53178 ⟨wd_1205, wd_773⟩ dX6_readLesson_69 (Eb.mono H ?_)
  rintro o s8 ⟨rfl, hs8, H⟩
  show Wb g ad d mX6_readLesson Q 72 [some (.ref (ad 37)), some (.ref (ad k1)), none, none] [] s8 rc rs
  refine sb_aload_n (pc' := 73) rfl rfl dX6_readLesson_72 ?_
  obtain ⟨d9, hd9, H⟩ := H
  refine sb_callV (pc' := 76) rfl rfl (rc := rc) (rs := rs) (mc' := 0) (ms' := 0) (As := []) (st := []) of_37 rfl rfl (Nat.le_of_ble_eq_true rfl) hd9 kX6_isRight ⟨wd_1023, wd_1025, wd_55⟩ dX6_readLesson_73 (Eb.mono H ?_)
  rintro o s9 ⟨r9, rfl, hr9, hs9, H⟩
  show Wb g ad d mX6_readLesson Q 76 [some (.ref (ad 37)), some (.ref (ad k1)), none, none] [(vi r9)] s9 rc rs
  refine sb_istore_n (pc' := 77) rfl (L' := [some (.ref (ad 37)), some (.ref (ad k1)), some (vi r9), none]) rfl (by decide) dX6_readLesson_76 ?_
  refine sb_iconst (pc' := 78) rfl dX6_readLesson_77 ?_
  refine sb_istore_n (pc' := 79) rfl (L' := [some (.ref (ad 37)), some (.ref (ad k1)), some (vi r9), some (vi 0)]) rfl (by decide) dX6_readLesson_78 ?_
  exact (H hr9 (iR_lit rfl) hs9)
theorem bX6_readLesson_79 {g : AG} {ad : Nat → Nat} {d : Nat} {Q : AO → SG → Prop} {rc rs : Nat} {σ : SG} {x2 x3 : Int} {k1 : Nat} (hk1 : isK k1) (hx2 : iR x2) (hx3 : iR x3) (hS : SR σ) (H : ((12 ≤ x3 → (SR σ → Q (.inl none) σ)) ∧ (¬ 12 ≤ x3 → ((x2 = 0 → (SR σ → Q (.inl none) σ)) ∧ (¬ x2 = 0 → Cl g ad d mX6_readLink 0 0 [(.ref (ad 37))] σ (Kv fun s1 => Cl g ad d mX6_goesOn 0 0 [(.ref (ad 37)), (vi x3)] s1 (Ki fun r2 s2 => iR (x3 + 1) ∧ (iR r2 → iR (x3 + 1) → SR s2 → Wb g ad d mX6_readLesson Q 79 [some (.ref (ad 37)), some (.ref (ad k1)), some (vi r2), some (vi (x3 + 1))] [] s2 rc rs)))))))) : Wb g ad d mX6_readLesson Q 79 [some (.ref (ad 37)), some (.ref (ad k1)), some (vi x2), some (vi x3)] [] σ rc rs := by
  refine sb_iload_n (pc' := 80) rfl rfl dX6_readLesson_79 ?_
  refine sb_bipush (pc' := 82) rfl (z := 12) (by decide) dX6_readLesson_80 ?_
  refine sb_icmp_ge (pc' := 85) (tgt := 105) rfl (by decide) hx3 (iR_lit rfl) dX6_readLesson_82 ?_ ?_
  · intro cc; have H := H.1 cc
    exact sb_vret rfl dX6_readLesson_105 (H hS)
  · intro cc; have H := H.2 cc
    refine sb_iload_n (pc' := 86) rfl rfl dX6_readLesson_85 ?_
    refine sb_if_eq (pc' := 89) (tgt := 105) rfl (by decide) hx2 dX6_readLesson_86 ?_ ?_
    · intro cc; have H := H.1 cc
      exact sb_vret rfl dX6_readLesson_105 (H hS)
    · intro cc; have H := H.2 cc
      refine sb_aload_n (pc' := 90) rfl rfl dX6_readLesson_89 ?_
      obtain ⟨d1, hd1, H⟩ := H
      refine sb_callV (pc' := 93) rfl rfl (rc := rc) (rs := rs) (mc' := 0) (ms' := 0) (As := []) (st := []) of_37 rfl rfl (Nat.le_of_ble_eq_true rfl) hd1 kX6_readLink ⟨wd_1206, wd_1208, wd_78⟩ dX6_readLesson_90 (Eb.mono H ?_)
      rintro o s1 ⟨rfl, hs1, H⟩
      show Wb g ad d mX6_readLesson Q 93 [some (.ref (ad 37)), some (.ref (ad k1)), some (vi x2), some (vi x3)] [] s1 rc rs
      refine sb_aload_n (pc' := 94) rfl rfl dX6_readLesson_93 ?_
      refine sb_iload_n (pc' := 95) rfl rfl dX6_readLesson_94 ?_
      obtain ⟨d2, hd2, H⟩ := H
      refine sb_callV (pc' := 98) rfl rfl (rc := rc) (rs := rs) (mc' := 0) (ms' := 0) (As := [(vi x3)]) (st := []) of_37 rfl rfl (Nat.le_of_ble_eq_true rfl) hd2 kX6_goesOn ⟨wd_1063, wd_1065, wd_65⟩ dX6_readLesson_95 (Eb.mono H ?_)
      rintro o s2 ⟨r2, rfl, hr2, hs2, H⟩
      show Wb g ad d mX6_readLesson Q 98 [some (.ref (ad 37)), some (.ref (ad k1)), some (vi x2), some (vi x3)] [(vi r2)] s2 rc rs
      refine sb_istore_n (pc' := 99) rfl (L' := [some (.ref (ad 37)), some (.ref (ad k1)), some (vi r2), some (vi x3)]) rfl (by decide) dX6_readLesson_98 ?_
      refine sb_iinc (pc' := 102) rfl rfl (L' := [some (.ref (ad 37)), some (.ref (ad k1)), some (vi r2), some (vi (x3 + 1))]) rfl (by decide) dX6_readLesson_99 ?_
      refine sb_goto (tgt := 79) (by decide) dX6_readLesson_102 ?_
      obtain ⟨o3, H⟩ := H
      exact (H hr2 o3 hs2)
theorem bX6_start_0 {g : AG} {ad : Nat → Nat} {d : Nat} {Q : AO → SG → Prop} {rc rs : Nat} {σ : SG} {x2 : Int} {k1 : Nat} (hk1 : isK k1) (hx2 : iR x2) (hS : SR σ) (H : (x2 = 0 ∨ x2 = 1) ∧ Cl g ad d mX6_skipBlanks 0 0 [(.ref (ad 37))] (setS (setS (setS (setS (setS (setS (setR σ 37 16 k1) 37 17 x2) 37 15 0) 37 2 ((-1))) 37 9 0) 37 11 0) 37 13 0) (Kv fun s2 => (SR s2 → Q (.inl none) s2))) : Wb g ad d mX6_start Q 0 [some (.ref (ad 37)), some (.ref (ad k1)), some (vi x2)] [] σ rc rs := by
  refine sb_aload_n (pc' := 1) rfl rfl dX6_start_0 ?_
  refine sb_aload_n (pc' := 2) rfl rfl dX6_start_1 ?_
  refine sb_putR (pc' := 5) rfl fr_37_16 wd_315 dX6_start_2 ?_
  refine sb_aload_n (pc' := 6) rfl rfl dX6_start_5 ?_
  refine sb_iload_n (pc' := 7) rfl rfl dX6_start_6 ?_
  obtain ⟨o1, H⟩ := H
  refine sb_putI (pc' := 10) rfl fi_37_17 (Or.inr o1) wd_316 dX6_start_7 ?_
  refine sb_aload_n (pc' := 11) rfl rfl dX6_start_10 ?_
  refine sb_iconst (pc' := 12) rfl dX6_start_11 ?_
  refine sb_putI (pc' := 15) rfl fi_37_15 (Or.inl rfl) wd_314 dX6_start_12 ?_
  refine sb_aload_n (pc' := 16) rfl rfl dX6_start_15 ?_
  refine sb_iconst (pc' := 17) rfl dX6_start_16 ?_
  refine sb_putI (pc' := 20) rfl fi_37_2 (Or.inl rfl) wd_284 dX6_start_17 ?_
  refine sb_aload_n (pc' := 21) rfl rfl dX6_start_20 ?_
  refine sb_iconst (pc' := 22) rfl dX6_start_21 ?_
  refine sb_putI (pc' := 25) rfl fi_37_9 (Or.inl rfl) wd_298 dX6_start_22 ?_
  refine sb_aload_n (pc' := 26) rfl rfl dX6_start_25 ?_
  refine sb_iconst (pc' := 27) rfl dX6_start_26 ?_
  refine sb_putI (pc' := 30) rfl fi_37_11 (Or.inl rfl) wd_305 dX6_start_27 ?_
  refine sb_aload_n (pc' := 31) rfl rfl dX6_start_30 ?_
  refine sb_iconst (pc' := 32) rfl dX6_start_31 ?_
  refine sb_putI (pc' := 35) rfl fi_37_13 (Or.inl rfl) wd_311 dX6_start_32 ?_
  refine sb_aload_n (pc' := 36) rfl rfl dX6_start_35 ?_
  obtain ⟨d2, hd2, H⟩ := H
  refine sb_callV (pc' := 39) rfl rfl (rc := rc) (rs := rs) (mc' := 0) (ms' := 0) (As := []) (st := []) of_37 rfl rfl (Nat.le_of_ble_eq_true rfl) hd2 kX6_skipBlanks ⟨wd_1011, wd_1013, wd_52⟩ dX6_start_36 (Eb.mono H ?_)
  rintro o s2 ⟨rfl, hs2, H⟩
  show Wb g ad d mX6_start Q 39 [some (.ref (ad 37)), some (.ref (ad k1)), some (vi x2)] [] s2 rc rs
  exact sb_vret rfl dX6_start_39 (H hs2)
theorem bX6_goesOn_0 {g : AG} {ad : Nat → Nat} {d : Nat} {Q : AO → SG → Prop} {rc rs : Nat} {σ : SG} {x1 : Int}  (hx1 : iR x1) (hS : SR σ) (H : Cl g ad d mX6_isRight 0 0 [(.ref (ad 37))] σ (Ki fun r1 s1 => ((r1 = 0 → (iR 0 → SR s1 → Q (.inl (some (vi 0))) s1)) ∧ (¬ r1 = 0 → (((sc s1 37 15) < (sc s1 37 1) → Cl g ad d mX6_expect 0 0 [(.ref (ad 37)), (vi 59)] s1 (Kv fun s2 => iR (x1 + 1) ∧ (((x1 + 1) < 12 → Cl g ad d mX6_isRight 0 0 [(.ref (ad 37))] s2 (Ki fun r4 s4 => (r4 = 0 ∨ r4 = 1) ∧ (iR r4 → SR s4 → Q (.inl (some (vi r4))) s4))) ∧ (¬ (x1 + 1) < 12 → Cl g ad d mX6_fail 0 0 [(.ref (ad 37)), (vi (sc s2 37 15))] s2 (Kv fun s6 => Cl g ad d mX6_isRight 0 0 [(.ref (ad 37))] s6 (Ki fun r7 s7 => (r7 = 0 ∨ r7 = 1) ∧ (iR r7 → SR s7 → Q (.inl (some (vi r7))) s7))))))) ∧ (¬ (sc s1 37 15) < (sc s1 37 1) → (iR 0 → SR s1 → Q (.inl (some (vi 0))) s1))))))) : Wb g ad d mX6_goesOn Q 0 [some (.ref (ad 37)), some (vi x1)] [] σ rc rs := by
  refine sb_aload_n (pc' := 1) rfl rfl dX6_goesOn_0 ?_
  obtain ⟨d1, hd1, H⟩ := H
  refine sb_callV (pc' := 4) rfl rfl (rc := rc) (rs := rs) (mc' := 0) (ms' := 0) (As := []) (st := []) of_37 rfl rfl (Nat.le_of_ble_eq_true rfl) hd1 kX6_isRight ⟨wd_1023, wd_1025, wd_55⟩ dX6_goesOn_1 (Eb.mono H ?_)
  rintro o s1 ⟨r1, rfl, hr1, hs1, H⟩
  show Wb g ad d mX6_goesOn Q 4 [some (.ref (ad 37)), some (vi x1)] [(vi r1)] s1 rc rs
  refine sb_if_eq (pc' := 7) (tgt := 18) rfl (by decide) hr1 dX6_goesOn_4 ?_ ?_
  · intro cc; have H := H.1 cc
    refine sb_iconst (pc' := 19) rfl dX6_goesOn_18 ?_
    exact sb_iret rfl (nar_z2 (Or.inl rfl)) dX6_goesOn_19 (H (iR_lit rfl) hs1)
  · intro cc; have H := H.2 cc
    refine sb_aload_n (pc' := 8) rfl rfl dX6_goesOn_7 ?_
    refine sb_getI (pc' := 11) rfl fi_37_15 wd_314 dX6_goesOn_8 ?_
    refine sb_aload_n (pc' := 12) rfl rfl dX6_goesOn_11 ?_
    refine sb_getI (pc' := 15) rfl fi_37_1 wd_283 dX6_goesOn_12 ?_
    refine sb_icmp_lt (pc' := 18) (tgt := 20) rfl (by decide) (SR_sc hs1 _ _) (SR_sc hs1 _ _) dX6_goesOn_15 ?_ ?_
    · intro cc; have H := H.1 cc
      refine sb_aload_n (pc' := 21) rfl rfl dX6_goesOn_20 ?_
      refine sb_bipush (pc' := 23) rfl (z := 59) (by decide) dX6_goesOn_21 ?_
      obtain ⟨d2, hd2, H⟩ := H
      refine sb_callV (pc' := 26) rfl rfl (rc := rc) (rs := rs) (mc' := 0) (ms' := 0) (As := [(vi 59)]) (st := []) of_37 rfl rfl (Nat.le_of_ble_eq_true rfl) hd2 kX6_expect ⟨wd_1051, wd_1053, wd_62⟩ dX6_goesOn_23 (Eb.mono H ?_)
      rintro o s2 ⟨rfl, hs2, H⟩
      show Wb g ad d mX6_goesOn Q 26 [some (.ref (ad 37)), some (vi x1)] [] s2 rc rs
      refine sb_iload_n (pc' := 27) rfl rfl dX6_goesOn_26 ?_
      refine sb_iconst (pc' := 28) rfl dX6_goesOn_27 ?_
      refine sb_iadd (pc' := 29) rfl dX6_goesOn_28 ?_
      refine sb_bipush (pc' := 31) rfl (z := 12) (by decide) dX6_goesOn_29 ?_
      obtain ⟨o3, H⟩ := H
      refine sb_icmp_lt (pc' := 34) (tgt := 42) rfl (by decide) o3 (iR_lit rfl) dX6_goesOn_31 ?_ ?_
      · intro cc; have H := H.1 cc
        refine sb_aload_n (pc' := 43) rfl rfl dX6_goesOn_42 ?_
        obtain ⟨d4, hd4, H⟩ := H
        refine sb_callV (pc' := 46) rfl rfl (rc := rc) (rs := rs) (mc' := 0) (ms' := 0) (As := []) (st := []) of_37 rfl rfl (Nat.le_of_ble_eq_true rfl) hd4 kX6_isRight ⟨wd_1023, wd_1025, wd_55⟩ dX6_goesOn_43 (Eb.mono H ?_)
        rintro o s4 ⟨r4, rfl, hr4, hs4, H⟩
        show Wb g ad d mX6_goesOn Q 46 [some (.ref (ad 37)), some (vi x1)] [(vi r4)] s4 rc rs
        obtain ⟨o5, H⟩ := H
        exact sb_iret rfl (nar_z2 o5) dX6_goesOn_46 (H hr4 hs4)
      · intro cc; have H := H.2 cc
        refine sb_aload_n (pc' := 35) rfl rfl dX6_goesOn_34 ?_
        refine sb_aload_n (pc' := 36) rfl rfl dX6_goesOn_35 ?_
        refine sb_getI (pc' := 39) rfl fi_37_15 wd_314 dX6_goesOn_36 ?_
        obtain ⟨d6, hd6, H⟩ := H
        refine sb_callV (pc' := 42) rfl rfl (rc := rc) (rs := rs) (mc' := 0) (ms' := 0) (As := [(vi (sc s2 37 15))]) (st := []) of_37 rfl rfl (Nat.le_of_ble_eq_true rfl) hd6 kX6_fail ⟨wd_1035, wd_1037, wd_58⟩ dX6_goesOn_39 (Eb.mono H ?_)
        rintro o s6 ⟨rfl, hs6, H⟩
        show Wb g ad d mX6_goesOn Q 42 [some (.ref (ad 37)), some (vi x1)] [] s6 rc rs
        refine sb_aload_n (pc' := 43) rfl rfl dX6_goesOn_42 ?_
        obtain ⟨d7, hd7, H⟩ := H
        refine sb_callV (pc' := 46) rfl rfl (rc := rc) (rs := rs) (mc' := 0) (ms' := 0) (As := []) (st := []) of_37 rfl rfl (Nat.le_of_ble_eq_true rfl) hd7 kX6_isRight ⟨wd_1023, wd_1025, wd_55⟩ dX6_goesOn_43 (Eb.mono H ?_)
        rintro o s7 ⟨r7, rfl, hr7, hs7, H⟩
        show Wb g ad d mX6_goesOn Q 46 [some (.ref (ad 37)), some (vi x1)] [(vi r7)] s7 rc rs
        obtain ⟨o8, H⟩ := H
        exact sb_iret rfl (nar_z2 o8) dX6_goesOn_46 (H hr7 hs7)
    · intro cc; have H := H.2 cc
      refine sb_iconst (pc' := 19) rfl dX6_goesOn_18 ?_
      exact sb_iret rfl (nar_z2 (Or.inl rfl)) dX6_goesOn_19 (H (iR_lit rfl) hs1)
theorem bX6_readEntry_0 {g : AG} {ad : Nat → Nat} {d : Nat} {Q : AO → SG → Prop} {rc rs : Nat} {σ : SG} {x1 : Int}  (hx1 : iR x1) (hS : SR σ) (H : (0 ≤ x1 ∧ x1 < 12) ∧ Cl g ad d mX6_readWords 0 0 [(.ref (ad 37)), (.ref (ad 40)), (vi (x1 * 3)), (vi 3)] (setI σ 39 x1 (sc σ 37 15)) (Ki fun r2 s2 => Cl g ad d mX6_needSome 0 0 [(.ref (ad 37)), (vi (ia (setI s2 41 x1 r2) 41 x1))] (setI s2 41 x1 r2) (Kv fun s3 => Cl g ad d mX6_expect 0 0 [(.ref (ad 37)), (vi 61)] s3 (Kv fun s4 => Cl g ad d mX6_readWords 0 0 [(.ref (ad 37)), (.ref (ad 42)), (vi (x1 * 3)), (vi 3)] s4 (Ki fun r5 s5 => Cl g ad d mX6_readNumber 0 0 [(.ref (ad 37)), (vi 99)] (setI s5 43 x1 r5) (Ki fun r6 s6 => iR (x1 + 1) ∧ (SR (setS (setI s6 44 x1 r6) 37 9 (x1 + 1)) → Q (.inl none) (setS (setI s6 44 x1 r6) 37 9 (x1 + 1))))))))) : Wb g ad d mX6_readEntry Q 0 [some (.ref (ad 37)), some (vi x1)] [] σ rc rs := by
  refine sb_aload_n (pc' := 1) rfl rfl dX6_readEntry_0 ?_
  refine sb_getC (pc' := 4) rfl fc_37_3 wd_286 dX6_readEntry_1 ?_
  refine sb_iload_n (pc' := 5) rfl rfl dX6_readEntry_4 ?_
  refine sb_aload_n (pc' := 6) rfl rfl dX6_readEntry_5 ?_
  refine sb_getI (pc' := 9) rfl fi_37_15 wd_314 dX6_readEntry_6 ?_
  obtain ⟨o1, H⟩ := H
  refine sb_iast (pc' := 10) rfl aI_39 o1.1 o1.2  dX6_readEntry_9 ?_
  refine sb_aload_n (pc' := 11) rfl rfl dX6_readEntry_10 ?_
  refine sb_getC (pc' := 14) rfl fc_37_5 wd_290 dX6_readEntry_11 ?_
  refine sb_iload_n (pc' := 15) rfl rfl dX6_readEntry_14 ?_
  refine sb_aload_n (pc' := 16) rfl rfl dX6_readEntry_15 ?_
  refine sb_aload_n (pc' := 17) rfl rfl dX6_readEntry_16 ?_
  refine sb_getC (pc' := 20) rfl fc_37_4 wd_288 dX6_readEntry_17 ?_
  refine sb_iload_n (pc' := 21) rfl rfl dX6_readEntry_20 ?_
  refine sb_iconst (pc' := 22) rfl dX6_readEntry_21 ?_
  refine sb_imul (pc' := 23) rfl dX6_readEntry_22 ?_
  refine sb_iconst (pc' := 24) rfl dX6_readEntry_23 ?_
  obtain ⟨d2, hd2, H⟩ := H
  refine sb_callV (pc' := 27) rfl rfl (rc := rc) (rs := rs) (mc' := 0) (ms' := 0) (As := [(.ref (ad 40)), (vi (x1 * 3)), (vi 3)]) (st := [(vi x1), (.ref (ad 41))]) of_37 rfl rfl (Nat.le_of_ble_eq_true rfl) hd2 kX6_readWords ⟨wd_1019, wd_1021, wd_54⟩ dX6_readEntry_24 (Eb.mono H ?_)
  rintro o s2 ⟨r2, rfl, hr2, hs2, H⟩
  show Wb g ad d mX6_readEntry Q 27 [some (.ref (ad 37)), some (vi x1)] [(vi r2), (vi x1), (.ref (ad 41))] s2 rc rs
  refine sb_iast (pc' := 28) rfl aI_41 o1.1 o1.2  dX6_readEntry_27 ?_
  refine sb_aload_n (pc' := 29) rfl rfl dX6_readEntry_28 ?_
  refine sb_aload_n (pc' := 30) rfl rfl dX6_readEntry_29 ?_
  refine sb_getC (pc' := 33) rfl fc_37_5 wd_290 dX6_readEntry_30 ?_
  refine sb_iload_n (pc' := 34) rfl rfl dX6_readEntry_33 ?_
  refine sb_iald (pc' := 35) rfl aI_41 o1.1 o1.2 dX6_readEntry_34 ?_
  obtain ⟨d3, hd3, H⟩ := H
  refine sb_callV (pc' := 38) rfl rfl (rc := rc) (rs := rs) (mc' := 0) (ms' := 0) (As := [(vi (ia (setI s2 41 x1 r2) 41 x1))]) (st := []) of_37 rfl rfl (Nat.le_of_ble_eq_true rfl) hd3 kX6_needSome ⟨wd_1047, wd_1049, wd_61⟩ dX6_readEntry_35 (Eb.mono H ?_)
  rintro o s3 ⟨rfl, hs3, H⟩
  show Wb g ad d mX6_readEntry Q 38 [some (.ref (ad 37)), some (vi x1)] [] s3 rc rs
  refine sb_aload_n (pc' := 39) rfl rfl dX6_readEntry_38 ?_
  refine sb_bipush (pc' := 41) rfl (z := 61) (by decide) dX6_readEntry_39 ?_
  obtain ⟨d4, hd4, H⟩ := H
  refine sb_callV (pc' := 44) rfl rfl (rc := rc) (rs := rs) (mc' := 0) (ms' := 0) (As := [(vi 61)]) (st := []) of_37 rfl rfl (Nat.le_of_ble_eq_true rfl) hd4 kX6_expect ⟨wd_1051, wd_1053, wd_62⟩ dX6_readEntry_41 (Eb.mono H ?_)
  rintro o s4 ⟨rfl, hs4, H⟩
  show Wb g ad d mX6_readEntry Q 44 [some (.ref (ad 37)), some (vi x1)] [] s4 rc rs
  refine sb_aload_n (pc' := 45) rfl rfl dX6_readEntry_44 ?_
  refine sb_getC (pc' := 48) rfl fc_37_7 wd_294 dX6_readEntry_45 ?_
  refine sb_iload_n (pc' := 49) rfl rfl dX6_readEntry_48 ?_
  refine sb_aload_n (pc' := 50) rfl rfl dX6_readEntry_49 ?_
  refine sb_aload_n (pc' := 51) rfl rfl dX6_readEntry_50 ?_
  refine sb_getC (pc' := 54) rfl fc_37_6 wd_292 dX6_readEntry_51 ?_
  refine sb_iload_n (pc' := 55) rfl rfl dX6_readEntry_54 ?_
  refine sb_iconst (pc' := 56) rfl dX6_readEntry_55 ?_
  refine sb_imul (pc' := 57) rfl dX6_readEntry_56 ?_
  refine sb_iconst (pc' := 58) rfl dX6_readEntry_57 ?_
  obtain ⟨d5, hd5, H⟩ := H
  refine sb_callV (pc' := 61) rfl rfl (rc := rc) (rs := rs) (mc' := 0) (ms' := 0) (As := [(.ref (ad 42)), (vi (x1 * 3)), (vi 3)]) (st := [(vi x1), (.ref (ad 43))]) of_37 rfl rfl (Nat.le_of_ble_eq_true rfl) hd5 kX6_readWords ⟨wd_1019, wd_1021, wd_54⟩ dX6_readEntry_58 (Eb.mono H ?_)
  rintro o s5 ⟨r5, rfl, hr5, hs5, H⟩
  show Wb g ad d mX6_readEntry Q 61 [some (.ref (ad 37)), some (vi x1)] [(vi r5), (vi x1), (.ref (ad 43))] s5 rc rs
  refine sb_iast (pc' := 62) rfl aI_43 o1.1 o1.2  dX6_readEntry_61 ?_
  refine sb_aload_n (pc' := 63) rfl rfl dX6_readEntry_62 ?_
  refine sb_getC (pc' := 66) rfl fc_37_8 wd_296 dX6_readEntry_63 ?_
  refine sb_iload_n (pc' := 67) rfl rfl dX6_readEntry_66 ?_
  refine sb_aload_n (pc' := 68) rfl rfl dX6_readEntry_67 ?_
  refine sb_bipush (pc' := 70) rfl (z := 99) (by decide) dX6_readEntry_68 ?_
  obtain ⟨d6, hd6, H⟩ := H
  refine sb_callV (pc' := 73) rfl rfl (rc := rc) (rs := rs) (mc' := 0) (ms' := 0) (As := [(vi 99)]) (st := [(vi x1), (.ref (ad 44))]) of_37 rfl rfl (Nat.le_of_ble_eq_true rfl) hd6 kX6_readNumber ⟨wd_1059, wd_1061, wd_64⟩ dX6_readEntry_70 (Eb.mono H ?_)
  rintro o s6 ⟨r6, rfl, hr6, hs6, H⟩
  show Wb g ad d mX6_readEntry Q 73 [some (.ref (ad 37)), some (vi x1)] [(vi r6), (vi x1), (.ref (ad 44))] s6 rc rs
  refine sb_iast (pc' := 74) rfl aI_44 o1.1 o1.2  dX6_readEntry_73 ?_
  refine sb_aload_n (pc' := 75) rfl rfl dX6_readEntry_74 ?_
  refine sb_iload_n (pc' := 76) rfl rfl dX6_readEntry_75 ?_
  refine sb_iconst (pc' := 77) rfl dX6_readEntry_76 ?_
  refine sb_iadd (pc' := 78) rfl dX6_readEntry_77 ?_
  obtain ⟨o7, H⟩ := H
  refine sb_putI (pc' := 81) rfl fi_37_9 (Or.inl rfl) wd_298 dX6_readEntry_78 ?_
  exact sb_vret rfl dX6_readEntry_81 (H (SR_setS (SR_setI hs6 hr6) o7))
theorem bX6_readPair_0 {g : AG} {ad : Nat → Nat} {d : Nat} {Q : AO → SG → Prop} {rc rs : Nat} {σ : SG} {x1 : Int}  (hx1 : iR x1) (hS : SR σ) (H : (0 ≤ x1 ∧ x1 < 12) ∧ Cl g ad d mX6_take 0 0 [(.ref (ad 37)), (vi 94)] (setI σ 39 x1 (sc σ 37 15)) (Ki fun r2 s2 => ((r2 = 0 → Cl g ad d mX6_readWord 0 0 [(.ref (ad 37))] s2 (Ki fun r3 s3 => (0 ≤ x1 * 3 ∧ x1 * 3 < 36) ∧ Cl g ad d mX6_take 0 0 [(.ref (ad 37)), (vi 36)] (setI s3 40 (x1 * 3) r3) (Ki fun r5 s5 => ((r5 = 0 → Cl g ad d mX6_readWord 0 0 [(.ref (ad 37))] s5 (Ki fun r6 s6 => Cl g ad d mX6_readNumber 0 0 [(.ref (ad 37)), (vi 99)] (setI s6 42 (x1 * 3) r6) (Ki fun r7 s7 => iR (x1 + 1) ∧ (SR (setS (setI s7 44 x1 r7) 37 9 (x1 + 1)) → Q (.inl none) (setS (setI s7 44 x1 r7) 37 9 (x1 + 1)))))) ∧ (¬ r5 = 0 → Cl g ad d mX6_readNumber 0 0 [(.ref (ad 37)), (vi 99)] (setI s5 42 (x1 * 3) 40) (Ki fun r9 s9 => iR (x1 + 1) ∧ (SR (setS (setI s9 44 x1 r9) 37 9 (x1 + 1)) → Q (.inl none) (setS (setI s9 44 x1 r9) 37 9 (x1 + 1))))))))) ∧ (¬ r2 = 0 → (0 ≤ x1 * 3 ∧ x1 * 3 < 36) ∧ Cl g ad d mX6_take 0 0 [(.ref (ad 37)), (vi 36)] (setI s2 40 (x1 * 3) 40) (Ki fun r12 s12 => ((r12 = 0 → Cl g ad d mX6_readWord 0 0 [(.ref (ad 37))] s12 (Ki fun r13 s13 => Cl g ad d mX6_readNumber 0 0 [(.ref (ad 37)), (vi 99)] (setI s13 42 (x1 * 3) r13) (Ki fun r14 s14 => iR (x1 + 1) ∧ (SR (setS (setI s14 44 x1 r14) 37 9 (x1 + 1)) → Q (.inl none) (setS (setI s14 44 x1 r14) 37 9 (x1 + 1)))))) ∧ (¬ r12 = 0 → Cl g ad d mX6_readNumber 0 0 [(.ref (ad 37)), (vi 99)] (setI s12 42 (x1 * 3) 40) (Ki fun r16 s16 => iR (x1 + 1) ∧ (SR (setS (setI s16 44 x1 r16) 37 9 (x1 + 1)) → Q (.inl none) (setS (setI s16 44 x1 r16) 37 9 (x1 + 1))))))))))) : Wb g ad d mX6_readPair Q 0 [some (.ref (ad 37)), some (vi x1)] [] σ rc rs := by
  refine sb_aload_n (pc' := 1) rfl rfl dX6_readPair_0 ?_
  refine sb_getC (pc' := 4) rfl fc_37_3 wd_286 dX6_readPair_1 ?_
  refine sb_iload_n (pc' := 5) rfl rfl dX6_readPair_4 ?_
  refine sb_aload_n (pc' := 6) rfl rfl dX6_readPair_5 ?_
  refine sb_getI (pc' := 9) rfl fi_37_15 wd_314 dX6_readPair_6 ?_
  obtain ⟨o1, H⟩ := H
  refine sb_iast (pc' := 10) rfl aI_39 o1.1 o1.2  dX6_readPair_9 ?_
  refine sb_aload_n (pc' := 11) rfl rfl dX6_readPair_10 ?_
  refine sb_getC (pc' := 14) rfl fc_37_4 wd_288 dX6_readPair_11 ?_
  refine sb_iload_n (pc' := 15) rfl rfl dX6_readPair_14 ?_
  refine sb_iconst (pc' := 16) rfl dX6_readPair_15 ?_
  refine sb_imul (pc' := 17) rfl dX6_readPair_16 ?_
  refine sb_aload_n (pc' := 18) rfl rfl dX6_readPair_17 ?_
  refine sb_bipush (pc' := 20) rfl (z := 94) (by decide) dX6_readPair_18 ?_
  obtain ⟨d2, hd2, H⟩ := H
  refine sb_callV (pc' := 23) rfl rfl (rc := rc) (rs := rs) (mc' := 0) (ms' := 0) (As := [(vi 94)]) (st := [(vi (x1 * 3)), (.ref (ad 40))]) of_37 rfl rfl (Nat.le_of_ble_eq_true rfl) hd2 kX6_take ⟨wd_1055, wd_1057, wd_63⟩ dX6_readPair_20 (Eb.mono H ?_)
  rintro o s2 ⟨r2, rfl, hr2, hs2, H⟩
  show Wb g ad d mX6_readPair Q 23 [some (.ref (ad 37)), some (vi x1)] [(vi r2), (vi (x1 * 3)), (.ref (ad 40))] s2 rc rs
  refine sb_if_eq (pc' := 26) (tgt := 31) rfl (by decide) hr2 dX6_readPair_23 ?_ ?_
  · intro cc; have H := H.1 cc
    refine sb_aload_n (pc' := 32) rfl rfl dX6_readPair_31 ?_
    obtain ⟨d3, hd3, H⟩ := H
    refine sb_callV (pc' := 35) rfl rfl (rc := rc) (rs := rs) (mc' := 0) (ms' := 0) (As := []) (st := [(vi (x1 * 3)), (.ref (ad 40))]) of_37 rfl rfl (Nat.le_of_ble_eq_true rfl) hd3 kX6_readWord ⟨wd_1031, wd_1033, wd_57⟩ dX6_readPair_32 (Eb.mono H ?_)
    rintro o s3 ⟨r3, rfl, hr3, hs3, H⟩
    show Wb g ad d mX6_readPair Q 35 [some (.ref (ad 37)), some (vi x1)] [(vi r3), (vi (x1 * 3)), (.ref (ad 40))] s3 rc rs
    obtain ⟨o4, H⟩ := H
    refine sb_iast (pc' := 36) rfl aI_40 o4.1 o4.2  dX6_readPair_35 ?_
    refine sb_aload_n (pc' := 37) rfl rfl dX6_readPair_36 ?_
    refine sb_getC (pc' := 40) rfl fc_37_6 wd_292 dX6_readPair_37 ?_
    refine sb_iload_n (pc' := 41) rfl rfl dX6_readPair_40 ?_
    refine sb_iconst (pc' := 42) rfl dX6_readPair_41 ?_
    refine sb_imul (pc' := 43) rfl dX6_readPair_42 ?_
    refine sb_aload_n (pc' := 44) rfl rfl dX6_readPair_43 ?_
    refine sb_bipush (pc' := 46) rfl (z := 36) (by decide) dX6_readPair_44 ?_
    obtain ⟨d5, hd5, H⟩ := H
    refine sb_callV (pc' := 49) rfl rfl (rc := rc) (rs := rs) (mc' := 0) (ms' := 0) (As := [(vi 36)]) (st := [(vi (x1 * 3)), (.ref (ad 42))]) of_37 rfl rfl (Nat.le_of_ble_eq_true rfl) hd5 kX6_take ⟨wd_1055, wd_1057, wd_63⟩ dX6_readPair_46 (Eb.mono H ?_)
    rintro o s5 ⟨r5, rfl, hr5, hs5, H⟩
    show Wb g ad d mX6_readPair Q 49 [some (.ref (ad 37)), some (vi x1)] [(vi r5), (vi (x1 * 3)), (.ref (ad 42))] s5 rc rs
    refine sb_if_eq (pc' := 52) (tgt := 57) rfl (by decide) hr5 dX6_readPair_49 ?_ ?_
    · intro cc; have H := H.1 cc
      refine sb_aload_n (pc' := 58) rfl rfl dX6_readPair_57 ?_
      obtain ⟨d6, hd6, H⟩ := H
      refine sb_callV (pc' := 61) rfl rfl (rc := rc) (rs := rs) (mc' := 0) (ms' := 0) (As := []) (st := [(vi (x1 * 3)), (.ref (ad 42))]) of_37 rfl rfl (Nat.le_of_ble_eq_true rfl) hd6 kX6_readWord ⟨wd_1031, wd_1033, wd_57⟩ dX6_readPair_58 (Eb.mono H ?_)
      rintro o s6 ⟨r6, rfl, hr6, hs6, H⟩
      show Wb g ad d mX6_readPair Q 61 [some (.ref (ad 37)), some (vi x1)] [(vi r6), (vi (x1 * 3)), (.ref (ad 42))] s6 rc rs
      refine sb_iast (pc' := 62) rfl aI_42 o4.1 o4.2  dX6_readPair_61 ?_
      refine sb_aload_n (pc' := 63) rfl rfl dX6_readPair_62 ?_
      refine sb_getC (pc' := 66) rfl fc_37_8 wd_296 dX6_readPair_63 ?_
      refine sb_iload_n (pc' := 67) rfl rfl dX6_readPair_66 ?_
      refine sb_aload_n (pc' := 68) rfl rfl dX6_readPair_67 ?_
      refine sb_bipush (pc' := 70) rfl (z := 99) (by decide) dX6_readPair_68 ?_
      obtain ⟨d7, hd7, H⟩ := H
      refine sb_callV (pc' := 73) rfl rfl (rc := rc) (rs := rs) (mc' := 0) (ms' := 0) (As := [(vi 99)]) (st := [(vi x1), (.ref (ad 44))]) of_37 rfl rfl (Nat.le_of_ble_eq_true rfl) hd7 kX6_readNumber ⟨wd_1059, wd_1061, wd_64⟩ dX6_readPair_70 (Eb.mono H ?_)
      rintro o s7 ⟨r7, rfl, hr7, hs7, H⟩
      show Wb g ad d mX6_readPair Q 73 [some (.ref (ad 37)), some (vi x1)] [(vi r7), (vi x1), (.ref (ad 44))] s7 rc rs
      refine sb_iast (pc' := 74) rfl aI_44 o1.1 o1.2  dX6_readPair_73 ?_
      refine sb_aload_n (pc' := 75) rfl rfl dX6_readPair_74 ?_
      refine sb_iload_n (pc' := 76) rfl rfl dX6_readPair_75 ?_
      refine sb_iconst (pc' := 77) rfl dX6_readPair_76 ?_
      refine sb_iadd (pc' := 78) rfl dX6_readPair_77 ?_
      obtain ⟨o8, H⟩ := H
      refine sb_putI (pc' := 81) rfl fi_37_9 (Or.inl rfl) wd_298 dX6_readPair_78 ?_
      exact sb_vret rfl dX6_readPair_81 (H (SR_setS (SR_setI hs7 hr7) o8))
    · intro cc; have H := H.2 cc
      refine sb_bipush (pc' := 54) rfl (z := 40) (by decide) dX6_readPair_52 ?_
      refine sb_goto (tgt := 61) (by decide) dX6_readPair_54 ?_
      refine sb_iast (pc' := 62) rfl aI_42 o4.1 o4.2  dX6_readPair_61 ?_
      refine sb_aload_n (pc' := 63) rfl rfl dX6_readPair_62 ?_
      refine sb_getC (pc' := 66) rfl fc_37_8 wd_296 dX6_readPair_63 ?_
      refine sb_iload_n (pc' := 67) rfl rfl dX6_readPair_66 ?_
      refine sb_aload_n (pc' := 68) rfl rfl dX6_readPair_67 ?_
      refine sb_bipush (pc' := 70) rfl (z := 99) (by decide) dX6_readPair_68 ?_
      obtain ⟨d9, hd9, H⟩ := H
      refine sb_callV (pc' := 73) rfl rfl (rc := rc) (rs := rs) (mc' := 0) (ms' := 0) (As := [(vi 99)]) (st := [(vi x1), (.ref (ad 44))]) of_37 rfl rfl (Nat.le_of_ble_eq_true rfl) hd9 kX6_readNumber ⟨wd_1059, wd_1061, wd_64⟩ dX6_readPair_70 (Eb.mono H ?_)
      rintro o s9 ⟨r9, rfl, hr9, hs9, H⟩
      show Wb g ad d mX6_readPair Q 73 [some (.ref (ad 37)), some (vi x1)] [(vi r9), (vi x1), (.ref (ad 44))] s9 rc rs
      refine sb_iast (pc' := 74) rfl aI_44 o1.1 o1.2  dX6_readPair_73 ?_
      refine sb_aload_n (pc' := 75) rfl rfl dX6_readPair_74 ?_
      refine sb_iload_n (pc' := 76) rfl rfl dX6_readPair_75 ?_
      refine sb_iconst (pc' := 77) rfl dX6_readPair_76 ?_
      refine sb_iadd (pc' := 78) rfl dX6_readPair_77 ?_
      obtain ⟨o10, H⟩ := H
      refine sb_putI (pc' := 81) rfl fi_37_9 (Or.inl rfl) wd_298 dX6_readPair_78 ?_
      exact sb_vret rfl dX6_readPair_81 (H (SR_setS (SR_setI hs9 hr9) o10))
  · intro cc; have H := H.2 cc
    refine sb_bipush (pc' := 28) rfl (z := 40) (by decide) dX6_readPair_26 ?_
    refine sb_goto (tgt := 35) (by decide) dX6_readPair_28 ?_
    obtain ⟨o11, H⟩ := H
    refine sb_iast (pc' := 36) rfl aI_40 o11.1 o11.2  dX6_readPair_35 ?_
    refine sb_aload_n (pc' := 37) rfl rfl dX6_readPair_36 ?_
    refine sb_getC (pc' := 40) rfl fc_37_6 wd_292 dX6_readPair_37 ?_
    refine sb_iload_n (pc' := 41) rfl rfl dX6_readPair_40 ?_
    refine sb_iconst (pc' := 42) rfl dX6_readPair_41 ?_
    refine sb_imul (pc' := 43) rfl dX6_readPair_42 ?_
    refine sb_aload_n (pc' := 44) rfl rfl dX6_readPair_43 ?_
    refine sb_bipush (pc' := 46) rfl (z := 36) (by decide) dX6_readPair_44 ?_
    obtain ⟨d12, hd12, H⟩ := H
    refine sb_callV (pc' := 49) rfl rfl (rc := rc) (rs := rs) (mc' := 0) (ms' := 0) (As := [(vi 36)]) (st := [(vi (x1 * 3)), (.ref (ad 42))]) of_37 rfl rfl (Nat.le_of_ble_eq_true rfl) hd12 kX6_take ⟨wd_1055, wd_1057, wd_63⟩ dX6_readPair_46 (Eb.mono H ?_)
    rintro o s12 ⟨r12, rfl, hr12, hs12, H⟩
    show Wb g ad d mX6_readPair Q 49 [some (.ref (ad 37)), some (vi x1)] [(vi r12), (vi (x1 * 3)), (.ref (ad 42))] s12 rc rs
    refine sb_if_eq (pc' := 52) (tgt := 57) rfl (by decide) hr12 dX6_readPair_49 ?_ ?_
    · intro cc; have H := H.1 cc
      refine sb_aload_n (pc' := 58) rfl rfl dX6_readPair_57 ?_
      obtain ⟨d13, hd13, H⟩ := H
      refine sb_callV (pc' := 61) rfl rfl (rc := rc) (rs := rs) (mc' := 0) (ms' := 0) (As := []) (st := [(vi (x1 * 3)), (.ref (ad 42))]) of_37 rfl rfl (Nat.le_of_ble_eq_true rfl) hd13 kX6_readWord ⟨wd_1031, wd_1033, wd_57⟩ dX6_readPair_58 (Eb.mono H ?_)
      rintro o s13 ⟨r13, rfl, hr13, hs13, H⟩
      show Wb g ad d mX6_readPair Q 61 [some (.ref (ad 37)), some (vi x1)] [(vi r13), (vi (x1 * 3)), (.ref (ad 42))] s13 rc rs
      refine sb_iast (pc' := 62) rfl aI_42 o11.1 o11.2  dX6_readPair_61 ?_
      refine sb_aload_n (pc' := 63) rfl rfl dX6_readPair_62 ?_
      refine sb_getC (pc' := 66) rfl fc_37_8 wd_296 dX6_readPair_63 ?_
      refine sb_iload_n (pc' := 67) rfl rfl dX6_readPair_66 ?_
      refine sb_aload_n (pc' := 68) rfl rfl dX6_readPair_67 ?_
      refine sb_bipush (pc' := 70) rfl (z := 99) (by decide) dX6_readPair_68 ?_
      obtain ⟨d14, hd14, H⟩ := H
      refine sb_callV (pc' := 73) rfl rfl (rc := rc) (rs := rs) (mc' := 0) (ms' := 0) (As := [(vi 99)]) (st := [(vi x1), (.ref (ad 44))]) of_37 rfl rfl (Nat.le_of_ble_eq_true rfl) hd14 kX6_readNumber ⟨wd_1059, wd_1061, wd_64⟩ dX6_readPair_70 (Eb.mono H ?_)
      rintro o s14 ⟨r14, rfl, hr14, hs14, H⟩
      show Wb g ad d mX6_readPair Q 73 [some (.ref (ad 37)), some (vi x1)] [(vi r14), (vi x1), (.ref (ad 44))] s14 rc rs
      refine sb_iast (pc' := 74) rfl aI_44 o1.1 o1.2  dX6_readPair_73 ?_
      refine sb_aload_n (pc' := 75) rfl rfl dX6_readPair_74 ?_
      refine sb_iload_n (pc' := 76) rfl rfl dX6_readPair_75 ?_
      refine sb_iconst (pc' := 77) rfl dX6_readPair_76 ?_
      refine sb_iadd (pc' := 78) rfl dX6_readPair_77 ?_
      obtain ⟨o15, H⟩ := H
      refine sb_putI (pc' := 81) rfl fi_37_9 (Or.inl rfl) wd_298 dX6_readPair_78 ?_
      exact sb_vret rfl dX6_readPair_81 (H (SR_setS (SR_setI hs14 hr14) o15))
    · intro cc; have H := H.2 cc
      refine sb_bipush (pc' := 54) rfl (z := 40) (by decide) dX6_readPair_52 ?_
      refine sb_goto (tgt := 61) (by decide) dX6_readPair_54 ?_
      refine sb_iast (pc' := 62) rfl aI_42 o11.1 o11.2  dX6_readPair_61 ?_
      refine sb_aload_n (pc' := 63) rfl rfl dX6_readPair_62 ?_
      refine sb_getC (pc' := 66) rfl fc_37_8 wd_296 dX6_readPair_63 ?_
      refine sb_iload_n (pc' := 67) rfl rfl dX6_readPair_66 ?_
      refine sb_aload_n (pc' := 68) rfl rfl dX6_readPair_67 ?_
      refine sb_bipush (pc' := 70) rfl (z := 99) (by decide) dX6_readPair_68 ?_
      obtain ⟨d16, hd16, H⟩ := H
      refine sb_callV (pc' := 73) rfl rfl (rc := rc) (rs := rs) (mc' := 0) (ms' := 0) (As := [(vi 99)]) (st := [(vi x1), (.ref (ad 44))]) of_37 rfl rfl (Nat.le_of_ble_eq_true rfl) hd16 kX6_readNumber ⟨wd_1059, wd_1061, wd_64⟩ dX6_readPair_70 (Eb.mono H ?_)
      rintro o s16 ⟨r16, rfl, hr16, hs16, H⟩
      show Wb g ad d mX6_readPair Q 73 [some (.ref (ad 37)), some (vi x1)] [(vi r16), (vi x1), (.ref (ad 44))] s16 rc rs
      refine sb_iast (pc' := 74) rfl aI_44 o1.1 o1.2  dX6_readPair_73 ?_
      refine sb_aload_n (pc' := 75) rfl rfl dX6_readPair_74 ?_
      refine sb_iload_n (pc' := 76) rfl rfl dX6_readPair_75 ?_
      refine sb_iconst (pc' := 77) rfl dX6_readPair_76 ?_
      refine sb_iadd (pc' := 78) rfl dX6_readPair_77 ?_
      obtain ⟨o17, H⟩ := H
      refine sb_putI (pc' := 81) rfl fi_37_9 (Or.inl rfl) wd_298 dX6_readPair_78 ?_
      exact sb_vret rfl dX6_readPair_81 (H (SR_setS (SR_setI hs16 hr16) o17))
theorem bX6_readLink_0 {g : AG} {ad : Nat → Nat} {d : Nat} {Q : AO → SG → Prop} {rc rs : Nat} {σ : SG}    (hS : SR σ) (H : Cl g ad d mX6_readNumber 0 0 [(.ref (ad 37)), (vi ((sc σ 37 11) - 1))] σ (Ki fun r1 s1 => Cl g ad d mX6_readNumber 0 0 [(.ref (ad 37)), (vi ((sc s1 37 13) - 1))] s1 (Ki fun r2 s2 => ((r1 = ((-1)) → (SR s2 → Q (.inl none) s2)) ∧ (¬ r1 = ((-1)) → ((¬ r2 = ((-1)) → (0 ≤ r1 ∧ r1 < 6) ∧ (((bAnd (bShr (ia s2 47 r1) r2) 1) = 0 → (SR (setI s2 47 r1 (bOr (ia s2 47 r1) (bShl 1 r2))) → Q (.inl none) (setI s2 47 r1 (bOr (ia s2 47 r1) (bShl 1 r2))))) ∧ (¬ (bAnd (bShr (ia s2 47 r1) r2) 1) = 0 → Cl g ad d mX6_fail 0 0 [(.ref (ad 37)), (vi (sc σ 37 15))] s2 (Kv fun s4 => (SR (setI s4 47 r1 (bOr (ia s4 47 r1) (bShl 1 r2))) → Q (.inl none) (setI s4 47 r1 (bOr (ia s4 47 r1) (bShl 1 r2)))))))) ∧ (r2 = ((-1)) → (SR s2 → Q (.inl none) s2)))))))) : Wb g ad d mX6_readLink Q 0 [some (.ref (ad 37)), none, none, none] [] σ rc rs := by
  refine sb_aload_n (pc' := 1) rfl rfl dX6_readLink_0 ?_
  refine sb_getI (pc' := 4) rfl fi_37_15 wd_314 dX6_readLink_1 ?_
  refine sb_istore_n (pc' := 5) rfl (L' := [some (.ref (ad 37)), some (vi (sc σ 37 15)), none, none]) rfl (by decide) dX6_readLink_4 ?_
  refine sb_aload_n (pc' := 6) rfl rfl dX6_readLink_5 ?_
  refine sb_aload_n (pc' := 7) rfl rfl dX6_readLink_6 ?_
  refine sb_getI (pc' := 10) rfl fi_37_11 wd_305 dX6_readLink_7 ?_
  refine sb_iconst (pc' := 11) rfl dX6_readLink_10 ?_
  refine sb_isub (pc' := 12) rfl dX6_readLink_11 ?_
  obtain ⟨d1, hd1, H⟩ := H
  refine sb_callV (pc' := 15) rfl rfl (rc := rc) (rs := rs) (mc' := 0) (ms' := 0) (As := [(vi ((sc σ 37 11) - 1))]) (st := []) of_37 rfl rfl (Nat.le_of_ble_eq_true rfl) hd1 kX6_readNumber ⟨wd_1059, wd_1061, wd_64⟩ dX6_readLink_12 (Eb.mono H ?_)
  rintro o s1 ⟨r1, rfl, hr1, hs1, H⟩
  show Wb g ad d mX6_readLink Q 15 [some (.ref (ad 37)), some (vi (sc σ 37 15)), none, none] [(vi r1)] s1 rc rs
  refine sb_istore_n (pc' := 16) rfl (L' := [some (.ref (ad 37)), some (vi (sc σ 37 15)), some (vi r1), none]) rfl (by decide) dX6_readLink_15 ?_
  refine sb_aload_n (pc' := 17) rfl rfl dX6_readLink_16 ?_
  refine sb_aload_n (pc' := 18) rfl rfl dX6_readLink_17 ?_
  refine sb_getI (pc' := 21) rfl fi_37_13 wd_311 dX6_readLink_18 ?_
  refine sb_iconst (pc' := 22) rfl dX6_readLink_21 ?_
  refine sb_isub (pc' := 23) rfl dX6_readLink_22 ?_
  obtain ⟨d2, hd2, H⟩ := H
  refine sb_callV (pc' := 26) rfl rfl (rc := rc) (rs := rs) (mc' := 0) (ms' := 0) (As := [(vi ((sc s1 37 13) - 1))]) (st := []) of_37 rfl rfl (Nat.le_of_ble_eq_true rfl) hd2 kX6_readNumber ⟨wd_1059, wd_1061, wd_64⟩ dX6_readLink_23 (Eb.mono H ?_)
  rintro o s2 ⟨r2, rfl, hr2, hs2, H⟩
  show Wb g ad d mX6_readLink Q 26 [some (.ref (ad 37)), some (vi (sc σ 37 15)), some (vi r1), none] [(vi r2)] s2 rc rs
  refine sb_istore_n (pc' := 27) rfl (L' := [some (.ref (ad 37)), some (vi (sc σ 37 15)), some (vi r1), some (vi r2)]) rfl (by decide) dX6_readLink_26 ?_
  refine sb_iload_n (pc' := 28) rfl rfl dX6_readLink_27 ?_
  refine sb_iconst (pc' := 29) rfl dX6_readLink_28 ?_
  refine sb_icmp_eq (pc' := 32) (tgt := 37) rfl (by decide) hr1 (iR_lit rfl) dX6_readLink_29 ?_ ?_
  · intro cc; have H := H.1 cc
    exact sb_vret rfl dX6_readLink_37 (H hs2)
  · intro cc; have H := H.2 cc
    refine sb_iload_n (pc' := 33) rfl rfl dX6_readLink_32 ?_
    refine sb_iconst (pc' := 34) rfl dX6_readLink_33 ?_
    refine sb_icmp_ne (pc' := 37) (tgt := 38) rfl (by decide) hr2 (iR_lit rfl) dX6_readLink_34 ?_ ?_
    · intro cc; have H := H.1 cc
      refine sb_aload_n (pc' := 39) rfl rfl dX6_readLink_38 ?_
      refine sb_getC (pc' := 42) rfl fc_37_14 wd_312 dX6_readLink_39 ?_
      refine sb_iload_n (pc' := 43) rfl rfl dX6_readLink_42 ?_
      obtain ⟨o3, H⟩ := H
      refine sb_iald (pc' := 44) rfl aI_47 o3.1 o3.2 dX6_readLink_43 ?_
      refine sb_iload_n (pc' := 45) rfl rfl dX6_readLink_44 ?_
      refine sb_ishr (pc' := 46) rfl dX6_readLink_45 ?_
      refine sb_iconst (pc' := 47) rfl dX6_readLink_46 ?_
      refine sb_iand (pc' := 48) rfl dX6_readLink_47 ?_
      refine sb_if_eq (pc' := 51) (tgt := 56) rfl (by decide) (iR_b _) dX6_readLink_48 ?_ ?_
      · intro cc; have H := H.1 cc
        refine sb_aload_n (pc' := 57) rfl rfl dX6_readLink_56 ?_
        refine sb_getC (pc' := 60) rfl fc_37_14 wd_312 dX6_readLink_57 ?_
        refine sb_iload_n (pc' := 61) rfl rfl dX6_readLink_60 ?_
        refine sb_dup2 (pc' := 62) rfl rfl rfl dX6_readLink_61 ?_
        refine sb_iald (pc' := 63) rfl aI_47 o3.1 o3.2 dX6_readLink_62 ?_
        refine sb_iconst (pc' := 64) rfl dX6_readLink_63 ?_
        refine sb_iload_n (pc' := 65) rfl rfl dX6_readLink_64 ?_
        refine sb_ishl (pc' := 66) rfl dX6_readLink_65 ?_
        refine sb_ior (pc' := 67) rfl dX6_readLink_66 ?_
        refine sb_iast (pc' := 68) rfl aI_47 o3.1 o3.2  dX6_readLink_67 ?_
        exact sb_vret rfl dX6_readLink_68 (H (SR_setI hs2 (iR_b _)))
      · intro cc; have H := H.2 cc
        refine sb_aload_n (pc' := 52) rfl rfl dX6_readLink_51 ?_
        refine sb_iload_n (pc' := 53) rfl rfl dX6_readLink_52 ?_
        obtain ⟨d4, hd4, H⟩ := H
        refine sb_callV (pc' := 56) rfl rfl (rc := rc) (rs := rs) (mc' := 0) (ms' := 0) (As := [(vi (sc σ 37 15))]) (st := []) of_37 rfl rfl (Nat.le_of_ble_eq_true rfl) hd4 kX6_fail ⟨wd_1035, wd_1037, wd_58⟩ dX6_readLink_53 (Eb.mono H ?_)
        rintro o s4 ⟨rfl, hs4, H⟩
        show Wb g ad d mX6_readLink Q 56 [some (.ref (ad 37)), some (vi (sc σ 37 15)), some (vi r1), some (vi r2)] [] s4 rc rs
        refine sb_aload_n (pc' := 57) rfl rfl dX6_readLink_56 ?_
        refine sb_getC (pc' := 60) rfl fc_37_14 wd_312 dX6_readLink_57 ?_
        refine sb_iload_n (pc' := 61) rfl rfl dX6_readLink_60 ?_
        refine sb_dup2 (pc' := 62) rfl rfl rfl dX6_readLink_61 ?_
        refine sb_iald (pc' := 63) rfl aI_47 o3.1 o3.2 dX6_readLink_62 ?_
        refine sb_iconst (pc' := 64) rfl dX6_readLink_63 ?_
        refine sb_iload_n (pc' := 65) rfl rfl dX6_readLink_64 ?_
        refine sb_ishl (pc' := 66) rfl dX6_readLink_65 ?_
        refine sb_ior (pc' := 67) rfl dX6_readLink_66 ?_
        refine sb_iast (pc' := 68) rfl aI_47 o3.1 o3.2  dX6_readLink_67 ?_
        exact sb_vret rfl dX6_readLink_68 (H (SR_setI hs4 (iR_b _)))
    · intro cc; have H := H.2 cc
      exact sb_vret rfl dX6_readLink_37 (H hs2)
theorem bX6_readWords_0 {g : AG} {ad : Nat → Nat} {d : Nat} {Q : AO → SG → Prop} {rc rs : Nat} {σ : SG} {x2 x3 : Int} {c1 n1 : Nat} (hc1 : aI c1 n1) (hx2 : iR x2) (hx3 : iR x3) (hS : SR σ) (H : (iR x2 → iR x3 → iR 0 → SR σ → Wb g ad d mX6_readWords Q 3 [some (.ref (ad 37)), some (.ref (ad c1)), some (vi x2), some (vi x3), some (vi 0)] [] σ rc rs)) : Wb g ad d mX6_readWords Q 0 [some (.ref (ad 37)), some (.ref (ad c1)), some (vi x2), some (vi x3), none] [] σ rc rs := by
  refine sb_iconst (pc' := 1) rfl dX6_readWords_0 ?_
  refine sb_istore (pc' := 3) rfl (L' := [some (.ref (ad 37)), some (.ref (ad c1)), some (vi x2), some (vi x3), some (vi 0)]) rfl (by decide) dX6_readWords_1 ?_
  exact (H hx2 hx3 (iR_lit rfl) hS)
theorem bX6_readWords_3 {g : AG} {ad : Nat → Nat} {d : Nat} {Q : AO → SG → Prop} {rc rs : Nat} {σ : SG} {x2 x3 x4 : Int} {c1 n1 : Nat} (hc1 : aI c1 n1) (hx2 : iR x2) (hx3 : iR x3) (hx4 : iR x4) (hS : SR σ) (H : ((x3 ≤ x4 → Cl g ad d mX6_atLetter 0 0 [(.ref (ad 37))] σ (Ki fun r1 s1 => ((r1 = 0 → (iR x4 → SR s1 → Q (.inl (some (vi x4))) s1)) ∧ (¬ r1 = 0 → Cl g ad d mX6_fail 0 0 [(.ref (ad 37)), (vi (sc s1 37 15))] s1 (Kv fun s2 => (iR x4 → SR s2 → Q (.inl (some (vi x4))) s2)))))) ∧ (¬ x3 ≤ x4 → Cl g ad d mX6_isRight 0 0 [(.ref (ad 37))] σ (Ki fun r3 s3 => ((r3 = 0 → Cl g ad d mX6_atLetter 0 0 [(.ref (ad 37))] s3 (Ki fun r4 s4 => ((r4 = 0 → (iR x4 → SR s4 → Q (.inl (some (vi x4))) s4)) ∧ (¬ r4 = 0 → Cl g ad d mX6_fail 0 0 [(.ref (ad 37)), (vi (sc s4 37 15))] s4 (Kv fun s5 => (iR x4 → SR s5 → Q (.inl (some (vi x4))) s5)))))) ∧ (¬ r3 = 0 → Cl g ad d mX6_atLetter 0 0 [(.ref (ad 37))] s3 (Ki fun r6 s6 => ((r6 = 0 → Cl g ad d mX6_atLetter 0 0 [(.ref (ad 37))] s6 (Ki fun r7 s7 => ((r7 = 0 → (iR x4 → SR s7 → Q (.inl (some (vi x4))) s7)) ∧ (¬ r7 = 0 → Cl g ad d mX6_fail 0 0 [(.ref (ad 37)), (vi (sc s7 37 15))] s7 (Kv fun s8 => (iR x4 → SR s8 → Q (.inl (some (vi x4))) s8)))))) ∧ (¬ r6 = 0 → Cl g ad d mX6_readWord 0 0 [(.ref (ad 37))] s6 (Ki fun r9 s9 => (0 ≤ x2 + x4 ∧ x2 + x4 < n1) ∧ iR (x4 + 1) ∧ (iR x2 → iR x3 → iR (x4 + 1) → SR (setI s9 c1 (x2 + x4) r9) → Wb g ad d mX6_readWords Q 3 [some (.ref (ad 37)), some (.ref (ad c1)), some (vi x2), some (vi x3), some (vi (x4 + 1))] [] (setI s9 c1 (x2 + x4) r9) rc rs))))))))))) : Wb g ad d mX6_readWords Q 3 [some (.ref (ad 37)), some (.ref (ad c1)), some (vi x2), some (vi x3), some (vi x4)] [] σ rc rs := by
  refine sb_iload (pc' := 5) rfl rfl dX6_readWords_3 ?_
  refine sb_iload_n (pc' := 6) rfl rfl dX6_readWords_5 ?_
  refine sb_icmp_ge (pc' := 9) (tgt := 39) rfl (by decide) hx4 hx3 dX6_readWords_6 ?_ ?_
  · intro cc; have H := H.1 cc
    refine sb_aload_n (pc' := 40) rfl rfl dX6_readWords_39 ?_
    obtain ⟨d1, hd1, H⟩ := H
    refine sb_callV (pc' := 43) rfl rfl (rc := rc) (rs := rs) (mc' := 0) (ms' := 0) (As := []) (st := []) of_37 rfl rfl (Nat.le_of_ble_eq_true rfl) hd1 kX6_atLetter ⟨wd_1027, wd_1029, wd_56⟩ dX6_readWords_40 (Eb.mono H ?_)
    rintro o s1 ⟨r1, rfl, hr1, hs1, H⟩
    show Wb g ad d mX6_readWords Q 43 [some (.ref (ad 37)), some (.ref (ad c1)), some (vi x2), some (vi x3), some (vi x4)] [(vi r1)] s1 rc rs
    refine sb_if_eq (pc' := 46) (tgt := 54) rfl (by decide) hr1 dX6_readWords_43 ?_ ?_
    · intro cc; have H := H.1 cc
      refine sb_iload (pc' := 56) rfl rfl dX6_readWords_54 ?_
      exact sb_iret rfl rfl dX6_readWords_56 (H hx4 hs1)
    · intro cc; have H := H.2 cc
      refine sb_aload_n (pc' := 47) rfl rfl dX6_readWords_46 ?_
      refine sb_aload_n (pc' := 48) rfl rfl dX6_readWords_47 ?_
      refine sb_getI (pc' := 51) rfl fi_37_15 wd_314 dX6_readWords_48 ?_
      obtain ⟨d2, hd2, H⟩ := H
      refine sb_callV (pc' := 54) rfl rfl (rc := rc) (rs := rs) (mc' := 0) (ms' := 0) (As := [(vi (sc s1 37 15))]) (st := []) of_37 rfl rfl (Nat.le_of_ble_eq_true rfl) hd2 kX6_fail ⟨wd_1035, wd_1037, wd_58⟩ dX6_readWords_51 (Eb.mono H ?_)
      rintro o s2 ⟨rfl, hs2, H⟩
      show Wb g ad d mX6_readWords Q 54 [some (.ref (ad 37)), some (.ref (ad c1)), some (vi x2), some (vi x3), some (vi x4)] [] s2 rc rs
      refine sb_iload (pc' := 56) rfl rfl dX6_readWords_54 ?_
      exact sb_iret rfl rfl dX6_readWords_56 (H hx4 hs2)
  · intro cc; have H := H.2 cc
    refine sb_aload_n (pc' := 10) rfl rfl dX6_readWords_9 ?_
    obtain ⟨d3, hd3, H⟩ := H
    refine sb_callV (pc' := 13) rfl rfl (rc := rc) (rs := rs) (mc' := 0) (ms' := 0) (As := []) (st := []) of_37 rfl rfl (Nat.le_of_ble_eq_true rfl) hd3 kX6_isRight ⟨wd_1023, wd_1025, wd_55⟩ dX6_readWords_10 (Eb.mono H ?_)
    rintro o s3 ⟨r3, rfl, hr3, hs3, H⟩
    show Wb g ad d mX6_readWords Q 13 [some (.ref (ad 37)), some (.ref (ad c1)), some (vi x2), some (vi x3), some (vi x4)] [(vi r3)] s3 rc rs
    refine sb_if_eq (pc' := 16) (tgt := 39) rfl (by decide) hr3 dX6_readWords_13 ?_ ?_
    · intro cc; have H := H.1 cc
      refine sb_aload_n (pc' := 40) rfl rfl dX6_readWords_39 ?_
      obtain ⟨d4, hd4, H⟩ := H
      refine sb_callV (pc' := 43) rfl rfl (rc := rc) (rs := rs) (mc' := 0) (ms' := 0) (As := []) (st := []) of_37 rfl rfl (Nat.le_of_ble_eq_true rfl) hd4 kX6_atLetter ⟨wd_1027, wd_1029, wd_56⟩ dX6_readWords_40 (Eb.mono H ?_)
      rintro o s4 ⟨r4, rfl, hr4, hs4, H⟩
      show Wb g ad d mX6_readWords Q 43 [some (.ref (ad 37)), some (.ref (ad c1)), some (vi x2), some (vi x3), some (vi x4)] [(vi r4)] s4 rc rs
      refine sb_if_eq (pc' := 46) (tgt := 54) rfl (by decide) hr4 dX6_readWords_43 ?_ ?_
      · intro cc; have H := H.1 cc
        refine sb_iload (pc' := 56) rfl rfl dX6_readWords_54 ?_
        exact sb_iret rfl rfl dX6_readWords_56 (H hx4 hs4)
      · intro cc; have H := H.2 cc
        refine sb_aload_n (pc' := 47) rfl rfl dX6_readWords_46 ?_
        refine sb_aload_n (pc' := 48) rfl rfl dX6_readWords_47 ?_
        refine sb_getI (pc' := 51) rfl fi_37_15 wd_314 dX6_readWords_48 ?_
        obtain ⟨d5, hd5, H⟩ := H
        refine sb_callV (pc' := 54) rfl rfl (rc := rc) (rs := rs) (mc' := 0) (ms' := 0) (As := [(vi (sc s4 37 15))]) (st := []) of_37 rfl rfl (Nat.le_of_ble_eq_true rfl) hd5 kX6_fail ⟨wd_1035, wd_1037, wd_58⟩ dX6_readWords_51 (Eb.mono H ?_)
        rintro o s5 ⟨rfl, hs5, H⟩
        show Wb g ad d mX6_readWords Q 54 [some (.ref (ad 37)), some (.ref (ad c1)), some (vi x2), some (vi x3), some (vi x4)] [] s5 rc rs
        refine sb_iload (pc' := 56) rfl rfl dX6_readWords_54 ?_
        exact sb_iret rfl rfl dX6_readWords_56 (H hx4 hs5)
    · intro cc; have H := H.2 cc
      refine sb_aload_n (pc' := 17) rfl rfl dX6_readWords_16 ?_
      obtain ⟨d6, hd6, H⟩ := H
      refine sb_callV (pc' := 20) rfl rfl (rc := rc) (rs := rs) (mc' := 0) (ms' := 0) (As := []) (st := []) of_37 rfl rfl (Nat.le_of_ble_eq_true rfl) hd6 kX6_atLetter ⟨wd_1027, wd_1029, wd_56⟩ dX6_readWords_17 (Eb.mono H ?_)
      rintro o s6 ⟨r6, rfl, hr6, hs6, H⟩
      show Wb g ad d mX6_readWords Q 20 [some (.ref (ad 37)), some (.ref (ad c1)), some (vi x2), some (vi x3), some (vi x4)] [(vi r6)] s6 rc rs
      refine sb_if_eq (pc' := 23) (tgt := 39) rfl (by decide) hr6 dX6_readWords_20 ?_ ?_
      · intro cc; have H := H.1 cc
        refine sb_aload_n (pc' := 40) rfl rfl dX6_readWords_39 ?_
        obtain ⟨d7, hd7, H⟩ := H
        refine sb_callV (pc' := 43) rfl rfl (rc := rc) (rs := rs) (mc' := 0) (ms' := 0) (As := []) (st := []) of_37 rfl rfl (Nat.le_of_ble_eq_true rfl) hd7 kX6_atLetter ⟨wd_1027, wd_1029, wd_56⟩ dX6_readWords_40 (Eb.mono H ?_)
        rintro o s7 ⟨r7, rfl, hr7, hs7, H⟩
        show Wb g ad d mX6_readWords Q 43 [some (.ref (ad 37)), some (.ref (ad c1)), some (vi x2), some (vi x3), some (vi x4)] [(vi r7)] s7 rc rs
        refine sb_if_eq (pc' := 46) (tgt := 54) rfl (by decide) hr7 dX6_readWords_43 ?_ ?_
        · intro cc; have H := H.1 cc
          refine sb_iload (pc' := 56) rfl rfl dX6_readWords_54 ?_
          exact sb_iret rfl rfl dX6_readWords_56 (H hx4 hs7)
        · intro cc; have H := H.2 cc
          refine sb_aload_n (pc' := 47) rfl rfl dX6_readWords_46 ?_
          refine sb_aload_n (pc' := 48) rfl rfl dX6_readWords_47 ?_
          refine sb_getI (pc' := 51) rfl fi_37_15 wd_314 dX6_readWords_48 ?_
          obtain ⟨d8, hd8, H⟩ := H
          refine sb_callV (pc' := 54) rfl rfl (rc := rc) (rs := rs) (mc' := 0) (ms' := 0) (As := [(vi (sc s7 37 15))]) (st := []) of_37 rfl rfl (Nat.le_of_ble_eq_true rfl) hd8 kX6_fail ⟨wd_1035, wd_1037, wd_58⟩ dX6_readWords_51 (Eb.mono H ?_)
          rintro o s8 ⟨rfl, hs8, H⟩
          show Wb g ad d mX6_readWords Q 54 [some (.ref (ad 37)), some (.ref (ad c1)), some (vi x2), some (vi x3), some (vi x4)] [] s8 rc rs
          refine sb_iload (pc' := 56) rfl rfl dX6_readWords_54 ?_
          exact sb_iret rfl rfl dX6_readWords_56 (H hx4 hs8)
      · intro cc; have H := H.2 cc
        refine sb_aload_n (pc' := 24) rfl rfl dX6_readWords_23 ?_
        refine sb_iload_n (pc' := 25) rfl rfl dX6_readWords_24 ?_
        refine sb_iload (pc' := 27) rfl rfl dX6_readWords_25 ?_
        refine sb_iadd (pc' := 28) rfl dX6_readWords_27 ?_
        refine sb_aload_n (pc' := 29) rfl rfl dX6_readWords_28 ?_
        obtain ⟨d9, hd9, H⟩ := H
        refine sb_callV (pc' := 32) rfl rfl (rc := rc) (rs := rs) (mc' := 0) (ms' := 0) (As := []) (st := [(vi (x2 + x4)), (.ref (ad c1))]) of_37 rfl rfl (Nat.le_of_ble_eq_true rfl) hd9 kX6_readWord ⟨wd_1031, wd_1033, wd_57⟩ dX6_readWords_29 (Eb.mono H ?_)
        rintro o s9 ⟨r9, rfl, hr9, hs9, H⟩
        show Wb g ad d mX6_readWords Q 32 [some (.ref (ad 37)), some (.ref (ad c1)), some (vi x2), some (vi x3), some (vi x4)] [(vi r9), (vi (x2 + x4)), (.ref (ad c1))] s9 rc rs
        obtain ⟨o10, H⟩ := H
        refine sb_iast (pc' := 33) rfl hc1 o10.1 o10.2  dX6_readWords_32 ?_
        refine sb_iinc (pc' := 36) rfl rfl (L' := [some (.ref (ad 37)), some (.ref (ad c1)), some (vi x2), some (vi x3), some (vi (x4 + 1))]) rfl (by decide) dX6_readWords_33 ?_
        refine sb_goto (tgt := 3) (by decide) dX6_readWords_36 ?_
        obtain ⟨o11, H⟩ := H
        exact (H hx2 hx3 o11 (SR_setI hs9 hr9))
theorem bX6_readWord_0 {g : AG} {ad : Nat → Nat} {d : Nat} {Q : AO → SG → Prop} {rc rs : Nat} {σ : SG}    (hS : SR σ) (H : (iR (sc σ 37 15) → SR σ → Wb g ad d mX6_readWord Q 5 [some (.ref (ad 37)), some (vi (sc σ 37 15)), none, none] [] σ rc rs)) : Wb g ad d mX6_readWord Q 0 [some (.ref (ad 37)), none, none, none] [] σ rc rs := by
  refine sb_aload_n (pc' := 1) rfl rfl dX6_readWord_0 ?_
  refine sb_getI (pc' := 4) rfl fi_37_15 wd_314 dX6_readWord_1 ?_
  refine sb_istore_n (pc' := 5) rfl (L' := [some (.ref (ad 37)), some (vi (sc σ 37 15)), none, none]) rfl (by decide) dX6_readWord_4 ?_
  exact (H (SR_sc hS _ _) hS)
theorem bX6_readWord_5 {g : AG} {ad : Nat → Nat} {d : Nat} {Q : AO → SG → Prop} {rc rs : Nat} {σ : SG} {x1 : Int}  (hx1 : iR x1) (hS : SR σ) (H : (((sc σ 37 1) ≤ (sc σ 37 15) → (iR x1 → SR σ → Wb g ad d mX6_readWord Q 36 [some (.ref (ad 37)), some (vi x1), none, none] [] σ rc rs)) ∧ (¬ (sc σ 37 1) ≤ (sc σ 37 15) → Cl g ad d mX6_atLetter 0 0 [(.ref (ad 37))] σ (Ki fun r1 s1 => ((r1 = 0 → (iR x1 → SR s1 → Wb g ad d mX6_readWord Q 36 [some (.ref (ad 37)), some (vi x1), none, none] [] s1 rc rs)) ∧ (¬ r1 = 0 → iR ((sc s1 37 15) + 1) ∧ (iR x1 → SR (setS s1 37 15 ((sc s1 37 15) + 1)) → Wb g ad d mX6_readWord Q 5 [some (.ref (ad 37)), some (vi x1), none, none] [] (setS s1 37 15 ((sc s1 37 15) + 1)) rc rs))))))) : Wb g ad d mX6_readWord Q 5 [some (.ref (ad 37)), some (vi x1), none, none] [] σ rc rs := by
  refine sb_aload_n (pc' := 6) rfl rfl dX6_readWord_5 ?_
  refine sb_getI (pc' := 9) rfl fi_37_15 wd_314 dX6_readWord_6 ?_
  refine sb_aload_n (pc' := 10) rfl rfl dX6_readWord_9 ?_
  refine sb_getI (pc' := 13) rfl fi_37_1 wd_283 dX6_readWord_10 ?_
  refine sb_icmp_ge (pc' := 16) (tgt := 36) rfl (by decide) (SR_sc hS _ _) (SR_sc hS _ _) dX6_readWord_13 ?_ ?_
  · intro cc; have H := H.1 cc
    exact (H hx1 hS)
  · intro cc; have H := H.2 cc
    refine sb_aload_n (pc' := 17) rfl rfl dX6_readWord_16 ?_
    obtain ⟨d1, hd1, H⟩ := H
    refine sb_callV (pc' := 20) rfl rfl (rc := rc) (rs := rs) (mc' := 0) (ms' := 0) (As := []) (st := []) of_37 rfl rfl (Nat.le_of_ble_eq_true rfl) hd1 kX6_atLetter ⟨wd_1027, wd_1029, wd_56⟩ dX6_readWord_17 (Eb.mono H ?_)
    rintro o s1 ⟨r1, rfl, hr1, hs1, H⟩
    show Wb g ad d mX6_readWord Q 20 [some (.ref (ad 37)), some (vi x1), none, none] [(vi r1)] s1 rc rs
    refine sb_if_eq (pc' := 23) (tgt := 36) rfl (by decide) hr1 dX6_readWord_20 ?_ ?_
    · intro cc; have H := H.1 cc
      exact (H hx1 hs1)
    · intro cc; have H := H.2 cc
      refine sb_aload_n (pc' := 24) rfl rfl dX6_readWord_23 ?_
      refine sb_dup (pc' := 25) rfl rfl dX6_readWord_24 ?_
      refine sb_getI (pc' := 28) rfl fi_37_15 wd_314 dX6_readWord_25 ?_
      refine sb_iconst (pc' := 29) rfl dX6_readWord_28 ?_
      refine sb_iadd (pc' := 30) rfl dX6_readWord_29 ?_
      obtain ⟨o2, H⟩ := H
      refine sb_putI (pc' := 33) rfl fi_37_15 (Or.inl rfl) wd_314 dX6_readWord_30 ?_
      refine sb_goto (tgt := 5) (by decide) dX6_readWord_33 ?_
      exact (H hx1 (SR_setS hs1 o2))
theorem bX6_readWord_36 {g : AG} {ad : Nat → Nat} {d : Nat} {Q : AO → SG → Prop} {rc rs : Nat} {σ : SG} {x1 : Int}  (hx1 : iR x1) (hS : SR σ) (H : iR ((sc σ 37 15) - x1) ∧ ((((sc σ 37 15) - x1) = 0 → (iR x1 → iR ((sc σ 37 15) - x1) → SR σ → Wb g ad d mX6_readWord Q 53 [some (.ref (ad 37)), some (vi x1), some (vi ((sc σ 37 15) - x1)), none] [] σ rc rs)) ∧ (¬ ((sc σ 37 15) - x1) = 0 → ((((sc σ 37 15) - x1) ≤ 8 → Cl g ad d mX6_skipBlanks 0 0 [(.ref (ad 37))] σ (Kv fun s2 => isK (rv s2 37 16) ∧ Cl g ad d mX2_findWord 0 0 [(.ref (ad (rv s2 37 16))), (.ref (ad 38)), (vi x1), (vi ((sc σ 37 15) - x1))] s2 (Ki fun r4 s4 => ((¬ r4 = ((-1)) → (iR x1 → iR ((sc σ 37 15) - x1) → iR r4 → SR s4 → Wb g ad d mX6_readWord Q 90 [some (.ref (ad 37)), some (vi x1), some (vi ((sc σ 37 15) - x1)), some (vi r4)] [] s4 rc rs)) ∧ (r4 = ((-1)) → ((¬ (sc s4 37 17) = 0 → isK (rv s4 37 16) ∧ (((sc s4 (rv s4 37 16) 2) < 40 → Cl g ad d mX2_addWord 0 0 [(.ref (ad (rv s4 37 16))), (.ref (ad 38)), (vi x1), (vi ((sc σ 37 15) - x1))] s4 (Ki fun r6 s6 => (iR r6 → SR s6 → Q (.inl (some (vi r6))) s6))) ∧ (¬ (sc s4 (rv s4 37 16) 2) < 40 → Cl g ad d mX6_fail 0 0 [(.ref (ad 37)), (vi x1)] s4 (Kv fun s7 => (iR ((-1)) → SR s7 → Q (.inl (some (vi ((-1))))) s7))))) ∧ ((sc s4 37 17) = 0 → (iR x1 → iR ((sc σ 37 15) - x1) → iR r4 → SR s4 → Wb g ad d mX6_readWord Q 90 [some (.ref (ad 37)), some (vi x1), some (vi ((sc σ 37 15) - x1)), some (vi r4)] [] s4 rc rs)))))))) ∧ (¬ ((sc σ 37 15) - x1) ≤ 8 → (iR x1 → iR ((sc σ 37 15) - x1) → SR σ → Wb g ad d mX6_readWord Q 53 [some (.ref (ad 37)), some (vi x1), some (vi ((sc σ 37 15) - x1)), none] [] σ rc rs)))))) : Wb g ad d mX6_readWord Q 36 [some (.ref (ad 37)), some (vi x1), none, none] [] σ rc rs := by
  refine sb_aload_n (pc' := 37) rfl rfl dX6_readWord_36 ?_
  refine sb_getI (pc' := 40) rfl fi_37_15 wd_314 dX6_readWord_37 ?_
  refine sb_iload_n (pc' := 41) rfl rfl dX6_readWord_40 ?_
  refine sb_isub (pc' := 42) rfl dX6_readWord_41 ?_
  refine sb_istore_n (pc' := 43) rfl (L' := [some (.ref (ad 37)), some (vi x1), some (vi ((sc σ 37 15) - x1)), none]) rfl (by decide) dX6_readWord_42 ?_
  refine sb_iload_n (pc' := 44) rfl rfl dX6_readWord_43 ?_
  obtain ⟨o1, H⟩ := H
  refine sb_if_eq (pc' := 47) (tgt := 53) rfl (by decide) o1 dX6_readWord_44 ?_ ?_
  · intro cc; have H := H.1 cc
    exact (H hx1 o1 hS)
  · intro cc; have H := H.2 cc
    refine sb_iload_n (pc' := 48) rfl rfl dX6_readWord_47 ?_
    refine sb_bipush (pc' := 50) rfl (z := 8) (by decide) dX6_readWord_48 ?_
    refine sb_icmp_le (pc' := 53) (tgt := 60) rfl (by decide) o1 (iR_lit rfl) dX6_readWord_50 ?_ ?_
    · intro cc; have H := H.1 cc
      refine sb_aload_n (pc' := 61) rfl rfl dX6_readWord_60 ?_
      obtain ⟨d2, hd2, H⟩ := H
      refine sb_callV (pc' := 64) rfl rfl (rc := rc) (rs := rs) (mc' := 0) (ms' := 0) (As := []) (st := []) of_37 rfl rfl (Nat.le_of_ble_eq_true rfl) hd2 kX6_skipBlanks ⟨wd_1011, wd_1013, wd_52⟩ dX6_readWord_61 (Eb.mono H ?_)
      rintro o s2 ⟨rfl, hs2, H⟩
      show Wb g ad d mX6_readWord Q 64 [some (.ref (ad 37)), some (vi x1), some (vi ((sc σ 37 15) - x1)), none] [] s2 rc rs
      refine sb_aload_n (pc' := 65) rfl rfl dX6_readWord_64 ?_
      obtain ⟨o3, H⟩ := H
      refine sb_getR (pc' := 68) rfl fr_37_16 wd_315 dX6_readWord_65 ?_
      refine sb_aload_n (pc' := 69) rfl rfl dX6_readWord_68 ?_
      refine sb_getC (pc' := 72) rfl fc_37_0 wd_281 dX6_readWord_69 ?_
      refine sb_iload_n (pc' := 73) rfl rfl dX6_readWord_72 ?_
      refine sb_iload_n (pc' := 74) rfl rfl dX6_readWord_73 ?_
      obtain ⟨d4, hd4, H⟩ := H
      refine sb_callVN (pc' := 77) rfl rfl (rc := rc) (rs := rs) (mc' := 0) (ms' := 0) (As := [(.ref (ad 38)), (vi x1), (vi ((sc σ 37 15) - x1))]) (st := []) (ofK o3) rfl rfl (Nat.le_of_ble_eq_true rfl) hd4 kX2_findWord ⟨wd_1039, wd_1041, wd_59⟩ dX6_readWord_74 (Eb.mono H ?_)
      rintro o s4 ⟨r4, rfl, hr4, hs4, H⟩
      show Wb g ad d mX6_readWord Q 77 [some (.ref (ad 37)), some (vi x1), some (vi ((sc σ 37 15) - x1)), none] [(vi r4)] s4 rc rs
      refine sb_istore_n (pc' := 78) rfl (L' := [some (.ref (ad 37)), some (vi x1), some (vi ((sc σ 37 15) - x1)), some (vi r4)]) rfl (by decide) dX6_readWord_77 ?_
      refine sb_iload_n (pc' := 79) rfl rfl dX6_readWord_78 ?_
      refine sb_iconst (pc' := 80) rfl dX6_readWord_79 ?_
      refine sb_icmp_ne (pc' := 83) (tgt := 90) rfl (by decide) hr4 (iR_lit rfl) dX6_readWord_80 ?_ ?_
      · intro cc; have H := H.1 cc
        exact (H hx1 o1 hr4 hs4)
      · intro cc; have H := H.2 cc
        refine sb_aload_n (pc' := 84) rfl rfl dX6_readWord_83 ?_
        refine sb_getI (pc' := 87) rfl fi_37_17 wd_316 dX6_readWord_84 ?_
        refine sb_if_ne (pc' := 90) (tgt := 92) rfl (by decide) (SR_sc hs4 _ _) dX6_readWord_87 ?_ ?_
        · intro cc; have H := H.1 cc
          refine sb_aload_n (pc' := 93) rfl rfl dX6_readWord_92 ?_
          obtain ⟨o5, H⟩ := H
          refine sb_getR (pc' := 96) rfl fr_37_16 wd_315 dX6_readWord_93 ?_
          refine sb_getIN (pc' := 99) rfl (fiK_2 o5) wd_207 dX6_readWord_96 ?_
          refine sb_bipush (pc' := 101) rfl (z := 40) (by decide) dX6_readWord_99 ?_
          refine sb_icmp_lt (pc' := 104) (tgt := 111) rfl (by decide) (SR_sc hs4 _ _) (iR_lit rfl) dX6_readWord_101 ?_ ?_
          · intro cc; have H := H.1 cc
            refine sb_aload_n (pc' := 112) rfl rfl dX6_readWord_111 ?_
            refine sb_getR (pc' := 115) rfl fr_37_16 wd_315 dX6_readWord_112 ?_
            refine sb_aload_n (pc' := 116) rfl rfl dX6_readWord_115 ?_
            refine sb_getC (pc' := 119) rfl fc_37_0 wd_281 dX6_readWord_116 ?_
            refine sb_iload_n (pc' := 120) rfl rfl dX6_readWord_119 ?_
            refine sb_iload_n (pc' := 121) rfl rfl dX6_readWord_120 ?_
            obtain ⟨d6, hd6, H⟩ := H
            refine sb_callVN (pc' := 124) rfl rfl (rc := rc) (rs := rs) (mc' := 0) (ms' := 0) (As := [(.ref (ad 38)), (vi x1), (vi ((sc σ 37 15) - x1))]) (st := []) (ofK o5) rfl rfl (Nat.le_of_ble_eq_true rfl) hd6 kX2_addWord ⟨wd_1043, wd_1045, wd_60⟩ dX6_readWord_121 (Eb.mono H ?_)
            rintro o s6 ⟨r6, rfl, hr6, hs6, H⟩
            show Wb g ad d mX6_readWord Q 124 [some (.ref (ad 37)), some (vi x1), some (vi ((sc σ 37 15) - x1)), some (vi r4)] [(vi r6)] s6 rc rs
            exact sb_iret rfl rfl dX6_readWord_124 (H hr6 hs6)
          · intro cc; have H := H.2 cc
            refine sb_aload_n (pc' := 105) rfl rfl dX6_readWord_104 ?_
            refine sb_iload_n (pc' := 106) rfl rfl dX6_readWord_105 ?_
            obtain ⟨d7, hd7, H⟩ := H
            refine sb_callV (pc' := 109) rfl rfl (rc := rc) (rs := rs) (mc' := 0) (ms' := 0) (As := [(vi x1)]) (st := []) of_37 rfl rfl (Nat.le_of_ble_eq_true rfl) hd7 kX6_fail ⟨wd_1035, wd_1037, wd_58⟩ dX6_readWord_106 (Eb.mono H ?_)
            rintro o s7 ⟨rfl, hs7, H⟩
            show Wb g ad d mX6_readWord Q 109 [some (.ref (ad 37)), some (vi x1), some (vi ((sc σ 37 15) - x1)), some (vi r4)] [] s7 rc rs
            refine sb_iconst (pc' := 110) rfl dX6_readWord_109 ?_
            exact sb_iret rfl rfl dX6_readWord_110 (H (iR_lit rfl) hs7)
        · intro cc; have H := H.2 cc
          exact (H hx1 o1 hr4 hs4)
    · intro cc; have H := H.2 cc
      exact (H hx1 o1 hS)
theorem bX6_readWord_53 {g : AG} {ad : Nat → Nat} {d : Nat} {Q : AO → SG → Prop} {rc rs : Nat} {σ : SG} {x1 x2 : Int}  (hx1 : iR x1) (hx2 : iR x2) (hS : SR σ) (H : Cl g ad d mX6_fail 0 0 [(.ref (ad 37)), (vi x1)] σ (Kv fun s1 => (iR ((-1)) → SR s1 → Q (.inl (some (vi ((-1))))) s1))) : Wb g ad d mX6_readWord Q 53 [some (.ref (ad 37)), some (vi x1), some (vi x2), none] [] σ rc rs := by
  refine sb_aload_n (pc' := 54) rfl rfl dX6_readWord_53 ?_
  refine sb_iload_n (pc' := 55) rfl rfl dX6_readWord_54 ?_
  obtain ⟨d1, hd1, H⟩ := H
  refine sb_callV (pc' := 58) rfl rfl (rc := rc) (rs := rs) (mc' := 0) (ms' := 0) (As := [(vi x1)]) (st := []) of_37 rfl rfl (Nat.le_of_ble_eq_true rfl) hd1 kX6_fail ⟨wd_1035, wd_1037, wd_58⟩ dX6_readWord_55 (Eb.mono H ?_)
  rintro o s1 ⟨rfl, hs1, H⟩
  show Wb g ad d mX6_readWord Q 58 [some (.ref (ad 37)), some (vi x1), some (vi x2), none] [] s1 rc rs
  refine sb_iconst (pc' := 59) rfl dX6_readWord_58 ?_
  exact sb_iret rfl rfl dX6_readWord_59 (H (iR_lit rfl) hs1)
theorem bX6_readWord_90 {g : AG} {ad : Nat → Nat} {d : Nat} {Q : AO → SG → Prop} {rc rs : Nat} {σ : SG} {x1 x2 x3 : Int}  (hx1 : iR x1) (hx2 : iR x2) (hx3 : iR x3) (hS : SR σ) (H : (iR x3 → SR σ → Q (.inl (some (vi x3))) σ)) : Wb g ad d mX6_readWord Q 90 [some (.ref (ad 37)), some (vi x1), some (vi x2), some (vi x3)] [] σ rc rs := by
  refine sb_iload_n (pc' := 91) rfl rfl dX6_readWord_90 ?_
  exact sb_iret rfl rfl dX6_readWord_91 (H hx3 hS)
theorem bX6_readNumber_0 {g : AG} {ad : Nat → Nat} {d : Nat} {Q : AO → SG → Prop} {rc rs : Nat} {σ : SG} {x1 : Int}  (hx1 : iR x1) (hS : SR σ) (H : (iR x1 → iR (sc σ 37 15) → iR 0 → SR σ → Wb g ad d mX6_readNumber Q 7 [some (.ref (ad 37)), some (vi x1), some (vi (sc σ 37 15)), some (vi 0), none] [] σ rc rs)) : Wb g ad d mX6_readNumber Q 0 [some (.ref (ad 37)), some (vi x1), none, none, none] [] σ rc rs := by
  refine sb_aload_n (pc' := 1) rfl rfl dX6_readNumber_0 ?_
  refine sb_getI (pc' := 4) rfl fi_37_15 wd_314 dX6_readNumber_1 ?_
  refine sb_istore_n (pc' := 5) rfl (L' := [some (.ref (ad 37)), some (vi x1), some (vi (sc σ 37 15)), none, none]) rfl (by decide) dX6_readNumber_4 ?_
  refine sb_iconst (pc' := 6) rfl dX6_readNumber_5 ?_
  refine sb_istore_n (pc' := 7) rfl (L' := [some (.ref (ad 37)), some (vi x1), some (vi (sc σ 37 15)), some (vi 0), none]) rfl (by decide) dX6_readNumber_6 ?_
  exact (H hx1 (SR_sc hS _ _) (iR_lit rfl) hS)
theorem bX6_readNumber_7 {g : AG} {ad : Nat → Nat} {d : Nat} {Q : AO → SG → Prop} {rc rs : Nat} {σ : SG} {x1 x2 x3 : Int}  (hx1 : iR x1) (hx2 : iR x2) (hx3 : iR x3) (hS : SR σ) (H : (((sc σ 37 1) ≤ (sc σ 37 15) → (iR x1 → iR x2 → iR x3 → SR σ → Wb g ad d mX6_readNumber Q 87 [some (.ref (ad 37)), some (vi x1), some (vi x2), some (vi x3), none] [] σ rc rs)) ∧ (¬ (sc σ 37 1) ≤ (sc σ 37 15) → (0 ≤ sc σ 37 15 ∧ sc σ 37 15 < 400) ∧ (((ia σ 38 (sc σ 37 15)) < 48 → (iR x1 → iR x2 → iR x3 → SR σ → Wb g ad d mX6_readNumber Q 87 [some (.ref (ad 37)), some (vi x1), some (vi x2), some (vi x3), none] [] σ rc rs)) ∧ (¬ (ia σ 38 (sc σ 37 15)) < 48 → ((57 < (ia σ 38 (sc σ 37 15)) → (iR x1 → iR x2 → iR x3 → SR σ → Wb g ad d mX6_readNumber Q 87 [some (.ref (ad 37)), some (vi x1), some (vi x2), some (vi x3), none] [] σ rc rs)) ∧ (¬ 57 < (ia σ 38 (sc σ 37 15)) → iR ((sc σ 37 15) - x2) ∧ ((3 ≤ ((sc σ 37 15) - x2) → (iR x1 → iR x2 → iR x3 → SR σ → Wb g ad d mX6_readNumber Q 74 [some (.ref (ad 37)), some (vi x1), some (vi x2), some (vi x3), none] [] σ rc rs)) ∧ (¬ 3 ≤ ((sc σ 37 15) - x2) → iR (((x3 * 10) + (ia σ 38 (sc σ 37 15))) - 48) ∧ (iR x1 → iR x2 → iR (((x3 * 10) + (ia σ 38 (sc σ 37 15))) - 48) → SR σ → Wb g ad d mX6_readNumber Q 74 [some (.ref (ad 37)), some (vi x1), some (vi x2), some (vi (((x3 * 10) + (ia σ 38 (sc σ 37 15))) - 48)), none] [] σ rc rs)))))))))) : Wb g ad d mX6_readNumber Q 7 [some (.ref (ad 37)), some (vi x1), some (vi x2), some (vi x3), none] [] σ rc rs := by
  refine sb_aload_n (pc' := 8) rfl rfl dX6_readNumber_7 ?_
  refine sb_getI (pc' := 11) rfl fi_37_15 wd_314 dX6_readNumber_8 ?_
  refine sb_aload_n (pc' := 12) rfl rfl dX6_readNumber_11 ?_
  refine sb_getI (pc' := 15) rfl fi_37_1 wd_283 dX6_readNumber_12 ?_
  refine sb_icmp_ge (pc' := 18) (tgt := 87) rfl (by decide) (SR_sc hS _ _) (SR_sc hS _ _) dX6_readNumber_15 ?_ ?_
  · intro cc; have H := H.1 cc
    exact (H hx1 hx2 hx3 hS)
  · intro cc; have H := H.2 cc
    refine sb_aload_n (pc' := 19) rfl rfl dX6_readNumber_18 ?_
    refine sb_getC (pc' := 22) rfl fc_37_0 wd_281 dX6_readNumber_19 ?_
    refine sb_aload_n (pc' := 23) rfl rfl dX6_readNumber_22 ?_
    refine sb_getI (pc' := 26) rfl fi_37_15 wd_314 dX6_readNumber_23 ?_
    obtain ⟨o1, H⟩ := H
    refine sb_iald (pc' := 27) rfl aI_38 o1.1 o1.2 dX6_readNumber_26 ?_
    refine sb_bipush (pc' := 29) rfl (z := 48) (by decide) dX6_readNumber_27 ?_
    refine sb_icmp_lt (pc' := 32) (tgt := 87) rfl (by decide) (SR_ia hS _ _) (iR_lit rfl) dX6_readNumber_29 ?_ ?_
    · intro cc; have H := H.1 cc
      exact (H hx1 hx2 hx3 hS)
    · intro cc; have H := H.2 cc
      refine sb_aload_n (pc' := 33) rfl rfl dX6_readNumber_32 ?_
      refine sb_getC (pc' := 36) rfl fc_37_0 wd_281 dX6_readNumber_33 ?_
      refine sb_aload_n (pc' := 37) rfl rfl dX6_readNumber_36 ?_
      refine sb_getI (pc' := 40) rfl fi_37_15 wd_314 dX6_readNumber_37 ?_
      refine sb_iald (pc' := 41) rfl aI_38 o1.1 o1.2 dX6_readNumber_40 ?_
      refine sb_bipush (pc' := 43) rfl (z := 57) (by decide) dX6_readNumber_41 ?_
      refine sb_icmp_gt (pc' := 46) (tgt := 87) rfl (by decide) (SR_ia hS _ _) (iR_lit rfl) dX6_readNumber_43 ?_ ?_
      · intro cc; have H := H.1 cc
        exact (H hx1 hx2 hx3 hS)
      · intro cc; have H := H.2 cc
        refine sb_aload_n (pc' := 47) rfl rfl dX6_readNumber_46 ?_
        refine sb_getI (pc' := 50) rfl fi_37_15 wd_314 dX6_readNumber_47 ?_
        refine sb_iload_n (pc' := 51) rfl rfl dX6_readNumber_50 ?_
        refine sb_isub (pc' := 52) rfl dX6_readNumber_51 ?_
        refine sb_iconst (pc' := 53) rfl dX6_readNumber_52 ?_
        obtain ⟨o2, H⟩ := H
        refine sb_icmp_ge (pc' := 56) (tgt := 74) rfl (by decide) o2 (iR_lit rfl) dX6_readNumber_53 ?_ ?_
        · intro cc; have H := H.1 cc
          exact (H hx1 hx2 hx3 hS)
        · intro cc; have H := H.2 cc
          refine sb_iload_n (pc' := 57) rfl rfl dX6_readNumber_56 ?_
          refine sb_bipush (pc' := 59) rfl (z := 10) (by decide) dX6_readNumber_57 ?_
          refine sb_imul (pc' := 60) rfl dX6_readNumber_59 ?_
          refine sb_aload_n (pc' := 61) rfl rfl dX6_readNumber_60 ?_
          refine sb_getC (pc' := 64) rfl fc_37_0 wd_281 dX6_readNumber_61 ?_
          refine sb_aload_n (pc' := 65) rfl rfl dX6_readNumber_64 ?_
          refine sb_getI (pc' := 68) rfl fi_37_15 wd_314 dX6_readNumber_65 ?_
          refine sb_iald (pc' := 69) rfl aI_38 o1.1 o1.2 dX6_readNumber_68 ?_
          refine sb_iadd (pc' := 70) rfl dX6_readNumber_69 ?_
          refine sb_bipush (pc' := 72) rfl (z := 48) (by decide) dX6_readNumber_70 ?_
          refine sb_isub (pc' := 73) rfl dX6_readNumber_72 ?_
          refine sb_istore_n (pc' := 74) rfl (L' := [some (.ref (ad 37)), some (vi x1), some (vi x2), some (vi (((x3 * 10) + (ia σ 38 (sc σ 37 15))) - 48)), none]) rfl (by decide) dX6_readNumber_73 ?_
          obtain ⟨o3, H⟩ := H
          exact (H hx1 hx2 o3 hS)
theorem bX6_readNumber_74 {g : AG} {ad : Nat → Nat} {d : Nat} {Q : AO → SG → Prop} {rc rs : Nat} {σ : SG} {x1 x2 x3 : Int}  (hx1 : iR x1) (hx2 : iR x2) (hx3 : iR x3) (hS : SR σ) (H : iR ((sc σ 37 15) + 1) ∧ (iR x1 → iR x2 → iR x3 → SR (setS σ 37 15 ((sc σ 37 15) + 1)) → Wb g ad d mX6_readNumber Q 7 [some (.ref (ad 37)), some (vi x1), some (vi x2), some (vi x3), none] [] (setS σ 37 15 ((sc σ 37 15) + 1)) rc rs)) : Wb g ad d mX6_readNumber Q 74 [some (.ref (ad 37)), some (vi x1), some (vi x2), some (vi x3), none] [] σ rc rs := by
  refine sb_aload_n (pc' := 75) rfl rfl dX6_readNumber_74 ?_
  refine sb_dup (pc' := 76) rfl rfl dX6_readNumber_75 ?_
  refine sb_getI (pc' := 79) rfl fi_37_15 wd_314 dX6_readNumber_76 ?_
  refine sb_iconst (pc' := 80) rfl dX6_readNumber_79 ?_
  refine sb_iadd (pc' := 81) rfl dX6_readNumber_80 ?_
  obtain ⟨o1, H⟩ := H
  refine sb_putI (pc' := 84) rfl fi_37_15 (Or.inl rfl) wd_314 dX6_readNumber_81 ?_
  refine sb_goto (tgt := 7) (by decide) dX6_readNumber_84 ?_
  exact (H hx1 hx2 hx3 (SR_setS hS o1))
theorem bX6_readNumber_87 {g : AG} {ad : Nat → Nat} {d : Nat} {Q : AO → SG → Prop} {rc rs : Nat} {σ : SG} {x1 x2 x3 : Int}  (hx1 : iR x1) (hx2 : iR x2) (hx3 : iR x3) (hS : SR σ) (H : iR ((sc σ 37 15) - x2) ∧ ((((sc σ 37 15) - x2) = 0 → (iR x1 → iR x2 → iR x3 → iR ((sc σ 37 15) - x2) → SR σ → Wb g ad d mX6_readNumber Q 111 [some (.ref (ad 37)), some (vi x1), some (vi x2), some (vi x3), some (vi ((sc σ 37 15) - x2))] [] σ rc rs)) ∧ (¬ ((sc σ 37 15) - x2) = 0 → ((3 < ((sc σ 37 15) - x2) → (iR x1 → iR x2 → iR x3 → iR ((sc σ 37 15) - x2) → SR σ → Wb g ad d mX6_readNumber Q 111 [some (.ref (ad 37)), some (vi x1), some (vi x2), some (vi x3), some (vi ((sc σ 37 15) - x2))] [] σ rc rs)) ∧ (¬ 3 < ((sc σ 37 15) - x2) → ((x3 ≤ x1 → Cl g ad d mX6_skipBlanks 0 0 [(.ref (ad 37))] σ (Kv fun s2 => (iR x3 → SR s2 → Q (.inl (some (vi x3))) s2))) ∧ (¬ x3 ≤ x1 → (iR x1 → iR x2 → iR x3 → iR ((sc σ 37 15) - x2) → SR σ → Wb g ad d mX6_readNumber Q 111 [some (.ref (ad 37)), some (vi x1), some (vi x2), some (vi x3), some (vi ((sc σ 37 15) - x2))] [] σ rc rs)))))))) : Wb g ad d mX6_readNumber Q 87 [some (.ref (ad 37)), some (vi x1), some (vi x2), some (vi x3), none] [] σ rc rs := by
  refine sb_aload_n (pc' := 88) rfl rfl dX6_readNumber_87 ?_
  refine sb_getI (pc' := 91) rfl fi_37_15 wd_314 dX6_readNumber_88 ?_
  refine sb_iload_n (pc' := 92) rfl rfl dX6_readNumber_91 ?_
  refine sb_isub (pc' := 93) rfl dX6_readNumber_92 ?_
  refine sb_istore (pc' := 95) rfl (L' := [some (.ref (ad 37)), some (vi x1), some (vi x2), some (vi x3), some (vi ((sc σ 37 15) - x2))]) rfl (by decide) dX6_readNumber_93 ?_
  refine sb_iload (pc' := 97) rfl rfl dX6_readNumber_95 ?_
  obtain ⟨o1, H⟩ := H
  refine sb_if_eq (pc' := 100) (tgt := 111) rfl (by decide) o1 dX6_readNumber_97 ?_ ?_
  · intro cc; have H := H.1 cc
    exact (H hx1 hx2 hx3 o1 hS)
  · intro cc; have H := H.2 cc
    refine sb_iload (pc' := 102) rfl rfl dX6_readNumber_100 ?_
    refine sb_iconst (pc' := 103) rfl dX6_readNumber_102 ?_
    refine sb_icmp_gt (pc' := 106) (tgt := 111) rfl (by decide) o1 (iR_lit rfl) dX6_readNumber_103 ?_ ?_
    · intro cc; have H := H.1 cc
      exact (H hx1 hx2 hx3 o1 hS)
    · intro cc; have H := H.2 cc
      refine sb_iload_n (pc' := 107) rfl rfl dX6_readNumber_106 ?_
      refine sb_iload_n (pc' := 108) rfl rfl dX6_readNumber_107 ?_
      refine sb_icmp_le (pc' := 111) (tgt := 118) rfl (by decide) hx3 hx1 dX6_readNumber_108 ?_ ?_
      · intro cc; have H := H.1 cc
        refine sb_aload_n (pc' := 119) rfl rfl dX6_readNumber_118 ?_
        obtain ⟨d2, hd2, H⟩ := H
        refine sb_callV (pc' := 122) rfl rfl (rc := rc) (rs := rs) (mc' := 0) (ms' := 0) (As := []) (st := []) of_37 rfl rfl (Nat.le_of_ble_eq_true rfl) hd2 kX6_skipBlanks ⟨wd_1011, wd_1013, wd_52⟩ dX6_readNumber_119 (Eb.mono H ?_)
        rintro o s2 ⟨rfl, hs2, H⟩
        show Wb g ad d mX6_readNumber Q 122 [some (.ref (ad 37)), some (vi x1), some (vi x2), some (vi x3), some (vi ((sc σ 37 15) - x2))] [] s2 rc rs
        refine sb_iload_n (pc' := 123) rfl rfl dX6_readNumber_122 ?_
        exact sb_iret rfl rfl dX6_readNumber_123 (H hx3 hs2)
      · intro cc; have H := H.2 cc
        exact (H hx1 hx2 hx3 o1 hS)
theorem bX6_readNumber_111 {g : AG} {ad : Nat → Nat} {d : Nat} {Q : AO → SG → Prop} {rc rs : Nat} {σ : SG} {x1 x2 x3 x4 : Int}  (hx1 : iR x1) (hx2 : iR x2) (hx3 : iR x3) (hx4 : iR x4) (hS : SR σ) (H : Cl g ad d mX6_fail 0 0 [(.ref (ad 37)), (vi x2)] σ (Kv fun s1 => (iR ((-1)) → SR s1 → Q (.inl (some (vi ((-1))))) s1))) : Wb g ad d mX6_readNumber Q 111 [some (.ref (ad 37)), some (vi x1), some (vi x2), some (vi x3), some (vi x4)] [] σ rc rs := by
  refine sb_aload_n (pc' := 112) rfl rfl dX6_readNumber_111 ?_
  refine sb_iload_n (pc' := 113) rfl rfl dX6_readNumber_112 ?_
  obtain ⟨d1, hd1, H⟩ := H
  refine sb_callV (pc' := 116) rfl rfl (rc := rc) (rs := rs) (mc' := 0) (ms' := 0) (As := [(vi x2)]) (st := []) of_37 rfl rfl (Nat.le_of_ble_eq_true rfl) hd1 kX6_fail ⟨wd_1035, wd_1037, wd_58⟩ dX6_readNumber_113 (Eb.mono H ?_)
  rintro o s1 ⟨rfl, hs1, H⟩
  show Wb g ad d mX6_readNumber Q 116 [some (.ref (ad 37)), some (vi x1), some (vi x2), some (vi x3), some (vi x4)] [] s1 rc rs
  refine sb_iconst (pc' := 117) rfl dX6_readNumber_116 ?_
  exact sb_iret rfl rfl dX6_readNumber_117 (H (iR_lit rfl) hs1)
theorem bX6_needSome_0 {g : AG} {ad : Nat → Nat} {d : Nat} {Q : AO → SG → Prop} {rc rs : Nat} {σ : SG} {x1 : Int}  (hx1 : iR x1) (hS : SR σ) (H : ((¬ x1 = 0 → (SR σ → Q (.inl none) σ)) ∧ (x1 = 0 → Cl g ad d mX6_fail 0 0 [(.ref (ad 37)), (vi (sc σ 37 15))] σ (Kv fun s1 => (SR s1 → Q (.inl none) s1))))) : Wb g ad d mX6_needSome Q 0 [some (.ref (ad 37)), some (vi x1)] [] σ rc rs := by
  refine sb_iload_n (pc' := 1) rfl rfl dX6_needSome_0 ?_
  refine sb_if_ne (pc' := 4) (tgt := 12) rfl (by decide) hx1 dX6_needSome_1 ?_ ?_
  · intro cc; have H := H.1 cc
    exact sb_vret rfl dX6_needSome_12 (H hS)
  · intro cc; have H := H.2 cc
    refine sb_aload_n (pc' := 5) rfl rfl dX6_needSome_4 ?_
    refine sb_aload_n (pc' := 6) rfl rfl dX6_needSome_5 ?_
    refine sb_getI (pc' := 9) rfl fi_37_15 wd_314 dX6_needSome_6 ?_
    obtain ⟨d1, hd1, H⟩ := H
    refine sb_callV (pc' := 12) rfl rfl (rc := rc) (rs := rs) (mc' := 0) (ms' := 0) (As := [(vi (sc σ 37 15))]) (st := []) of_37 rfl rfl (Nat.le_of_ble_eq_true rfl) hd1 kX6_fail ⟨wd_1035, wd_1037, wd_58⟩ dX6_needSome_9 (Eb.mono H ?_)
    rintro o s1 ⟨rfl, hs1, H⟩
    show Wb g ad d mX6_needSome Q 12 [some (.ref (ad 37)), some (vi x1)] [] s1 rc rs
    exact sb_vret rfl dX6_needSome_12 (H hs1)
theorem bX6_expect_0 {g : AG} {ad : Nat → Nat} {d : Nat} {Q : AO → SG → Prop} {rc rs : Nat} {σ : SG} {x1 : Int}  (hx1 : iR x1) (hS : SR σ) (H : Cl g ad d mX6_take 0 0 [(.ref (ad 37)), (vi x1)] σ (Ki fun r1 s1 => ((¬ r1 = 0 → (SR s1 → Q (.inl none) s1)) ∧ (r1 = 0 → Cl g ad d mX6_fail 0 0 [(.ref (ad 37)), (vi (sc s1 37 15))] s1 (Kv fun s2 => (SR s2 → Q (.inl none) s2)))))) : Wb g ad d mX6_expect Q 0 [some (.ref (ad 37)), some (vi x1)] [] σ rc rs := by
  refine sb_aload_n (pc' := 1) rfl rfl dX6_expect_0 ?_
  refine sb_iload_n (pc' := 2) rfl rfl dX6_expect_1 ?_
  obtain ⟨d1, hd1, H⟩ := H
  refine sb_callV (pc' := 5) rfl rfl (rc := rc) (rs := rs) (mc' := 0) (ms' := 0) (As := [(vi x1)]) (st := []) of_37 rfl rfl (Nat.le_of_ble_eq_true rfl) hd1 kX6_take ⟨wd_1055, wd_1057, wd_63⟩ dX6_expect_2 (Eb.mono H ?_)
  rintro o s1 ⟨r1, rfl, hr1, hs1, H⟩
  show Wb g ad d mX6_expect Q 5 [some (.ref (ad 37)), some (vi x1)] [(vi r1)] s1 rc rs
  refine sb_if_ne (pc' := 8) (tgt := 16) rfl (by decide) hr1 dX6_expect_5 ?_ ?_
  · intro cc; have H := H.1 cc
    exact sb_vret rfl dX6_expect_16 (H hs1)
  · intro cc; have H := H.2 cc
    refine sb_aload_n (pc' := 9) rfl rfl dX6_expect_8 ?_
    refine sb_aload_n (pc' := 10) rfl rfl dX6_expect_9 ?_
    refine sb_getI (pc' := 13) rfl fi_37_15 wd_314 dX6_expect_10 ?_
    obtain ⟨d2, hd2, H⟩ := H
    refine sb_callV (pc' := 16) rfl rfl (rc := rc) (rs := rs) (mc' := 0) (ms' := 0) (As := [(vi (sc s1 37 15))]) (st := []) of_37 rfl rfl (Nat.le_of_ble_eq_true rfl) hd2 kX6_fail ⟨wd_1035, wd_1037, wd_58⟩ dX6_expect_13 (Eb.mono H ?_)
    rintro o s2 ⟨rfl, hs2, H⟩
    show Wb g ad d mX6_expect Q 16 [some (.ref (ad 37)), some (vi x1)] [] s2 rc rs
    exact sb_vret rfl dX6_expect_16 (H hs2)
theorem bX6_take_0 {g : AG} {ad : Nat → Nat} {d : Nat} {Q : AO → SG → Prop} {rc rs : Nat} {σ : SG} {x1 : Int}  (hx1 : iR x1) (hS : SR σ) (H : (((sc σ 37 1) ≤ (sc σ 37 15) → (iR 0 → SR σ → Q (.inl (some (vi 0))) σ)) ∧ (¬ (sc σ 37 1) ≤ (sc σ 37 15) → (0 ≤ sc σ 37 15 ∧ sc σ 37 15 < 400) ∧ (((ia σ 38 (sc σ 37 15)) = x1 → iR ((sc σ 37 15) + 1) ∧ Cl g ad d mX6_skipBlanks 0 0 [(.ref (ad 37))] (setS σ 37 15 ((sc σ 37 15) + 1)) (Kv fun s3 => (iR 1 → SR s3 → Q (.inl (some (vi 1))) s3))) ∧ (¬ (ia σ 38 (sc σ 37 15)) = x1 → (iR 0 → SR σ → Q (.inl (some (vi 0))) σ)))))) : Wb g ad d mX6_take Q 0 [some (.ref (ad 37)), some (vi x1)] [] σ rc rs := by
  refine sb_aload_n (pc' := 1) rfl rfl dX6_take_0 ?_
  refine sb_getI (pc' := 4) rfl fi_37_15 wd_314 dX6_take_1 ?_
  refine sb_aload_n (pc' := 5) rfl rfl dX6_take_4 ?_
  refine sb_getI (pc' := 8) rfl fi_37_1 wd_283 dX6_take_5 ?_
  refine sb_icmp_ge (pc' := 11) (tgt := 24) rfl (by decide) (SR_sc hS _ _) (SR_sc hS _ _) dX6_take_8 ?_ ?_
  · intro cc; have H := H.1 cc
    refine sb_iconst (pc' := 25) rfl dX6_take_24 ?_
    exact sb_iret rfl (nar_z2 (Or.inl rfl)) dX6_take_25 (H (iR_lit rfl) hS)
  · intro cc; have H := H.2 cc
    refine sb_aload_n (pc' := 12) rfl rfl dX6_take_11 ?_
    refine sb_getC (pc' := 15) rfl fc_37_0 wd_281 dX6_take_12 ?_
    refine sb_aload_n (pc' := 16) rfl rfl dX6_take_15 ?_
    refine sb_getI (pc' := 19) rfl fi_37_15 wd_314 dX6_take_16 ?_
    obtain ⟨o1, H⟩ := H
    refine sb_iald (pc' := 20) rfl aI_38 o1.1 o1.2 dX6_take_19 ?_
    refine sb_iload_n (pc' := 21) rfl rfl dX6_take_20 ?_
    refine sb_icmp_eq (pc' := 24) (tgt := 26) rfl (by decide) (SR_ia hS _ _) hx1 dX6_take_21 ?_ ?_
    · intro cc; have H := H.1 cc
      refine sb_aload_n (pc' := 27) rfl rfl dX6_take_26 ?_
      refine sb_dup (pc' := 28) rfl rfl dX6_take_27 ?_
      refine sb_getI (pc' := 31) rfl fi_37_15 wd_314 dX6_take_28 ?_
      refine sb_iconst (pc' := 32) rfl dX6_take_31 ?_
      refine sb_iadd (pc' := 33) rfl dX6_take_32 ?_
      obtain ⟨o2, H⟩ := H
      refine sb_putI (pc' := 36) rfl fi_37_15 (Or.inl rfl) wd_314 dX6_take_33 ?_
      refine sb_aload_n (pc' := 37) rfl rfl dX6_take_36 ?_
      obtain ⟨d3, hd3, H⟩ := H
      refine sb_callV (pc' := 40) rfl rfl (rc := rc) (rs := rs) (mc' := 0) (ms' := 0) (As := []) (st := []) of_37 rfl rfl (Nat.le_of_ble_eq_true rfl) hd3 kX6_skipBlanks ⟨wd_1011, wd_1013, wd_52⟩ dX6_take_37 (Eb.mono H ?_)
      rintro o s3 ⟨rfl, hs3, H⟩
      show Wb g ad d mX6_take Q 40 [some (.ref (ad 37)), some (vi x1)] [] s3 rc rs
      refine sb_iconst (pc' := 41) rfl dX6_take_40 ?_
      exact sb_iret rfl (nar_z2 (Or.inr rfl)) dX6_take_41 (H (iR_lit rfl) hs3)
    · intro cc; have H := H.2 cc
      refine sb_iconst (pc' := 25) rfl dX6_take_24 ?_
      exact sb_iret rfl (nar_z2 (Or.inl rfl)) dX6_take_25 (H (iR_lit rfl) hS)
theorem bX6_atLetter_0 {g : AG} {ad : Nat → Nat} {d : Nat} {Q : AO → SG → Prop} {rc rs : Nat} {σ : SG}    (hS : SR σ) (H : (((sc σ 37 1) ≤ (sc σ 37 15) → (iR 0 → SR σ → Q (.inl (some (vi 0))) σ)) ∧ (¬ (sc σ 37 1) ≤ (sc σ 37 15) → (0 ≤ sc σ 37 15 ∧ sc σ 37 15 < 400) ∧ (((ia σ 38 (sc σ 37 15)) < 97 → (iR 0 → SR σ → Q (.inl (some (vi 0))) σ)) ∧ (¬ (ia σ 38 (sc σ 37 15)) < 97 → ((122 < (ia σ 38 (sc σ 37 15)) → (iR 0 → SR σ → Q (.inl (some (vi 0))) σ)) ∧ (¬ 122 < (ia σ 38 (sc σ 37 15)) → (iR 1 → SR σ → Q (.inl (some (vi 1))) σ)))))))) : Wb g ad d mX6_atLetter Q 0 [some (.ref (ad 37))] [] σ rc rs := by
  refine sb_aload_n (pc' := 1) rfl rfl dX6_atLetter_0 ?_
  refine sb_getI (pc' := 4) rfl fi_37_15 wd_314 dX6_atLetter_1 ?_
  refine sb_aload_n (pc' := 5) rfl rfl dX6_atLetter_4 ?_
  refine sb_getI (pc' := 8) rfl fi_37_1 wd_283 dX6_atLetter_5 ?_
  refine sb_icmp_ge (pc' := 11) (tgt := 43) rfl (by decide) (SR_sc hS _ _) (SR_sc hS _ _) dX6_atLetter_8 ?_ ?_
  · intro cc; have H := H.1 cc
    refine sb_iconst (pc' := 44) rfl dX6_atLetter_43 ?_
    exact sb_iret rfl (nar_z2 (Or.inl rfl)) dX6_atLetter_44 (H (iR_lit rfl) hS)
  · intro cc; have H := H.2 cc
    refine sb_aload_n (pc' := 12) rfl rfl dX6_atLetter_11 ?_
    refine sb_getC (pc' := 15) rfl fc_37_0 wd_281 dX6_atLetter_12 ?_
    refine sb_aload_n (pc' := 16) rfl rfl dX6_atLetter_15 ?_
    refine sb_getI (pc' := 19) rfl fi_37_15 wd_314 dX6_atLetter_16 ?_
    obtain ⟨o1, H⟩ := H
    refine sb_iald (pc' := 20) rfl aI_38 o1.1 o1.2 dX6_atLetter_19 ?_
    refine sb_bipush (pc' := 22) rfl (z := 97) (by decide) dX6_atLetter_20 ?_
    refine sb_icmp_lt (pc' := 25) (tgt := 43) rfl (by decide) (SR_ia hS _ _) (iR_lit rfl) dX6_atLetter_22 ?_ ?_
    · intro cc; have H := H.1 cc
      refine sb_iconst (pc' := 44) rfl dX6_atLetter_43 ?_
      exact sb_iret rfl (nar_z2 (Or.inl rfl)) dX6_atLetter_44 (H (iR_lit rfl) hS)
    · intro cc; have H := H.2 cc
      refine sb_aload_n (pc' := 26) rfl rfl dX6_atLetter_25 ?_
      refine sb_getC (pc' := 29) rfl fc_37_0 wd_281 dX6_atLetter_26 ?_
      refine sb_aload_n (pc' := 30) rfl rfl dX6_atLetter_29 ?_
      refine sb_getI (pc' := 33) rfl fi_37_15 wd_314 dX6_atLetter_30 ?_
      refine sb_iald (pc' := 34) rfl aI_38 o1.1 o1.2 dX6_atLetter_33 ?_
      refine sb_bipush (pc' := 36) rfl (z := 122) (by decide) dX6_atLetter_34 ?_
      refine sb_icmp_gt (pc' := 39) (tgt := 43) rfl (by decide) (SR_ia hS _ _) (iR_lit rfl) dX6_atLetter_36 ?_ ?_
      · intro cc; have H := H.1 cc
        refine sb_iconst (pc' := 44) rfl dX6_atLetter_43 ?_
        exact sb_iret rfl (nar_z2 (Or.inl rfl)) dX6_atLetter_44 (H (iR_lit rfl) hS)
      · intro cc; have H := H.2 cc
        refine sb_iconst (pc' := 40) rfl dX6_atLetter_39 ?_
        refine sb_goto (tgt := 44) (by decide) dX6_atLetter_40 ?_
        exact sb_iret rfl (nar_z2 (Or.inr rfl)) dX6_atLetter_44 (H (iR_lit rfl) hS)
theorem bX6_skipBlanks_0 {g : AG} {ad : Nat → Nat} {d : Nat} {Q : AO → SG → Prop} {rc rs : Nat} {σ : SG}    (hS : SR σ) (H : (((sc σ 37 1) ≤ (sc σ 37 15) → (SR σ → Q (.inl none) σ)) ∧ (¬ (sc σ 37 1) ≤ (sc σ 37 15) → (0 ≤ sc σ 37 15 ∧ sc σ 37 15 < 400) ∧ ((¬ (ia σ 38 (sc σ 37 15)) = 32 → (SR σ → Q (.inl none) σ)) ∧ ((ia σ 38 (sc σ 37 15)) = 32 → iR ((sc σ 37 15) + 1) ∧ (SR (setS σ 37 15 ((sc σ 37 15) + 1)) → Wb g ad d mX6_skipBlanks Q 0 [some (.ref (ad 37))] [] (setS σ 37 15 ((sc σ 37 15) + 1)) rc rs)))))) : Wb g ad d mX6_skipBlanks Q 0 [some (.ref (ad 37))] [] σ rc rs := by
  refine sb_aload_n (pc' := 1) rfl rfl dX6_skipBlanks_0 ?_
  refine sb_getI (pc' := 4) rfl fi_37_15 wd_314 dX6_skipBlanks_1 ?_
  refine sb_aload_n (pc' := 5) rfl rfl dX6_skipBlanks_4 ?_
  refine sb_getI (pc' := 8) rfl fi_37_1 wd_283 dX6_skipBlanks_5 ?_
  refine sb_icmp_ge (pc' := 11) (tgt := 38) rfl (by decide) (SR_sc hS _ _) (SR_sc hS _ _) dX6_skipBlanks_8 ?_ ?_
  · intro cc; have H := H.1 cc
    exact sb_vret rfl dX6_skipBlanks_38 (H hS)
  · intro cc; have H := H.2 cc
    refine sb_aload_n (pc' := 12) rfl rfl dX6_skipBlanks_11 ?_
    refine sb_getC (pc' := 15) rfl fc_37_0 wd_281 dX6_skipBlanks_12 ?_
    refine sb_aload_n (pc' := 16) rfl rfl dX6_skipBlanks_15 ?_
    refine sb_getI (pc' := 19) rfl fi_37_15 wd_314 dX6_skipBlanks_16 ?_
    obtain ⟨o1, H⟩ := H
    refine sb_iald (pc' := 20) rfl aI_38 o1.1 o1.2 dX6_skipBlanks_19 ?_
    refine sb_bipush (pc' := 22) rfl (z := 32) (by decide) dX6_skipBlanks_20 ?_
    refine sb_icmp_ne (pc' := 25) (tgt := 38) rfl (by decide) (SR_ia hS _ _) (iR_lit rfl) dX6_skipBlanks_22 ?_ ?_
    · intro cc; have H := H.1 cc
      exact sb_vret rfl dX6_skipBlanks_38 (H hS)
    · intro cc; have H := H.2 cc
      refine sb_aload_n (pc' := 26) rfl rfl dX6_skipBlanks_25 ?_
      refine sb_dup (pc' := 27) rfl rfl dX6_skipBlanks_26 ?_
      refine sb_getI (pc' := 30) rfl fi_37_15 wd_314 dX6_skipBlanks_27 ?_
      refine sb_iconst (pc' := 31) rfl dX6_skipBlanks_30 ?_
      refine sb_iadd (pc' := 32) rfl dX6_skipBlanks_31 ?_
      obtain ⟨o2, H⟩ := H
      refine sb_putI (pc' := 35) rfl fi_37_15 (Or.inl rfl) wd_314 dX6_skipBlanks_32 ?_
      refine sb_goto (tgt := 0) (by decide) dX6_skipBlanks_35 ?_
      exact (H (SR_setS hS o2))
theorem bX7_fill_0 {g : AG} {ad : Nat → Nat} {d : Nat} {Q : AO → SG → Prop} {rc rs : Nat} {σ : SG} {x1 x2 x3 : Int}  (hx1 : iR x1) (hx2 : iR x2) (hx3 : iR x3) (hS : SR σ) (H : (iR x1 → iR x2 → iR x3 → iR 0 → SR σ → Wb g ad d mX7_fill Q 3 [some (.ref (ad 75)), some (vi x1), some (vi x2), some (vi x3), some (vi 0), none] [] σ rc rs)) : Wb g ad d mX7_fill Q 0 [some (.ref (ad 75)), some (vi x1), some (vi x2), some (vi x3), none, none] [] σ rc rs := by
  refine sb_iconst (pc' := 1) rfl dX7_fill_0 ?_
  refine sb_istore (pc' := 3) rfl (L' := [some (.ref (ad 75)), some (vi x1), some (vi x2), some (vi x3), some (vi 0), none]) rfl (by decide) dX7_fill_1 ?_
  exact (H hx1 hx2 hx3 (iR_lit rfl) hS)
theorem bX7_fill_3 {g : AG} {ad : Nat → Nat} {d : Nat} {Q : AO → SG → Prop} {rc rs : Nat} {σ : SG} {x1 x2 x3 x4 : Int}  (hx1 : iR x1) (hx2 : iR x2) (hx3 : iR x3) (hx4 : iR x4) (hS : SR σ) (H : (((sc σ 58 5) ≤ x4 → Cl g ad d mJ7_fill_53178 0 0 [(.ref (ad 80)), (vi 0)] σ (Kv fun s1 => Cl g ad d mJ7_fill_53178 0 0 [(.ref (ad 81)), (vi ((-1)))] s1 (Kv fun s2 => Cl g ad d mX7_lay 0 0 [(.ref (ad 75)), (vi 0), (vi 0), (vi ((-1))), (vi ((-1)))] (setS (setS (setS s2 75 12 0) 75 13 0) 75 14 0) (Kv fun s3 => (iR x1 → iR x2 → iR x3 → iR 0 → SR s3 → Wb g ad d mX7_fill Q 71 [some (.ref (ad 75)), some (vi x1), some (vi x2), some (vi x3), some (vi 0), none] [] s3 rc rs))))) ∧ (¬ (sc σ 58 5) ≤ x4 → (0 ≤ x4 ∧ x4 < 7913) ∧ iR (x4 + 1) ∧ (iR x1 → iR x2 → iR x3 → iR (x4 + 1) → SR (setI σ 77 x4 ((-1))) → Wb g ad d mX7_fill Q 3 [some (.ref (ad 75)), some (vi x1), some (vi x2), some (vi x3), some (vi (x4 + 1)), none] [] (setI σ 77 x4 ((-1))) rc rs)))) : Wb g ad d mX7_fill Q 3 [some (.ref (ad 75)), some (vi x1), some (vi x2), some (vi x3), some (vi x4), none] [] σ rc rs := by
  refine sb_iload (pc' := 5) rfl rfl dX7_fill_3 ?_
  refine sb_aload_n (pc' := 6) rfl rfl dX7_fill_5 ?_
  refine sb_getC (pc' := 9) rfl fc_75_1 wd_543 dX7_fill_6 ?_
  refine sb_getIN (pc' := 12) rfl fi_58_5 wd_437 dX7_fill_9 ?_
  refine sb_icmp_ge (pc' := 15) (tgt := 29) rfl (by decide) hx4 (SR_sc hS _ _) dX7_fill_12 ?_ ?_
  · intro cc; have H := H.1 cc
    refine sb_aload_n (pc' := 30) rfl rfl dX7_fill_29 ?_
    refine sb_getC (pc' := 33) rfl fc_75_7 wd_549 dX7_fill_30 ?_
    refine sb_iconst (pc' := 34) rfl dX7_fill_33 ?_
    obtain ⟨d1, hd1, H⟩ := H
    refine sb_callS (pc' := 37) rfl rfl (rc := rc) (rs := rs) (mc' := 0) (ms' := 0) (As := [(.ref (ad 80)), (vi 0)]) (st := [])  rfl rfl (Nat.le_of_ble_eq_true rfl) hd1 kJ7_fill_53178 ⟨wd_928, wd_773⟩ dX7_fill_34 (Eb.mono H ?_)
    rintro o s1 ⟨rfl, hs1, H⟩
    show Wb g ad d mX7_fill Q 37 [some (.ref (ad 75)), some (vi x1), some (vi x2), some (vi x3), some (vi x4), none] [] s1 rc rs
    refine sb_aload_n (pc' := 38) rfl rfl dX7_fill_37 ?_
    refine sb_getC (pc' := 41) rfl fc_75_8 wd_551 dX7_fill_38 ?_
    refine sb_iconst (pc' := 42) rfl dX7_fill_41 ?_
    obtain ⟨d2, hd2, H⟩ := H
    refine sb_callS (pc' := 45) rfl rfl (rc := rc) (rs := rs) (mc' := 0) (ms' := 0) (As := [(.ref (ad 81)), (vi ((-1)))]) (st := [])  rfl rfl (Nat.le_of_ble_eq_true rfl) hd2 kJ7_fill_53178 ⟨wd_928, wd_773⟩ dX7_fill_42 (Eb.mono H ?_)
    rintro o s2 ⟨rfl, hs2, H⟩
    show Wb g ad d mX7_fill Q 45 [some (.ref (ad 75)), some (vi x1), some (vi x2), some (vi x3), some (vi x4), none] [] s2 rc rs
    refine sb_aload_n (pc' := 46) rfl rfl dX7_fill_45 ?_
    refine sb_iconst (pc' := 47) rfl dX7_fill_46 ?_
    refine sb_putI (pc' := 50) rfl fi_75_12 (Or.inl rfl) wd_556 dX7_fill_47 ?_
    refine sb_aload_n (pc' := 51) rfl rfl dX7_fill_50 ?_
    refine sb_iconst (pc' := 52) rfl dX7_fill_51 ?_
    refine sb_putI (pc' := 55) rfl fi_75_13 (Or.inl rfl) wd_558 dX7_fill_52 ?_
    refine sb_aload_n (pc' := 56) rfl rfl dX7_fill_55 ?_
    refine sb_iconst (pc' := 57) rfl dX7_fill_56 ?_
    refine sb_putI (pc' := 60) rfl fi_75_14 (Or.inl rfl) wd_560 dX7_fill_57 ?_
    refine sb_aload_n (pc' := 61) rfl rfl dX7_fill_60 ?_
    refine sb_iconst (pc' := 62) rfl dX7_fill_61 ?_
    refine sb_iconst (pc' := 63) rfl dX7_fill_62 ?_
    refine sb_iconst (pc' := 64) rfl dX7_fill_63 ?_
    refine sb_iconst (pc' := 65) rfl dX7_fill_64 ?_
    obtain ⟨d3, hd3, H⟩ := H
    refine sb_callV (pc' := 68) rfl rfl (rc := rc) (rs := rs) (mc' := 0) (ms' := 0) (As := [(vi 0), (vi 0), (vi ((-1))), (vi ((-1)))]) (st := []) of_75 rfl rfl (Nat.le_of_ble_eq_true rfl) hd3 kX7_lay ⟨wd_929, wd_931, wd_39⟩ dX7_fill_65 (Eb.mono H ?_)
    rintro o s3 ⟨rfl, hs3, H⟩
    show Wb g ad d mX7_fill Q 68 [some (.ref (ad 75)), some (vi x1), some (vi x2), some (vi x3), some (vi x4), none] [] s3 rc rs
    refine sb_iconst (pc' := 69) rfl dX7_fill_68 ?_
    refine sb_istore (pc' := 71) rfl (L' := [some (.ref (ad 75)), some (vi x1), some (vi x2), some (vi x3), some (vi 0), none]) rfl (by decide) dX7_fill_69 ?_
    exact (H hx1 hx2 hx3 (iR_lit rfl) hs3)
  · intro cc; have H := H.2 cc
    refine sb_aload_n (pc' := 16) rfl rfl dX7_fill_15 ?_
    refine sb_getC (pc' := 19) rfl fc_75_4 wd_546 dX7_fill_16 ?_
    refine sb_iload (pc' := 21) rfl rfl dX7_fill_19 ?_
    refine sb_iconst (pc' := 22) rfl dX7_fill_21 ?_
    obtain ⟨o4, H⟩ := H
    refine sb_iast (pc' := 23) rfl aI_77 o4.1 o4.2  dX7_fill_22 ?_
    refine sb_iinc (pc' := 26) rfl rfl (L' := [some (.ref (ad 75)), some (vi x1), some (vi x2), some (vi x3), some (vi (x4 + 1)), none]) rfl (by decide) dX7_fill_23 ?_
    refine sb_goto (tgt := 3) (by decide) dX7_fill_26 ?_
    obtain ⟨o5, H⟩ := H
    exact (H hx1 hx2 hx3 o5 (SR_setI hS (iR_lit rfl)))
theorem bX7_fill_71 {g : AG} {ad : Nat → Nat} {d : Nat} {Q : AO → SG → Prop} {rc rs : Nat} {σ : SG} {x1 x2 x3 x4 : Int}  (hx1 : iR x1) (hx2 : iR x2) (hx3 : iR x3) (hx4 : iR x4) (hS : SR σ) (H : (((sc σ 48 10) ≤ x4 → Cl g ad d mX7_find 0 0 [(.ref (ad 75))] σ (Kv fun s1 => (SR s1 → Q (.inl none) s1))) ∧ (¬ (sc σ 48 10) ≤ x4 → Cl g ad d mX7_choose 0 0 [(.ref (ad 75)), (vi x4), (vi x3)] σ (Kv fun s2 => (0 ≤ x4 ∧ x4 < 7) ∧ iR ((sc s2 75 14) + ((ia s2 80 x4) - (sc s2 75 11))) ∧ (iR x1 → iR x2 → iR x3 → iR x4 → iR 0 → SR (setS s2 75 14 ((sc s2 75 14) + ((ia s2 80 x4) - (sc s2 75 11)))) → Wb g ad d mX7_fill Q 114 [some (.ref (ad 75)), some (vi x1), some (vi x2), some (vi x3), some (vi x4), some (vi 0)] [] (setS s2 75 14 ((sc s2 75 14) + ((ia s2 80 x4) - (sc s2 75 11)))) rc rs))))) : Wb g ad d mX7_fill Q 71 [some (.ref (ad 75)), some (vi x1), some (vi x2), some (vi x3), some (vi x4), none] [] σ rc rs := by
  refine sb_iload (pc' := 73) rfl rfl dX7_fill_71 ?_
  refine sb_aload_n (pc' := 74) rfl rfl dX7_fill_73 ?_
  refine sb_getC (pc' := 77) rfl fc_75_0 wd_542 dX7_fill_74 ?_
  refine sb_getIN (pc' := 80) rfl fi_48_10 wd_395 dX7_fill_77 ?_
  refine sb_icmp_ge (pc' := 83) (tgt := 148) rfl (by decide) hx4 (SR_sc hS _ _) dX7_fill_80 ?_ ?_
  · intro cc; have H := H.1 cc
    refine sb_aload_n (pc' := 149) rfl rfl dX7_fill_148 ?_
    obtain ⟨d1, hd1, H⟩ := H
    refine sb_callV (pc' := 152) rfl rfl (rc := rc) (rs := rs) (mc' := 0) (ms' := 0) (As := []) (st := []) of_75 rfl rfl (Nat.le_of_ble_eq_true rfl) hd1 kX7_find ⟨wd_957, wd_959, wd_44⟩ dX7_fill_149 (Eb.mono H ?_)
    rintro o s1 ⟨rfl, hs1, H⟩
    show Wb g ad d mX7_fill Q 152 [some (.ref (ad 75)), some (vi x1), some (vi x2), some (vi x3), some (vi x4), none] [] s1 rc rs
    exact sb_vret rfl dX7_fill_152 (H hs1)
  · intro cc; have H := H.2 cc
    refine sb_aload_n (pc' := 84) rfl rfl dX7_fill_83 ?_
    refine sb_iload (pc' := 86) rfl rfl dX7_fill_84 ?_
    refine sb_iload_n (pc' := 87) rfl rfl dX7_fill_86 ?_
    obtain ⟨d2, hd2, H⟩ := H
    refine sb_callV (pc' := 90) rfl rfl (rc := rc) (rs := rs) (mc' := 0) (ms' := 0) (As := [(vi x4), (vi x3)]) (st := []) of_75 rfl rfl (Nat.le_of_ble_eq_true rfl) hd2 kX7_choose ⟨wd_940, wd_942, wd_41⟩ dX7_fill_87 (Eb.mono H ?_)
    rintro o s2 ⟨rfl, hs2, H⟩
    show Wb g ad d mX7_fill Q 90 [some (.ref (ad 75)), some (vi x1), some (vi x2), some (vi x3), some (vi x4), none] [] s2 rc rs
    refine sb_aload_n (pc' := 91) rfl rfl dX7_fill_90 ?_
    refine sb_dup (pc' := 92) rfl rfl dX7_fill_91 ?_
    refine sb_getI (pc' := 95) rfl fi_75_14 wd_560 dX7_fill_92 ?_
    refine sb_aload_n (pc' := 96) rfl rfl dX7_fill_95 ?_
    refine sb_getC (pc' := 99) rfl fc_75_7 wd_549 dX7_fill_96 ?_
    refine sb_iload (pc' := 101) rfl rfl dX7_fill_99 ?_
    obtain ⟨o3, H⟩ := H
    refine sb_iald (pc' := 102) rfl aI_80 o3.1 o3.2 dX7_fill_101 ?_
    refine sb_aload_n (pc' := 103) rfl rfl dX7_fill_102 ?_
    refine sb_getI (pc' := 106) rfl fi_75_11 wd_555 dX7_fill_103 ?_
    refine sb_isub (pc' := 107) rfl dX7_fill_106 ?_
    refine sb_iadd (pc' := 108) rfl dX7_fill_107 ?_
    obtain ⟨o4, H⟩ := H
    refine sb_putI (pc' := 111) rfl fi_75_14 (Or.inl rfl) wd_560 dX7_fill_108 ?_
    refine sb_iconst (pc' := 112) rfl dX7_fill_111 ?_
    refine sb_istore (pc' := 114) rfl (L' := [some (.ref (ad 75)), some (vi x1), some (vi x2), some (vi x3), some (vi x4), some (vi 0)]) rfl (by decide) dX7_fill_112 ?_
    exact (H hx1 hx2 hx3 hx4 (iR_lit rfl) (SR_setS hs2 o4))
theorem bX7_fill_114 {g : AG} {ad : Nat → Nat} {d : Nat} {Q : AO → SG → Prop} {rc rs : Nat} {σ : SG} {x1 x2 x3 x4 x5 : Int}  (hx1 : iR x1) (hx2 : iR x2) (hx3 : iR x3) (hx4 : iR x4) (hx5 : iR x5) (hS : SR σ) (H : (((sc σ 75 11) ≤ x5 → iR (x4 + 1) ∧ (iR x1 → iR x2 → iR x3 → iR (x4 + 1) → SR σ → Wb g ad d mX7_fill Q 71 [some (.ref (ad 75)), some (vi x1), some (vi x2), some (vi x3), some (vi (x4 + 1)), none] [] σ rc rs)) ∧ (¬ (sc σ 75 11) ≤ x5 → (0 ≤ x5 ∧ x5 < 40) ∧ Cl g ad d mX7_goOn 0 0 [(.ref (ad 75)), (vi (ia σ 83 x5)), (vi x1), (vi x2)] σ (Kv fun s3 => iR (x5 + 1) ∧ (iR x1 → iR x2 → iR x3 → iR x4 → iR (x5 + 1) → SR s3 → Wb g ad d mX7_fill Q 114 [some (.ref (ad 75)), some (vi x1), some (vi x2), some (vi x3), some (vi x4), some (vi (x5 + 1))] [] s3 rc rs))))) : Wb g ad d mX7_fill Q 114 [some (.ref (ad 75)), some (vi x1), some (vi x2), some (vi x3), some (vi x4), some (vi x5)] [] σ rc rs := by
  refine sb_iload (pc' := 116) rfl rfl dX7_fill_114 ?_
  refine sb_aload_n (pc' := 117) rfl rfl dX7_fill_116 ?_
  refine sb_getI (pc' := 120) rfl fi_75_11 wd_555 dX7_fill_117 ?_
  refine sb_icmp_ge (pc' := 123) (tgt := 142) rfl (by decide) hx5 (SR_sc hS _ _) dX7_fill_120 ?_ ?_
  · intro cc; have H := H.1 cc
    refine sb_iinc (pc' := 145) rfl rfl (L' := [some (.ref (ad 75)), some (vi x1), some (vi x2), some (vi x3), some (vi (x4 + 1)), some (vi x5)]) rfl (by decide) dX7_fill_142 ?_
    refine sb_goto (tgt := 71) (by decide) dX7_fill_145 ?_
    obtain ⟨o1, H⟩ := H
    refine Wb.forget [true, true, true, true, true, false] ?_
    exact (H hx1 hx2 hx3 o1 hS)
  · intro cc; have H := H.2 cc
    refine sb_aload_n (pc' := 124) rfl rfl dX7_fill_123 ?_
    refine sb_aload_n (pc' := 125) rfl rfl dX7_fill_124 ?_
    refine sb_getC (pc' := 128) rfl fc_75_10 wd_554 dX7_fill_125 ?_
    refine sb_iload (pc' := 130) rfl rfl dX7_fill_128 ?_
    obtain ⟨o2, H⟩ := H
    refine sb_iald (pc' := 131) rfl aI_83 o2.1 o2.2 dX7_fill_130 ?_
    refine sb_iload_n (pc' := 132) rfl rfl dX7_fill_131 ?_
    refine sb_iload_n (pc' := 133) rfl rfl dX7_fill_132 ?_
    obtain ⟨d3, hd3, H⟩ := H
    refine sb_callV (pc' := 136) rfl rfl (rc := rc) (rs := rs) (mc' := 0) (ms' := 0) (As := [(vi (ia σ 83 x5)), (vi x1), (vi x2)]) (st := []) of_75 rfl rfl (Nat.le_of_ble_eq_true rfl) hd3 kX7_goOn ⟨wd_948, wd_950, wd_43⟩ dX7_fill_133 (Eb.mono H ?_)
    rintro o s3 ⟨rfl, hs3, H⟩
    show Wb g ad d mX7_fill Q 136 [some (.ref (ad 75)), some (vi x1), some (vi x2), some (vi x3), some (vi x4), some (vi x5)] [] s3 rc rs
    refine sb_iinc (pc' := 139) rfl rfl (L' := [some (.ref (ad 75)), some (vi x1), some (vi x2), some (vi x3), some (vi x4), some (vi (x5 + 1))]) rfl (by decide) dX7_fill_136 ?_
    refine sb_goto (tgt := 114) (by decide) dX7_fill_139 ?_
    obtain ⟨o4, H⟩ := H
    exact (H hx1 hx2 hx3 hx4 o4 hs3)
theorem bX7_lay_0 {g : AG} {ad : Nat → Nat} {d : Nat} {Q : AO → SG → Prop} {rc rs : Nat} {σ : SG} {x1 x2 x3 x4 : Int}  (hx1 : iR x1) (hx2 : iR x2) (hx3 : iR x3) (hx4 : iR x4) (hS : SR σ) (H : Cl g ad d mX1_mask 0 0 [(.ref (ad 58)), (vi x1)] σ (Ki fun r1 s1 => Cl g ad d mJ6_bitCount_0f7a4 0 0 [(vi r1)] s1 (Ki fun r2 s2 => (0 ≤ x1 ∧ x1 < 7913) ∧ (((ia s2 77 x1) = ((-1)) → (0 ≤ r2 ∧ r2 < 7) ∧ iR ((ia s2 80 r2) + 1) ∧ Cl g ad d mX7_score 0 0 [(.ref (ad 75)), (vi x1)] (setI (setI (setI (setI (setI s2 80 r2 ((ia s2 80 r2) + 1)) 76 x1 x2) 77 x1 (sc (setI (setI s2 80 r2 ((ia s2 80 r2) + 1)) 76 x1 x2) 75 12)) 78 x1 x3) 79 x1 x4) (Ki fun r6 s6 => ((¬ (ia s6 81 r2) = ((-1)) → Cl g ad d mJ9_min_7cf53 0 0 [(vi (ia s6 81 r2)), (vi r6)] s6 (Ki fun r7 s7 => (SR (setI s7 81 r2 r7) → Q (.inl none) (setI s7 81 r2 r7)))) ∧ ((ia s6 81 r2) = ((-1)) → (SR (setI s6 81 r2 r6) → Q (.inl none) (setI s6 81 r2 r6)))))) ∧ (¬ (ia s2 77 x1) = ((-1)) → iR ((sc s2 75 13) + 1) ∧ ((x2 < (ia (setS s2 75 13 ((sc s2 75 13) + 1)) 76 x1) → Cl g ad d mX7_score 0 0 [(.ref (ad 75)), (vi x1)] (setI (setI (setI (setI (setS s2 75 13 ((sc s2 75 13) + 1)) 76 x1 x2) 77 x1 (sc (setI (setS s2 75 13 ((sc s2 75 13) + 1)) 76 x1 x2) 75 12)) 78 x1 x3) 79 x1 x4) (Ki fun r9 s9 => (0 ≤ r2 ∧ r2 < 7) ∧ ((¬ (ia s9 81 r2) = ((-1)) → Cl g ad d mJ9_min_7cf53 0 0 [(vi (ia s9 81 r2)), (vi r9)] s9 (Ki fun r11 s11 => (SR (setI s11 81 r2 r11) → Q (.inl none) (setI s11 81 r2 r11)))) ∧ ((ia s9 81 r2) = ((-1)) → (SR (setI s9 81 r2 r9) → Q (.inl none) (setI s9 81 r2 r9)))))) ∧ (¬ x2 < (ia (setS s2 75 13 ((sc s2 75 13) + 1)) 76 x1) → (SR (setS s2 75 13 ((sc s2 75 13) + 1)) → Q (.inl none) (setS s2 75 13 ((sc s2 75 13) + 1)))))))))) : Wb g ad d mX7_lay Q 0 [some (.ref (ad 75)), some (vi x1), some (vi x2), some (vi x3), some (vi x4), none, none] [] σ rc rs := by
  refine sb_aload_n (pc' := 1) rfl rfl dX7_lay_0 ?_
  refine sb_getC (pc' := 4) rfl fc_75_1 wd_543 dX7_lay_1 ?_
  refine sb_iload_n (pc' := 5) rfl rfl dX7_lay_4 ?_
  obtain ⟨d1, hd1, H⟩ := H
  refine sb_callVN (pc' := 8) rfl rfl (rc := rc) (rs := rs) (mc' := 0) (ms' := 0) (As := [(vi x1)]) (st := []) of_58 rfl rfl (Nat.le_of_ble_eq_true rfl) hd1 kX1_mask ⟨wd_933, wd_809, wd_20⟩ dX7_lay_5 (Eb.mono H ?_)
  rintro o s1 ⟨r1, rfl, hr1, hs1, H⟩
  show Wb g ad d mX7_lay Q 8 [some (.ref (ad 75)), some (vi x1), some (vi x2), some (vi x3), some (vi x4), none, none] [(vi r1)] s1 rc rs
  obtain ⟨d2, hd2, H⟩ := H
  refine sb_callS (pc' := 11) rfl rfl (rc := rc) (rs := rs) (mc' := 0) (ms' := 0) (As := [(vi r1)]) (st := [])  rfl rfl (Nat.le_of_ble_eq_true rfl) hd2 kJ6_bitCount_0f7a4 ⟨wd_934, wd_747⟩ dX7_lay_8 (Eb.mono H ?_)
  rintro o s2 ⟨r2, rfl, hr2, hs2, H⟩
  show Wb g ad d mX7_lay Q 11 [some (.ref (ad 75)), some (vi x1), some (vi x2), some (vi x3), some (vi x4), none, none] [(vi r2)] s2 rc rs
  refine sb_istore (pc' := 13) rfl (L' := [some (.ref (ad 75)), some (vi x1), some (vi x2), some (vi x3), some (vi x4), some (vi r2), none]) rfl (by decide) dX7_lay_11 ?_
  refine sb_aload_n (pc' := 14) rfl rfl dX7_lay_13 ?_
  refine sb_getC (pc' := 17) rfl fc_75_4 wd_546 dX7_lay_14 ?_
  refine sb_iload_n (pc' := 18) rfl rfl dX7_lay_17 ?_
  obtain ⟨o3, H⟩ := H
  refine sb_iald (pc' := 19) rfl aI_77 o3.1 o3.2 dX7_lay_18 ?_
  refine sb_iconst (pc' := 20) rfl dX7_lay_19 ?_
  refine sb_icmp_eq (pc' := 23) (tgt := 44) rfl (by decide) (SR_ia hs2 _ _) (iR_lit rfl) dX7_lay_20 ?_ ?_
  · intro cc; have H := H.1 cc
    refine sb_aload_n (pc' := 45) rfl rfl dX7_lay_44 ?_
    refine sb_getC (pc' := 48) rfl fc_75_7 wd_549 dX7_lay_45 ?_
    refine sb_iload (pc' := 50) rfl rfl dX7_lay_48 ?_
    refine sb_dup2 (pc' := 51) rfl rfl rfl dX7_lay_50 ?_
    obtain ⟨o4, H⟩ := H
    refine sb_iald (pc' := 52) rfl aI_80 o4.1 o4.2 dX7_lay_51 ?_
    refine sb_iconst (pc' := 53) rfl dX7_lay_52 ?_
    refine sb_iadd (pc' := 54) rfl dX7_lay_53 ?_
    obtain ⟨o5, H⟩ := H
    refine sb_iast (pc' := 55) rfl aI_80 o4.1 o4.2  dX7_lay_54 ?_
    refine sb_aload_n (pc' := 56) rfl rfl dX7_lay_55 ?_
    refine sb_getC (pc' := 59) rfl fc_75_3 wd_545 dX7_lay_56 ?_
    refine sb_iload_n (pc' := 60) rfl rfl dX7_lay_59 ?_
    refine sb_iload_n (pc' := 61) rfl rfl dX7_lay_60 ?_
    refine sb_iast (pc' := 62) rfl aI_76 o3.1 o3.2  dX7_lay_61 ?_
    refine sb_aload_n (pc' := 63) rfl rfl dX7_lay_62 ?_
    refine sb_getC (pc' := 66) rfl fc_75_4 wd_546 dX7_lay_63 ?_
    refine sb_iload_n (pc' := 67) rfl rfl dX7_lay_66 ?_
    refine sb_aload_n (pc' := 68) rfl rfl dX7_lay_67 ?_
    refine sb_getI (pc' := 71) rfl fi_75_12 wd_556 dX7_lay_68 ?_
    refine sb_iast (pc' := 72) rfl aI_77 o3.1 o3.2  dX7_lay_71 ?_
    refine sb_aload_n (pc' := 73) rfl rfl dX7_lay_72 ?_
    refine sb_getC (pc' := 76) rfl fc_75_5 wd_547 dX7_lay_73 ?_
    refine sb_iload_n (pc' := 77) rfl rfl dX7_lay_76 ?_
    refine sb_iload_n (pc' := 78) rfl rfl dX7_lay_77 ?_
    refine sb_iast (pc' := 79) rfl aI_78 o3.1 o3.2  dX7_lay_78 ?_
    refine sb_aload_n (pc' := 80) rfl rfl dX7_lay_79 ?_
    refine sb_getC (pc' := 83) rfl fc_75_6 wd_548 dX7_lay_80 ?_
    refine sb_iload_n (pc' := 84) rfl rfl dX7_lay_83 ?_
    refine sb_iload (pc' := 86) rfl rfl dX7_lay_84 ?_
    refine sb_iast (pc' := 87) rfl aI_79 o3.1 o3.2  dX7_lay_86 ?_
    refine sb_aload_n (pc' := 88) rfl rfl dX7_lay_87 ?_
    refine sb_iload_n (pc' := 89) rfl rfl dX7_lay_88 ?_
    obtain ⟨d6, hd6, H⟩ := H
    refine sb_callV (pc' := 92) rfl rfl (rc := rc) (rs := rs) (mc' := 0) (ms' := 0) (As := [(vi x1)]) (st := []) of_75 rfl rfl (Nat.le_of_ble_eq_true rfl) hd6 kX7_score ⟨wd_935, wd_937, wd_40⟩ dX7_lay_89 (Eb.mono H ?_)
    rintro o s6 ⟨r6, rfl, hr6, hs6, H⟩
    show Wb g ad d mX7_lay Q 92 [some (.ref (ad 75)), some (vi x1), some (vi x2), some (vi x3), some (vi x4), some (vi r2), none] [(vi r6)] s6 rc rs
    refine sb_istore (pc' := 94) rfl (L' := [some (.ref (ad 75)), some (vi x1), some (vi x2), some (vi x3), some (vi x4), some (vi r2), some (vi r6)]) rfl (by decide) dX7_lay_92 ?_
    refine sb_aload_n (pc' := 95) rfl rfl dX7_lay_94 ?_
    refine sb_getC (pc' := 98) rfl fc_75_8 wd_551 dX7_lay_95 ?_
    refine sb_iload (pc' := 100) rfl rfl dX7_lay_98 ?_
    refine sb_aload_n (pc' := 101) rfl rfl dX7_lay_100 ?_
    refine sb_getC (pc' := 104) rfl fc_75_8 wd_551 dX7_lay_101 ?_
    refine sb_iload (pc' := 106) rfl rfl dX7_lay_104 ?_
    refine sb_iald (pc' := 107) rfl aI_81 o4.1 o4.2 dX7_lay_106 ?_
    refine sb_iconst (pc' := 108) rfl dX7_lay_107 ?_
    refine sb_icmp_ne (pc' := 111) (tgt := 116) rfl (by decide) (SR_ia hs6 _ _) (iR_lit rfl) dX7_lay_108 ?_ ?_
    · intro cc; have H := H.1 cc
      refine sb_aload_n (pc' := 117) rfl rfl dX7_lay_116 ?_
      refine sb_getC (pc' := 120) rfl fc_75_8 wd_551 dX7_lay_117 ?_
      refine sb_iload (pc' := 122) rfl rfl dX7_lay_120 ?_
      refine sb_iald (pc' := 123) rfl aI_81 o4.1 o4.2 dX7_lay_122 ?_
      refine sb_iload (pc' := 125) rfl rfl dX7_lay_123 ?_
      obtain ⟨d7, hd7, H⟩ := H
      refine sb_callS (pc' := 128) rfl rfl (rc := rc) (rs := rs) (mc' := 0) (ms' := 0) (As := [(vi (ia s6 81 r2)), (vi r6)]) (st := [(vi r2), (.ref (ad 81))])  rfl rfl (Nat.le_of_ble_eq_true rfl) hd7 kJ9_min_7cf53 ⟨wd_939, wd_776⟩ dX7_lay_125 (Eb.mono H ?_)
      rintro o s7 ⟨r7, rfl, hr7, hs7, H⟩
      show Wb g ad d mX7_lay Q 128 [some (.ref (ad 75)), some (vi x1), some (vi x2), some (vi x3), some (vi x4), some (vi r2), some (vi r6)] [(vi r7), (vi r2), (.ref (ad 81))] s7 rc rs
      refine sb_iast (pc' := 129) rfl aI_81 o4.1 o4.2  dX7_lay_128 ?_
      exact sb_vret rfl dX7_lay_129 (H (SR_setI hs7 hr7))
    · intro cc; have H := H.2 cc
      refine sb_iload (pc' := 113) rfl rfl dX7_lay_111 ?_
      refine sb_goto (tgt := 128) (by decide) dX7_lay_113 ?_
      refine sb_iast (pc' := 129) rfl aI_81 o4.1 o4.2  dX7_lay_128 ?_
      exact sb_vret rfl dX7_lay_129 (H (SR_setI hs6 hr6))
  · intro cc; have H := H.2 cc
    refine sb_aload_n (pc' := 24) rfl rfl dX7_lay_23 ?_
    refine sb_dup (pc' := 25) rfl rfl dX7_lay_24 ?_
    refine sb_getI (pc' := 28) rfl fi_75_13 wd_558 dX7_lay_25 ?_
    refine sb_iconst (pc' := 29) rfl dX7_lay_28 ?_
    refine sb_iadd (pc' := 30) rfl dX7_lay_29 ?_
    obtain ⟨o8, H⟩ := H
    refine sb_putI (pc' := 33) rfl fi_75_13 (Or.inl rfl) wd_558 dX7_lay_30 ?_
    refine sb_iload_n (pc' := 34) rfl rfl dX7_lay_33 ?_
    refine sb_aload_n (pc' := 35) rfl rfl dX7_lay_34 ?_
    refine sb_getC (pc' := 38) rfl fc_75_3 wd_545 dX7_lay_35 ?_
    refine sb_iload_n (pc' := 39) rfl rfl dX7_lay_38 ?_
    refine sb_iald (pc' := 40) rfl aI_76 o3.1 o3.2 dX7_lay_39 ?_
    refine sb_icmp_lt (pc' := 43) (tgt := 55) rfl (by decide) hx2 (SR_ia (SR_setS hs2 o8) _ _) dX7_lay_40 ?_ ?_
    · intro cc; have H := H.1 cc
      refine sb_aload_n (pc' := 56) rfl rfl dX7_lay_55 ?_
      refine sb_getC (pc' := 59) rfl fc_75_3 wd_545 dX7_lay_56 ?_
      refine sb_iload_n (pc' := 60) rfl rfl dX7_lay_59 ?_
      refine sb_iload_n (pc' := 61) rfl rfl dX7_lay_60 ?_
      refine sb_iast (pc' := 62) rfl aI_76 o3.1 o3.2  dX7_lay_61 ?_
      refine sb_aload_n (pc' := 63) rfl rfl dX7_lay_62 ?_
      refine sb_getC (pc' := 66) rfl fc_75_4 wd_546 dX7_lay_63 ?_
      refine sb_iload_n (pc' := 67) rfl rfl dX7_lay_66 ?_
      refine sb_aload_n (pc' := 68) rfl rfl dX7_lay_67 ?_
      refine sb_getI (pc' := 71) rfl fi_75_12 wd_556 dX7_lay_68 ?_
      refine sb_iast (pc' := 72) rfl aI_77 o3.1 o3.2  dX7_lay_71 ?_
      refine sb_aload_n (pc' := 73) rfl rfl dX7_lay_72 ?_
      refine sb_getC (pc' := 76) rfl fc_75_5 wd_547 dX7_lay_73 ?_
      refine sb_iload_n (pc' := 77) rfl rfl dX7_lay_76 ?_
      refine sb_iload_n (pc' := 78) rfl rfl dX7_lay_77 ?_
      refine sb_iast (pc' := 79) rfl aI_78 o3.1 o3.2  dX7_lay_78 ?_
      refine sb_aload_n (pc' := 80) rfl rfl dX7_lay_79 ?_
      refine sb_getC (pc' := 83) rfl fc_75_6 wd_548 dX7_lay_80 ?_
      refine sb_iload_n (pc' := 84) rfl rfl dX7_lay_83 ?_
      refine sb_iload (pc' := 86) rfl rfl dX7_lay_84 ?_
      refine sb_iast (pc' := 87) rfl aI_79 o3.1 o3.2  dX7_lay_86 ?_
      refine sb_aload_n (pc' := 88) rfl rfl dX7_lay_87 ?_
      refine sb_iload_n (pc' := 89) rfl rfl dX7_lay_88 ?_
      obtain ⟨d9, hd9, H⟩ := H
      refine sb_callV (pc' := 92) rfl rfl (rc := rc) (rs := rs) (mc' := 0) (ms' := 0) (As := [(vi x1)]) (st := []) of_75 rfl rfl (Nat.le_of_ble_eq_true rfl) hd9 kX7_score ⟨wd_935, wd_937, wd_40⟩ dX7_lay_89 (Eb.mono H ?_)
      rintro o s9 ⟨r9, rfl, hr9, hs9, H⟩
      show Wb g ad d mX7_lay Q 92 [some (.ref (ad 75)), some (vi x1), some (vi x2), some (vi x3), some (vi x4), some (vi r2), none] [(vi r9)] s9 rc rs
      refine sb_istore (pc' := 94) rfl (L' := [some (.ref (ad 75)), some (vi x1), some (vi x2), some (vi x3), some (vi x4), some (vi r2), some (vi r9)]) rfl (by decide) dX7_lay_92 ?_
      refine sb_aload_n (pc' := 95) rfl rfl dX7_lay_94 ?_
      refine sb_getC (pc' := 98) rfl fc_75_8 wd_551 dX7_lay_95 ?_
      refine sb_iload (pc' := 100) rfl rfl dX7_lay_98 ?_
      refine sb_aload_n (pc' := 101) rfl rfl dX7_lay_100 ?_
      refine sb_getC (pc' := 104) rfl fc_75_8 wd_551 dX7_lay_101 ?_
      refine sb_iload (pc' := 106) rfl rfl dX7_lay_104 ?_
      obtain ⟨o10, H⟩ := H
      refine sb_iald (pc' := 107) rfl aI_81 o10.1 o10.2 dX7_lay_106 ?_
      refine sb_iconst (pc' := 108) rfl dX7_lay_107 ?_
      refine sb_icmp_ne (pc' := 111) (tgt := 116) rfl (by decide) (SR_ia hs9 _ _) (iR_lit rfl) dX7_lay_108 ?_ ?_
      · intro cc; have H := H.1 cc
        refine sb_aload_n (pc' := 117) rfl rfl dX7_lay_116 ?_
        refine sb_getC (pc' := 120) rfl fc_75_8 wd_551 dX7_lay_117 ?_
        refine sb_iload (pc' := 122) rfl rfl dX7_lay_120 ?_
        refine sb_iald (pc' := 123) rfl aI_81 o10.1 o10.2 dX7_lay_122 ?_
        refine sb_iload (pc' := 125) rfl rfl dX7_lay_123 ?_
        obtain ⟨d11, hd11, H⟩ := H
        refine sb_callS (pc' := 128) rfl rfl (rc := rc) (rs := rs) (mc' := 0) (ms' := 0) (As := [(vi (ia s9 81 r2)), (vi r9)]) (st := [(vi r2), (.ref (ad 81))])  rfl rfl (Nat.le_of_ble_eq_true rfl) hd11 kJ9_min_7cf53 ⟨wd_939, wd_776⟩ dX7_lay_125 (Eb.mono H ?_)
        rintro o s11 ⟨r11, rfl, hr11, hs11, H⟩
        show Wb g ad d mX7_lay Q 128 [some (.ref (ad 75)), some (vi x1), some (vi x2), some (vi x3), some (vi x4), some (vi r2), some (vi r9)] [(vi r11), (vi r2), (.ref (ad 81))] s11 rc rs
        refine sb_iast (pc' := 129) rfl aI_81 o10.1 o10.2  dX7_lay_128 ?_
        exact sb_vret rfl dX7_lay_129 (H (SR_setI hs11 hr11))
      · intro cc; have H := H.2 cc
        refine sb_iload (pc' := 113) rfl rfl dX7_lay_111 ?_
        refine sb_goto (tgt := 128) (by decide) dX7_lay_113 ?_
        refine sb_iast (pc' := 129) rfl aI_81 o10.1 o10.2  dX7_lay_128 ?_
        exact sb_vret rfl dX7_lay_129 (H (SR_setI hs9 hr9))
    · intro cc; have H := H.2 cc
      exact sb_vret rfl dX7_lay_43 (H (SR_setS hs2 o8))
theorem bX7_score_0 {g : AG} {ad : Nat → Nat} {d : Nat} {Q : AO → SG → Prop} {rc rs : Nat} {σ : SG} {x1 : Int}  (hx1 : iR x1) (hS : SR σ) (H : (0 ≤ x1 ∧ x1 < 7913) ∧ Cl g ad d mX1_mask 0 0 [(.ref (ad 58)), (vi x1)] σ (Ki fun r2 s2 => (0 ≤ r2 ∧ r2 < 64) ∧ iR ((ia σ 76 x1) + (ia s2 74 r2)) ∧ (iR ((ia σ 76 x1) + (ia s2 74 r2)) → SR s2 → Q (.inl (some (vi ((ia σ 76 x1) + (ia s2 74 r2))))) s2))) : Wb g ad d mX7_score Q 0 [some (.ref (ad 75)), some (vi x1)] [] σ rc rs := by
  refine sb_aload_n (pc' := 1) rfl rfl dX7_score_0 ?_
  refine sb_getC (pc' := 4) rfl fc_75_3 wd_545 dX7_score_1 ?_
  refine sb_iload_n (pc' := 5) rfl rfl dX7_score_4 ?_
  obtain ⟨o1, H⟩ := H
  refine sb_iald (pc' := 6) rfl aI_76 o1.1 o1.2 dX7_score_5 ?_
  refine sb_aload_n (pc' := 7) rfl rfl dX7_score_6 ?_
  refine sb_getC (pc' := 10) rfl fc_75_2 wd_544 dX7_score_7 ?_
  refine sb_getCN (pc' := 13) rfl fc_72_2 wd_528 dX7_score_10 ?_
  refine sb_aload_n (pc' := 14) rfl rfl dX7_score_13 ?_
  refine sb_getC (pc' := 17) rfl fc_75_1 wd_543 dX7_score_14 ?_
  refine sb_iload_n (pc' := 18) rfl rfl dX7_score_17 ?_
  obtain ⟨d2, hd2, H⟩ := H
  refine sb_callVN (pc' := 21) rfl rfl (rc := rc) (rs := rs) (mc' := 0) (ms' := 0) (As := [(vi x1)]) (st := [(.ref (ad 74)), (vi (ia σ 76 x1))]) of_58 rfl rfl (Nat.le_of_ble_eq_true rfl) hd2 kX1_mask ⟨wd_933, wd_809, wd_20⟩ dX7_score_18 (Eb.mono H ?_)
  rintro o s2 ⟨r2, rfl, hr2, hs2, H⟩
  show Wb g ad d mX7_score Q 21 [some (.ref (ad 75)), some (vi x1)] [(vi r2), (.ref (ad 74)), (vi (ia σ 76 x1))] s2 rc rs
  obtain ⟨o3, H⟩ := H
  refine sb_iald (pc' := 22) rfl aI_74 o3.1 o3.2 dX7_score_21 ?_
  refine sb_iadd (pc' := 23) rfl dX7_score_22 ?_
  obtain ⟨o4, H⟩ := H
  exact sb_iret rfl rfl dX7_score_23 (H o4 hs2)
theorem bX7_choose_0 {g : AG} {ad : Nat → Nat} {d : Nat} {Q : AO → SG → Prop} {rc rs : Nat} {σ : SG} {x1 x2 : Int}  (hx1 : iR x1) (hx2 : iR x2) (hS : SR σ) (H : (0 ≤ x1 ∧ x1 < 8) ∧ (iR x1 → iR x2 → iR (ia (setS σ 75 11 0) 62 x1) → SR (setS σ 75 11 0) → Wb g ad d mX7_choose Q 15 [some (.ref (ad 75)), some (vi x1), some (vi x2), some (vi (ia (setS σ 75 11 0) 62 x1))] [] (setS σ 75 11 0) rc rs)) : Wb g ad d mX7_choose Q 0 [some (.ref (ad 75)), some (vi x1), some (vi x2), none] [] σ rc rs := by
  refine sb_aload_n (pc' := 1) rfl rfl dX7_choose_0 ?_
  refine sb_iconst (pc' := 2) rfl dX7_choose_1 ?_
  refine sb_putI (pc' := 5) rfl fi_75_11 (Or.inl rfl) wd_555 dX7_choose_2 ?_
  refine sb_aload_n (pc' := 6) rfl rfl dX7_choose_5 ?_
  refine sb_getC (pc' := 9) rfl fc_75_1 wd_543 dX7_choose_6 ?_
  refine sb_getCN (pc' := 12) rfl fc_58_4 wd_436 dX7_choose_9 ?_
  refine sb_iload_n (pc' := 13) rfl rfl dX7_choose_12 ?_
  obtain ⟨o1, H⟩ := H
  refine sb_iald (pc' := 14) rfl aI_62 o1.1 o1.2 dX7_choose_13 ?_
  refine sb_istore_n (pc' := 15) rfl (L' := [some (.ref (ad 75)), some (vi x1), some (vi x2), some (vi (ia (setS σ 75 11 0) 62 x1))]) rfl (by decide) dX7_choose_14 ?_
  exact (H hx1 hx2 (SR_ia (SR_setS hS (iR_lit rfl)) _ _) (SR_setS hS (iR_lit rfl)))
theorem bX7_choose_15 {g : AG} {ad : Nat → Nat} {d : Nat} {Q : AO → SG → Prop} {rc rs : Nat} {σ : SG} {x1 x2 x3 : Int}  (hx1 : iR x1) (hx2 : iR x2) (hx3 : iR x3) (hS : SR σ) (H : (0 ≤ x1 + 1 ∧ x1 + 1 < 8) ∧ (((ia σ 62 (x1 + 1)) ≤ x3 → (SR σ → Q (.inl none) σ)) ∧ (¬ (ia σ 62 (x1 + 1)) ≤ x3 → (0 ≤ x3 ∧ x3 < 7913) ∧ (((ia σ 77 x3) = ((-1)) → iR (x3 + 1) ∧ (iR x1 → iR x2 → iR (x3 + 1) → SR σ → Wb g ad d mX7_choose Q 15 [some (.ref (ad 75)), some (vi x1), some (vi x2), some (vi (x3 + 1))] [] σ rc rs)) ∧ (¬ (ia σ 77 x3) = ((-1)) → Cl g ad d mX7_offer 0 0 [(.ref (ad 75)), (vi x3), (vi x2)] σ (Kv fun s4 => iR (x3 + 1) ∧ (iR x1 → iR x2 → iR (x3 + 1) → SR s4 → Wb g ad d mX7_choose Q 15 [some (.ref (ad 75)), some (vi x1), some (vi x2), some (vi (x3 + 1))] [] s4 rc rs))))))) : Wb g ad d mX7_choose Q 15 [some (.ref (ad 75)), some (vi x1), some (vi x2), some (vi x3)] [] σ rc rs := by
  refine sb_iload_n (pc' := 16) rfl rfl dX7_choose_15 ?_
  refine sb_aload_n (pc' := 17) rfl rfl dX7_choose_16 ?_
  refine sb_getC (pc' := 20) rfl fc_75_1 wd_543 dX7_choose_17 ?_
  refine sb_getCN (pc' := 23) rfl fc_58_4 wd_436 dX7_choose_20 ?_
  refine sb_iload_n (pc' := 24) rfl rfl dX7_choose_23 ?_
  refine sb_iconst (pc' := 25) rfl dX7_choose_24 ?_
  refine sb_iadd (pc' := 26) rfl dX7_choose_25 ?_
  obtain ⟨o1, H⟩ := H
  refine sb_iald (pc' := 27) rfl aI_62 o1.1 o1.2 dX7_choose_26 ?_
  refine sb_icmp_ge (pc' := 30) (tgt := 52) rfl (by decide) hx3 (SR_ia hS _ _) dX7_choose_27 ?_ ?_
  · intro cc; have H := H.1 cc
    exact sb_vret rfl dX7_choose_52 (H hS)
  · intro cc; have H := H.2 cc
    refine sb_aload_n (pc' := 31) rfl rfl dX7_choose_30 ?_
    refine sb_getC (pc' := 34) rfl fc_75_4 wd_546 dX7_choose_31 ?_
    refine sb_iload_n (pc' := 35) rfl rfl dX7_choose_34 ?_
    obtain ⟨o2, H⟩ := H
    refine sb_iald (pc' := 36) rfl aI_77 o2.1 o2.2 dX7_choose_35 ?_
    refine sb_iconst (pc' := 37) rfl dX7_choose_36 ?_
    refine sb_icmp_eq (pc' := 40) (tgt := 46) rfl (by decide) (SR_ia hS _ _) (iR_lit rfl) dX7_choose_37 ?_ ?_
    · intro cc; have H := H.1 cc
      refine sb_iinc (pc' := 49) rfl rfl (L' := [some (.ref (ad 75)), some (vi x1), some (vi x2), some (vi (x3 + 1))]) rfl (by decide) dX7_choose_46 ?_
      refine sb_goto (tgt := 15) (by decide) dX7_choose_49 ?_
      obtain ⟨o3, H⟩ := H
      exact (H hx1 hx2 o3 hS)
    · intro cc; have H := H.2 cc
      refine sb_aload_n (pc' := 41) rfl rfl dX7_choose_40 ?_
      refine sb_iload_n (pc' := 42) rfl rfl dX7_choose_41 ?_
      refine sb_iload_n (pc' := 43) rfl rfl dX7_choose_42 ?_
      obtain ⟨d4, hd4, H⟩ := H
      refine sb_callV (pc' := 46) rfl rfl (rc := rc) (rs := rs) (mc' := 0) (ms' := 0) (As := [(vi x3), (vi x2)]) (st := []) of_75 rfl rfl (Nat.le_of_ble_eq_true rfl) hd4 kX7_offer ⟨wd_944, wd_946, wd_42⟩ dX7_choose_43 (Eb.mono H ?_)
      rintro o s4 ⟨rfl, hs4, H⟩
      show Wb g ad d mX7_choose Q 46 [some (.ref (ad 75)), some (vi x1), some (vi x2), some (vi x3)] [] s4 rc rs
      refine sb_iinc (pc' := 49) rfl rfl (L' := [some (.ref (ad 75)), some (vi x1), some (vi x2), some (vi (x3 + 1))]) rfl (by decide) dX7_choose_46 ?_
      refine sb_goto (tgt := 15) (by decide) dX7_choose_49 ?_
      obtain ⟨o5, H⟩ := H
      exact (H hx1 hx2 o5 hs4)
theorem bX7_offer_0 {g : AG} {ad : Nat → Nat} {d : Nat} {Q : AO → SG → Prop} {rc rs : Nat} {σ : SG} {x1 x2 : Int}  (hx1 : iR x1) (hx2 : iR x2) (hS : SR σ) (H : Cl g ad d mX7_score 0 0 [(.ref (ad 75)), (vi x1)] σ (Ki fun r1 s1 => (0 ≤ x1 ∧ x1 < 7913) ∧ ((x2 ≤ (sc s1 75 11) → (0 ≤ x2 - 1 ∧ x2 - 1 < 40) ∧ (((lCmp (lOr (lShl r1 32) (ia s1 77 x1)) (la s1 82 (x2 - 1))) < 0 → iR ((sc s1 75 11) - 1) ∧ (iR x1 → iR x2 → lR (lOr (lShl r1 32) (ia s1 77 x1)) → iR ((sc s1 75 11) - 1) → SR s1 → Wb g ad d mX7_offer Q 61 [some (.ref (ad 75)), some (vi x1), some (vi x2), some (vl (lOr (lShl r1 32) (ia s1 77 x1))), none, some (vi ((sc s1 75 11) - 1))] [] s1 rc rs)) ∧ (¬ (lCmp (lOr (lShl r1 32) (ia s1 77 x1)) (la s1 82 (x2 - 1))) < 0 → (SR s1 → Q (.inl none) s1)))) ∧ (¬ x2 ≤ (sc s1 75 11) → iR ((sc s1 75 11) + 1) ∧ iR ((sc (setS s1 75 11 ((sc s1 75 11) + 1)) 75 11) - 1) ∧ (iR x1 → iR x2 → lR (lOr (lShl r1 32) (ia s1 77 x1)) → iR ((sc (setS s1 75 11 ((sc s1 75 11) + 1)) 75 11) - 1) → SR (setS s1 75 11 ((sc s1 75 11) + 1)) → Wb g ad d mX7_offer Q 61 [some (.ref (ad 75)), some (vi x1), some (vi x2), some (vl (lOr (lShl r1 32) (ia s1 77 x1))), none, some (vi ((sc (setS s1 75 11 ((sc s1 75 11) + 1)) 75 11) - 1))] [] (setS s1 75 11 ((sc s1 75 11) + 1)) rc rs))))) : Wb g ad d mX7_offer Q 0 [some (.ref (ad 75)), some (vi x1), some (vi x2), none, none, none] [] σ rc rs := by
  refine sb_aload_n (pc' := 1) rfl rfl dX7_offer_0 ?_
  refine sb_iload_n (pc' := 2) rfl rfl dX7_offer_1 ?_
  obtain ⟨d1, hd1, H⟩ := H
  refine sb_callV (pc' := 5) rfl rfl (rc := rc) (rs := rs) (mc' := 0) (ms' := 0) (As := [(vi x1)]) (st := []) of_75 rfl rfl (Nat.le_of_ble_eq_true rfl) hd1 kX7_score ⟨wd_935, wd_937, wd_40⟩ dX7_offer_2 (Eb.mono H ?_)
  rintro o s1 ⟨r1, rfl, hr1, hs1, H⟩
  show Wb g ad d mX7_offer Q 5 [some (.ref (ad 75)), some (vi x1), some (vi x2), none, none, none] [(vi r1)] s1 rc rs
  refine sb_i2l (pc' := 6) rfl hr1 dX7_offer_5 ?_
  refine sb_bipush (pc' := 8) rfl (z := 32) (by decide) dX7_offer_6 ?_
  refine sb_lshl (pc' := 9) rfl dX7_offer_8 ?_
  refine sb_aload_n (pc' := 10) rfl rfl dX7_offer_9 ?_
  refine sb_getC (pc' := 13) rfl fc_75_4 wd_546 dX7_offer_10 ?_
  refine sb_iload_n (pc' := 14) rfl rfl dX7_offer_13 ?_
  obtain ⟨o2, H⟩ := H
  refine sb_iald (pc' := 15) rfl aI_77 o2.1 o2.2 dX7_offer_14 ?_
  refine sb_i2l (pc' := 16) rfl (SR_ia hs1 _ _) dX7_offer_15 ?_
  refine sb_lor (pc' := 17) rfl dX7_offer_16 ?_
  refine sb_lstore_n (pc' := 18) rfl (L' := [some (.ref (ad 75)), some (vi x1), some (vi x2), some (vl (lOr (lShl r1 32) (ia s1 77 x1))), none, none]) rfl (by decide) dX7_offer_17 ?_
  refine sb_aload_n (pc' := 19) rfl rfl dX7_offer_18 ?_
  refine sb_getI (pc' := 22) rfl fi_75_11 wd_555 dX7_offer_19 ?_
  refine sb_iload_n (pc' := 23) rfl rfl dX7_offer_22 ?_
  refine sb_icmp_ge (pc' := 26) (tgt := 39) rfl (by decide) (SR_sc hs1 _ _) hx2 dX7_offer_23 ?_ ?_
  · intro cc; have H := H.1 cc
    refine sb_lload_n (pc' := 40) rfl rfl dX7_offer_39 ?_
    refine sb_aload_n (pc' := 41) rfl rfl dX7_offer_40 ?_
    refine sb_getC (pc' := 44) rfl fc_75_9 wd_553 dX7_offer_41 ?_
    refine sb_iload_n (pc' := 45) rfl rfl dX7_offer_44 ?_
    refine sb_iconst (pc' := 46) rfl dX7_offer_45 ?_
    refine sb_isub (pc' := 47) rfl dX7_offer_46 ?_
    obtain ⟨o3, H⟩ := H
    refine sb_lald (pc' := 48) rfl aL_82 o3.1 o3.2 dX7_offer_47 ?_
    refine sb_lcmp (pc' := 49) rfl dX7_offer_48 ?_
    refine sb_if_lt (pc' := 52) (tgt := 53) rfl (by decide) (iR_b _) dX7_offer_49 ?_ ?_
    · intro cc; have H := H.1 cc
      refine sb_aload_n (pc' := 54) rfl rfl dX7_offer_53 ?_
      refine sb_getI (pc' := 57) rfl fi_75_11 wd_555 dX7_offer_54 ?_
      refine sb_iconst (pc' := 58) rfl dX7_offer_57 ?_
      refine sb_isub (pc' := 59) rfl dX7_offer_58 ?_
      refine sb_istore (pc' := 61) rfl (L' := [some (.ref (ad 75)), some (vi x1), some (vi x2), some (vl (lOr (lShl r1 32) (ia s1 77 x1))), none, some (vi ((sc s1 75 11) - 1))]) rfl (by decide) dX7_offer_59 ?_
      obtain ⟨o4, H⟩ := H
      exact (H hx1 hx2 (lR_b _) o4 hs1)
    · intro cc; have H := H.2 cc
      exact sb_vret rfl dX7_offer_52 (H hs1)
  · intro cc; have H := H.2 cc
    refine sb_aload_n (pc' := 27) rfl rfl dX7_offer_26 ?_
    refine sb_dup (pc' := 28) rfl rfl dX7_offer_27 ?_
    refine sb_getI (pc' := 31) rfl fi_75_11 wd_555 dX7_offer_28 ?_
    refine sb_iconst (pc' := 32) rfl dX7_offer_31 ?_
    refine sb_iadd (pc' := 33) rfl dX7_offer_32 ?_
    obtain ⟨o5, H⟩ := H
    refine sb_putI (pc' := 36) rfl fi_75_11 (Or.inl rfl) wd_555 dX7_offer_33 ?_
    refine sb_goto (tgt := 53) (by decide) dX7_offer_36 ?_
    refine sb_aload_n (pc' := 54) rfl rfl dX7_offer_53 ?_
    refine sb_getI (pc' := 57) rfl fi_75_11 wd_555 dX7_offer_54 ?_
    refine sb_iconst (pc' := 58) rfl dX7_offer_57 ?_
    refine sb_isub (pc' := 59) rfl dX7_offer_58 ?_
    refine sb_istore (pc' := 61) rfl (L' := [some (.ref (ad 75)), some (vi x1), some (vi x2), some (vl (lOr (lShl r1 32) (ia s1 77 x1))), none, some (vi ((sc (setS s1 75 11 ((sc s1 75 11) + 1)) 75 11) - 1))]) rfl (by decide) dX7_offer_59 ?_
    obtain ⟨o6, H⟩ := H
    exact (H hx1 hx2 (lR_b _) o6 (SR_setS hs1 o5))
theorem bX7_offer_61 {g : AG} {ad : Nat → Nat} {d : Nat} {Q : AO → SG → Prop} {rc rs : Nat} {σ : SG} {x1 x2 x3 x5 : Int}  (hx1 : iR x1) (hx2 : iR x2) (hx3 : lR x3) (hx5 : iR x5) (hS : SR σ) (H : ((x5 ≤ 0 → (0 ≤ x5 ∧ x5 < 40) ∧ (SR (setI (setL σ 82 x5 x3) 83 x5 x1) → Q (.inl none) (setI (setL σ 82 x5 x3) 83 x5 x1))) ∧ (¬ x5 ≤ 0 → (0 ≤ x5 - 1 ∧ x5 - 1 < 40) ∧ (((lCmp (la σ 82 (x5 - 1)) x3) ≤ 0 → (0 ≤ x5 ∧ x5 < 40) ∧ (SR (setI (setL σ 82 x5 x3) 83 x5 x1) → Q (.inl none) (setI (setL σ 82 x5 x3) 83 x5 x1))) ∧ (¬ (lCmp (la σ 82 (x5 - 1)) x3) ≤ 0 → (0 ≤ x5 ∧ x5 < 40) ∧ iR (x5 + (-1)) ∧ (iR x1 → iR x2 → lR x3 → iR (x5 + (-1)) → SR (setI (setL σ 82 x5 (la σ 82 (x5 - 1))) 83 x5 (ia (setL σ 82 x5 (la σ 82 (x5 - 1))) 83 (x5 - 1))) → Wb g ad d mX7_offer Q 61 [some (.ref (ad 75)), some (vi x1), some (vi x2), some (vl x3), none, some (vi (x5 + (-1)))] [] (setI (setL σ 82 x5 (la σ 82 (x5 - 1))) 83 x5 (ia (setL σ 82 x5 (la σ 82 (x5 - 1))) 83 (x5 - 1))) rc rs)))))) : Wb g ad d mX7_offer Q 61 [some (.ref (ad 75)), some (vi x1), some (vi x2), some (vl x3), none, some (vi x5)] [] σ rc rs := by
  refine sb_iload (pc' := 63) rfl rfl dX7_offer_61 ?_
  refine sb_if_le (pc' := 66) (tgt := 118) rfl (by decide) hx5 dX7_offer_63 ?_ ?_
  · intro cc; have H := H.1 cc
    refine sb_aload_n (pc' := 119) rfl rfl dX7_offer_118 ?_
    refine sb_getC (pc' := 122) rfl fc_75_9 wd_553 dX7_offer_119 ?_
    refine sb_iload (pc' := 124) rfl rfl dX7_offer_122 ?_
    refine sb_lload_n (pc' := 125) rfl rfl dX7_offer_124 ?_
    obtain ⟨o1, H⟩ := H
    refine sb_last (pc' := 126) rfl aL_82 o1.1 o1.2  dX7_offer_125 ?_
    refine sb_aload_n (pc' := 127) rfl rfl dX7_offer_126 ?_
    refine sb_getC (pc' := 130) rfl fc_75_10 wd_554 dX7_offer_127 ?_
    refine sb_iload (pc' := 132) rfl rfl dX7_offer_130 ?_
    refine sb_iload_n (pc' := 133) rfl rfl dX7_offer_132 ?_
    refine sb_iast (pc' := 134) rfl aI_83 o1.1 o1.2  dX7_offer_133 ?_
    exact sb_vret rfl dX7_offer_134 (H (SR_setI (SR_setL hS hx3) hx1))
  · intro cc; have H := H.2 cc
    refine sb_aload_n (pc' := 67) rfl rfl dX7_offer_66 ?_
    refine sb_getC (pc' := 70) rfl fc_75_9 wd_553 dX7_offer_67 ?_
    refine sb_iload (pc' := 72) rfl rfl dX7_offer_70 ?_
    refine sb_iconst (pc' := 73) rfl dX7_offer_72 ?_
    refine sb_isub (pc' := 74) rfl dX7_offer_73 ?_
    obtain ⟨o2, H⟩ := H
    refine sb_lald (pc' := 75) rfl aL_82 o2.1 o2.2 dX7_offer_74 ?_
    refine sb_lload_n (pc' := 76) rfl rfl dX7_offer_75 ?_
    refine sb_lcmp (pc' := 77) rfl dX7_offer_76 ?_
    refine sb_if_le (pc' := 80) (tgt := 118) rfl (by decide) (iR_b _) dX7_offer_77 ?_ ?_
    · intro cc; have H := H.1 cc
      refine sb_aload_n (pc' := 119) rfl rfl dX7_offer_118 ?_
      refine sb_getC (pc' := 122) rfl fc_75_9 wd_553 dX7_offer_119 ?_
      refine sb_iload (pc' := 124) rfl rfl dX7_offer_122 ?_
      refine sb_lload_n (pc' := 125) rfl rfl dX7_offer_124 ?_
      obtain ⟨o3, H⟩ := H
      refine sb_last (pc' := 126) rfl aL_82 o3.1 o3.2  dX7_offer_125 ?_
      refine sb_aload_n (pc' := 127) rfl rfl dX7_offer_126 ?_
      refine sb_getC (pc' := 130) rfl fc_75_10 wd_554 dX7_offer_127 ?_
      refine sb_iload (pc' := 132) rfl rfl dX7_offer_130 ?_
      refine sb_iload_n (pc' := 133) rfl rfl dX7_offer_132 ?_
      refine sb_iast (pc' := 134) rfl aI_83 o3.1 o3.2  dX7_offer_133 ?_
      exact sb_vret rfl dX7_offer_134 (H (SR_setI (SR_setL hS hx3) hx1))
    · intro cc; have H := H.2 cc
      refine sb_aload_n (pc' := 81) rfl rfl dX7_offer_80 ?_
      refine sb_getC (pc' := 84) rfl fc_75_9 wd_553 dX7_offer_81 ?_
      refine sb_iload (pc' := 86) rfl rfl dX7_offer_84 ?_
      refine sb_aload_n (pc' := 87) rfl rfl dX7_offer_86 ?_
      refine sb_getC (pc' := 90) rfl fc_75_9 wd_553 dX7_offer_87 ?_
      refine sb_iload (pc' := 92) rfl rfl dX7_offer_90 ?_
      refine sb_iconst (pc' := 93) rfl dX7_offer_92 ?_
      refine sb_isub (pc' := 94) rfl dX7_offer_93 ?_
      refine sb_lald (pc' := 95) rfl aL_82 o2.1 o2.2 dX7_offer_94 ?_
      obtain ⟨o4, H⟩ := H
      refine sb_last (pc' := 96) rfl aL_82 o4.1 o4.2  dX7_offer_95 ?_
      refine sb_aload_n (pc' := 97) rfl rfl dX7_offer_96 ?_
      refine sb_getC (pc' := 100) rfl fc_75_10 wd_554 dX7_offer_97 ?_
      refine sb_iload (pc' := 102) rfl rfl dX7_offer_100 ?_
      refine sb_aload_n (pc' := 103) rfl rfl dX7_offer_102 ?_
      refine sb_getC (pc' := 106) rfl fc_75_10 wd_554 dX7_offer_103 ?_
      refine sb_iload (pc' := 108) rfl rfl dX7_offer_106 ?_
      refine sb_iconst (pc' := 109) rfl dX7_offer_108 ?_
      refine sb_isub (pc' := 110) rfl dX7_offer_109 ?_
      refine sb_iald (pc' := 111) rfl aI_83 o2.1 o2.2 dX7_offer_110 ?_
      refine sb_iast (pc' := 112) rfl aI_83 o4.1 o4.2  dX7_offer_111 ?_
      refine sb_iinc (pc' := 115) rfl rfl (L' := [some (.ref (ad 75)), some (vi x1), some (vi x2), some (vl x3), none, some (vi (x5 + (-1)))]) rfl (by decide) dX7_offer_112 ?_
      refine sb_goto (tgt := 61) (by decide) dX7_offer_115 ?_
      obtain ⟨o5, H⟩ := H
      exact (H hx1 hx2 hx3 o5 (SR_setI (SR_setL hS (SR_la hS _ _)) (SR_ia (SR_setL hS (SR_la hS _ _)) _ _)))
theorem bX7_goOn_0 {g : AG} {ad : Nat → Nat} {d : Nat} {Q : AO → SG → Prop} {rc rs : Nat} {σ : SG} {x1 x2 x3 : Int}  (hx1 : iR x1) (hx2 : iR x2) (hx3 : iR x3) (hS : SR σ) (H : Cl g ad d mX1_mask 0 0 [(.ref (ad 58)), (vi x1)] σ (Ki fun r1 s1 => Cl g ad d mX1_behind 0 0 [(.ref (ad 58)), (vi x1)] s1 (Ki fun r2 s2 => Cl g ad d mX1_last 0 0 [(.ref (ad 58)), (vi x1)] s2 (Ki fun r3 s3 => (iR x1 → iR x2 → iR x3 → iR r1 → iR r2 → iR r3 → iR 0 → SR s3 → Wb g ad d mX7_goOn Q 33 [some (.ref (ad 75)), some (vi x1), some (vi x2), some (vi x3), some (vi r1), some (vi r2), some (vi r3), some (vi 0), none, none] [] s3 rc rs))))) : Wb g ad d mX7_goOn Q 0 [some (.ref (ad 75)), some (vi x1), some (vi x2), some (vi x3), none, none, none, none, none, none] [] σ rc rs := by
  refine sb_aload_n (pc' := 1) rfl rfl dX7_goOn_0 ?_
  refine sb_getC (pc' := 4) rfl fc_75_1 wd_543 dX7_goOn_1 ?_
  refine sb_iload_n (pc' := 5) rfl rfl dX7_goOn_4 ?_
  obtain ⟨d1, hd1, H⟩ := H
  refine sb_callVN (pc' := 8) rfl rfl (rc := rc) (rs := rs) (mc' := 0) (ms' := 0) (As := [(vi x1)]) (st := []) of_58 rfl rfl (Nat.le_of_ble_eq_true rfl) hd1 kX1_mask ⟨wd_933, wd_809, wd_20⟩ dX7_goOn_5 (Eb.mono H ?_)
  rintro o s1 ⟨r1, rfl, hr1, hs1, H⟩
  show Wb g ad d mX7_goOn Q 8 [some (.ref (ad 75)), some (vi x1), some (vi x2), some (vi x3), none, none, none, none, none, none] [(vi r1)] s1 rc rs
  refine sb_istore (pc' := 10) rfl (L' := [some (.ref (ad 75)), some (vi x1), some (vi x2), some (vi x3), some (vi r1), none, none, none, none, none]) rfl (by decide) dX7_goOn_8 ?_
  refine sb_aload_n (pc' := 11) rfl rfl dX7_goOn_10 ?_
  refine sb_getC (pc' := 14) rfl fc_75_1 wd_543 dX7_goOn_11 ?_
  refine sb_iload_n (pc' := 15) rfl rfl dX7_goOn_14 ?_
  obtain ⟨d2, hd2, H⟩ := H
  refine sb_callVN (pc' := 18) rfl rfl (rc := rc) (rs := rs) (mc' := 0) (ms' := 0) (As := [(vi x1)]) (st := []) of_58 rfl rfl (Nat.le_of_ble_eq_true rfl) hd2 kX1_behind ⟨wd_952, wd_813, wd_21⟩ dX7_goOn_15 (Eb.mono H ?_)
  rintro o s2 ⟨r2, rfl, hr2, hs2, H⟩
  show Wb g ad d mX7_goOn Q 18 [some (.ref (ad 75)), some (vi x1), some (vi x2), some (vi x3), some (vi r1), none, none, none, none, none] [(vi r2)] s2 rc rs
  refine sb_istore (pc' := 20) rfl (L' := [some (.ref (ad 75)), some (vi x1), some (vi x2), some (vi x3), some (vi r1), some (vi r2), none, none, none, none]) rfl (by decide) dX7_goOn_18 ?_
  refine sb_aload_n (pc' := 21) rfl rfl dX7_goOn_20 ?_
  refine sb_getC (pc' := 24) rfl fc_75_1 wd_543 dX7_goOn_21 ?_
  refine sb_iload_n (pc' := 25) rfl rfl dX7_goOn_24 ?_
  obtain ⟨d3, hd3, H⟩ := H
  refine sb_callVN (pc' := 28) rfl rfl (rc := rc) (rs := rs) (mc' := 0) (ms' := 0) (As := [(vi x1)]) (st := []) of_58 rfl rfl (Nat.le_of_ble_eq_true rfl) hd3 kX1_last ⟨wd_953, wd_797, wd_17⟩ dX7_goOn_25 (Eb.mono H ?_)
  rintro o s3 ⟨r3, rfl, hr3, hs3, H⟩
  show Wb g ad d mX7_goOn Q 28 [some (.ref (ad 75)), some (vi x1), some (vi x2), some (vi x3), some (vi r1), some (vi r2), none, none, none, none] [(vi r3)] s3 rc rs
  refine sb_istore (pc' := 30) rfl (L' := [some (.ref (ad 75)), some (vi x1), some (vi x2), some (vi x3), some (vi r1), some (vi r2), some (vi r3), none, none, none]) rfl (by decide) dX7_goOn_28 ?_
  refine sb_iconst (pc' := 31) rfl dX7_goOn_30 ?_
  refine sb_istore (pc' := 33) rfl (L' := [some (.ref (ad 75)), some (vi x1), some (vi x2), some (vi x3), some (vi r1), some (vi r2), some (vi r3), some (vi 0), none, none]) rfl (by decide) dX7_goOn_31 ?_
  exact (H hx1 hx2 hx3 hr1 hr2 hr3 (iR_lit rfl) hs3)
theorem bX7_goOn_33 {g : AG} {ad : Nat → Nat} {d : Nat} {Q : AO → SG → Prop} {rc rs : Nat} {σ : SG} {x1 x2 x3 x4 x5 x6 x7 : Int}  (hx1 : iR x1) (hx2 : iR x2) (hx3 : iR x3) (hx4 : iR x4) (hx5 : iR x5) (hx6 : iR x6) (hx7 : iR x7) (hS : SR σ) (H : (((sc σ 48 9) ≤ x7 → (SR σ → Q (.inl none) σ)) ∧ (¬ (sc σ 48 9) ≤ x7 → Cl g ad d mX5_gap 0 0 [(.ref (ad 48)), (vi x7), (vi x5)] σ (Ki fun r1 s1 => (0 ≤ x7 ∧ x7 < 186) ∧ ((¬ (bAnd x4 (ia s1 51 x7)) = 0 → iR (x7 + 1) ∧ (iR x1 → iR x2 → iR x3 → iR x4 → iR x5 → iR x6 → iR (x7 + 1) → SR s1 → Wb g ad d mX7_goOn Q 33 [some (.ref (ad 75)), some (vi x1), some (vi x2), some (vi x3), some (vi x4), some (vi x5), some (vi x6), some (vi (x7 + 1)), none, none] [] s1 rc rs)) ∧ ((bAnd x4 (ia s1 51 x7)) = 0 → ((r1 ≤ x3 → Cl g ad d mX1_follow 0 0 [(.ref (ad 58)), (vi x4), (vi x6), (vi x7)] s1 (Ki fun r4 s4 => ((r4 < 0 → iR (x7 + 1) ∧ (iR x1 → iR x2 → iR x3 → iR x4 → iR x5 → iR x6 → iR (x7 + 1) → SR s4 → Wb g ad d mX7_goOn Q 33 [some (.ref (ad 75)), some (vi x1), some (vi x2), some (vi x3), some (vi x4), some (vi x5), some (vi x6), some (vi (x7 + 1)), none, none] [] s4 rc rs)) ∧ (¬ r4 < 0 → iR ((sc s4 75 12) + 1) ∧ (0 ≤ x1 ∧ x1 < 7913) ∧ Cl g ad d mX5_standing 0 0 [(.ref (ad 48)), (vi x7), (vi x6)] (setS s4 75 12 ((sc s4 75 12) + 1)) (Ki fun r8 s8 => Cl g ad d mX7_lay 0 0 [(.ref (ad 75)), (vi r4), (vi (((ia (setS s4 75 12 ((sc s4 75 12) + 1)) 76 x1) + r8) + (x2 * r1))), (vi x1), (vi x7)] s8 (Kv fun s9 => iR (x7 + 1) ∧ (iR x1 → iR x2 → iR x3 → iR x4 → iR x5 → iR x6 → iR (x7 + 1) → SR s9 → Wb g ad d mX7_goOn Q 33 [some (.ref (ad 75)), some (vi x1), some (vi x2), some (vi x3), some (vi x4), some (vi x5), some (vi x6), some (vi (x7 + 1)), none, none] [] s9 rc rs))))))) ∧ (¬ r1 ≤ x3 → iR (x7 + 1) ∧ (iR x1 → iR x2 → iR x3 → iR x4 → iR x5 → iR x6 → iR (x7 + 1) → SR s1 → Wb g ad d mX7_goOn Q 33 [some (.ref (ad 75)), some (vi x1), some (vi x2), some (vi x3), some (vi x4), some (vi x5), some (vi x6), some (vi (x7 + 1)), none, none] [] s1 rc rs))))))))) : Wb g ad d mX7_goOn Q 33 [some (.ref (ad 75)), some (vi x1), some (vi x2), some (vi x3), some (vi x4), some (vi x5), some (vi x6), some (vi x7), none, none] [] σ rc rs := by
  refine sb_iload (pc' := 35) rfl rfl dX7_goOn_33 ?_
  refine sb_aload_n (pc' := 36) rfl rfl dX7_goOn_35 ?_
  refine sb_getC (pc' := 39) rfl fc_75_0 wd_542 dX7_goOn_36 ?_
  refine sb_getIN (pc' := 42) rfl fi_48_9 wd_391 dX7_goOn_39 ?_
  refine sb_icmp_ge (pc' := 45) (tgt := 151) rfl (by decide) hx7 (SR_sc hS _ _) dX7_goOn_42 ?_ ?_
  · intro cc; have H := H.1 cc
    exact sb_vret rfl dX7_goOn_151 (H hS)
  · intro cc; have H := H.2 cc
    refine sb_aload_n (pc' := 46) rfl rfl dX7_goOn_45 ?_
    refine sb_getC (pc' := 49) rfl fc_75_0 wd_542 dX7_goOn_46 ?_
    refine sb_iload (pc' := 51) rfl rfl dX7_goOn_49 ?_
    refine sb_iload (pc' := 53) rfl rfl dX7_goOn_51 ?_
    obtain ⟨d1, hd1, H⟩ := H
    refine sb_callVN (pc' := 56) rfl rfl (rc := rc) (rs := rs) (mc' := 0) (ms' := 0) (As := [(vi x7), (vi x5)]) (st := []) of_48 rfl rfl (Nat.le_of_ble_eq_true rfl) hd1 kX5_gap ⟨wd_954, wd_818, wd_22⟩ dX7_goOn_53 (Eb.mono H ?_)
    rintro o s1 ⟨r1, rfl, hr1, hs1, H⟩
    show Wb g ad d mX7_goOn Q 56 [some (.ref (ad 75)), some (vi x1), some (vi x2), some (vi x3), some (vi x4), some (vi x5), some (vi x6), some (vi x7), none, none] [(vi r1)] s1 rc rs
    refine sb_istore (pc' := 58) rfl (L' := [some (.ref (ad 75)), some (vi x1), some (vi x2), some (vi x3), some (vi x4), some (vi x5), some (vi x6), some (vi x7), some (vi r1), none]) rfl (by decide) dX7_goOn_56 ?_
    refine sb_iload (pc' := 60) rfl rfl dX7_goOn_58 ?_
    refine sb_aload_n (pc' := 61) rfl rfl dX7_goOn_60 ?_
    refine sb_getC (pc' := 64) rfl fc_75_0 wd_542 dX7_goOn_61 ?_
    refine sb_getCN (pc' := 67) rfl fc_48_2 wd_371 dX7_goOn_64 ?_
    refine sb_iload (pc' := 69) rfl rfl dX7_goOn_67 ?_
    obtain ⟨o2, H⟩ := H
    refine sb_iald (pc' := 70) rfl aI_51 o2.1 o2.2 dX7_goOn_69 ?_
    refine sb_iand (pc' := 71) rfl dX7_goOn_70 ?_
    refine sb_if_ne (pc' := 74) (tgt := 145) rfl (by decide) (iR_b _) dX7_goOn_71 ?_ ?_
    · intro cc; have H := H.1 cc
      refine sb_iinc (pc' := 148) rfl rfl (L' := [some (.ref (ad 75)), some (vi x1), some (vi x2), some (vi x3), some (vi x4), some (vi x5), some (vi x6), some (vi (x7 + 1)), some (vi r1), none]) rfl (by decide) dX7_goOn_145 ?_
      refine sb_goto (tgt := 33) (by decide) dX7_goOn_148 ?_
      obtain ⟨o3, H⟩ := H
      refine Wb.forget [true, true, true, true, true, true, true, true, false, false] ?_
      exact (H hx1 hx2 hx3 hx4 hx5 hx6 o3 hs1)
    · intro cc; have H := H.2 cc
      refine sb_iload (pc' := 76) rfl rfl dX7_goOn_74 ?_
      refine sb_iload_n (pc' := 77) rfl rfl dX7_goOn_76 ?_
      refine sb_icmp_le (pc' := 80) (tgt := 83) rfl (by decide) hr1 hx3 dX7_goOn_77 ?_ ?_
      · intro cc; have H := H.1 cc
        refine sb_aload_n (pc' := 84) rfl rfl dX7_goOn_83 ?_
        refine sb_getC (pc' := 87) rfl fc_75_1 wd_543 dX7_goOn_84 ?_
        refine sb_iload (pc' := 89) rfl rfl dX7_goOn_87 ?_
        refine sb_iload (pc' := 91) rfl rfl dX7_goOn_89 ?_
        refine sb_iload (pc' := 93) rfl rfl dX7_goOn_91 ?_
        obtain ⟨d4, hd4, H⟩ := H
        refine sb_callVN (pc' := 96) rfl rfl (rc := rc) (rs := rs) (mc' := 0) (ms' := 0) (As := [(vi x4), (vi x6), (vi x7)]) (st := []) of_58 rfl rfl (Nat.le_of_ble_eq_true rfl) hd4 kX1_follow ⟨wd_955, wd_825, wd_23⟩ dX7_goOn_93 (Eb.mono H ?_)
        rintro o s4 ⟨r4, rfl, hr4, hs4, H⟩
        show Wb g ad d mX7_goOn Q 96 [some (.ref (ad 75)), some (vi x1), some (vi x2), some (vi x3), some (vi x4), some (vi x5), some (vi x6), some (vi x7), some (vi r1), none] [(vi r4)] s4 rc rs
        refine sb_istore (pc' := 98) rfl (L' := [some (.ref (ad 75)), some (vi x1), some (vi x2), some (vi x3), some (vi x4), some (vi x5), some (vi x6), some (vi x7), some (vi r1), some (vi r4)]) rfl (by decide) dX7_goOn_96 ?_
        refine sb_iload (pc' := 100) rfl rfl dX7_goOn_98 ?_
        refine sb_if_lt (pc' := 103) (tgt := 145) rfl (by decide) hr4 dX7_goOn_100 ?_ ?_
        · intro cc; have H := H.1 cc
          refine sb_iinc (pc' := 148) rfl rfl (L' := [some (.ref (ad 75)), some (vi x1), some (vi x2), some (vi x3), some (vi x4), some (vi x5), some (vi x6), some (vi (x7 + 1)), some (vi r1), some (vi r4)]) rfl (by decide) dX7_goOn_145 ?_
          refine sb_goto (tgt := 33) (by decide) dX7_goOn_148 ?_
          obtain ⟨o5, H⟩ := H
          refine Wb.forget [true, true, true, true, true, true, true, true, false, false] ?_
          exact (H hx1 hx2 hx3 hx4 hx5 hx6 o5 hs4)
        · intro cc; have H := H.2 cc
          refine sb_aload_n (pc' := 104) rfl rfl dX7_goOn_103 ?_
          refine sb_dup (pc' := 105) rfl rfl dX7_goOn_104 ?_
          refine sb_getI (pc' := 108) rfl fi_75_12 wd_556 dX7_goOn_105 ?_
          refine sb_iconst (pc' := 109) rfl dX7_goOn_108 ?_
          refine sb_iadd (pc' := 110) rfl dX7_goOn_109 ?_
          obtain ⟨o6, H⟩ := H
          refine sb_putI (pc' := 113) rfl fi_75_12 (Or.inl rfl) wd_556 dX7_goOn_110 ?_
          refine sb_aload_n (pc' := 114) rfl rfl dX7_goOn_113 ?_
          refine sb_iload (pc' := 116) rfl rfl dX7_goOn_114 ?_
          refine sb_aload_n (pc' := 117) rfl rfl dX7_goOn_116 ?_
          refine sb_getC (pc' := 120) rfl fc_75_3 wd_545 dX7_goOn_117 ?_
          refine sb_iload_n (pc' := 121) rfl rfl dX7_goOn_120 ?_
          obtain ⟨o7, H⟩ := H
          refine sb_iald (pc' := 122) rfl aI_76 o7.1 o7.2 dX7_goOn_121 ?_
          refine sb_aload_n (pc' := 123) rfl rfl dX7_goOn_122 ?_
          refine sb_getC (pc' := 126) rfl fc_75_0 wd_542 dX7_goOn_123 ?_
          refine sb_iload (pc' := 128) rfl rfl dX7_goOn_126 ?_
          refine sb_iload (pc' := 130) rfl rfl dX7_goOn_128 ?_
          obtain ⟨d8, hd8, H⟩ := H
          refine sb_callVN (pc' := 133) rfl rfl (rc := rc) (rs := rs) (mc' := 0) (ms' := 0) (As := [(vi x7), (vi x6)]) (st := [(vi (ia (setS s4 75 12 ((sc s4 75 12) + 1)) 76 x1)), (vi r4), (.ref (ad 75))]) of_48 rfl rfl (Nat.le_of_ble_eq_true rfl) hd8 kX5_standing ⟨wd_956, wd_829, wd_24⟩ dX7_goOn_130 (Eb.mono H ?_)
          rintro o s8 ⟨r8, rfl, hr8, hs8, H⟩
          show Wb g ad d mX7_goOn Q 133 [some (.ref (ad 75)), some (vi x1), some (vi x2), some (vi x3), some (vi x4), some (vi x5), some (vi x6), some (vi x7), some (vi r1), some (vi r4)] [(vi r8), (vi (ia (setS s4 75 12 ((sc s4 75 12) + 1)) 76 x1)), (vi r4), (.ref (ad 75))] s8 rc rs
          refine sb_iadd (pc' := 134) rfl dX7_goOn_133 ?_
          refine sb_iload_n (pc' := 135) rfl rfl dX7_goOn_134 ?_
          refine sb_iload (pc' := 137) rfl rfl dX7_goOn_135 ?_
          refine sb_imul (pc' := 138) rfl dX7_goOn_137 ?_
          refine sb_iadd (pc' := 139) rfl dX7_goOn_138 ?_
          refine sb_iload_n (pc' := 140) rfl rfl dX7_goOn_139 ?_
          refine sb_iload (pc' := 142) rfl rfl dX7_goOn_140 ?_
          obtain ⟨d9, hd9, H⟩ := H
          refine sb_callV (pc' := 145) rfl rfl (rc := rc) (rs := rs) (mc' := 0) (ms' := 0) (As := [(vi r4), (vi (((ia (setS s4 75 12 ((sc s4 75 12) + 1)) 76 x1) + r8) + (x2 * r1))), (vi x1), (vi x7)]) (st := []) of_75 rfl rfl (Nat.le_of_ble_eq_true rfl) hd9 kX7_lay ⟨wd_929, wd_931, wd_39⟩ dX7_goOn_142 (Eb.mono H ?_)
          rintro o s9 ⟨rfl, hs9, H⟩
          show Wb g ad d mX7_goOn Q 145 [some (.ref (ad 75)), some (vi x1), some (vi x2), some (vi x3), some (vi x4), some (vi x5), some (vi x6), some (vi x7), some (vi r1), some (vi r4)] [] s9 rc rs
          refine sb_iinc (pc' := 148) rfl rfl (L' := [some (.ref (ad 75)), some (vi x1), some (vi x2), some (vi x3), some (vi x4), some (vi x5), some (vi x6), some (vi (x7 + 1)), some (vi r1), some (vi r4)]) rfl (by decide) dX7_goOn_145 ?_
          refine sb_goto (tgt := 33) (by decide) dX7_goOn_148 ?_
          obtain ⟨o10, H⟩ := H
          refine Wb.forget [true, true, true, true, true, true, true, true, false, false] ?_
          exact (H hx1 hx2 hx3 hx4 hx5 hx6 o10 hs9)
      · intro cc; have H := H.2 cc
        refine sb_goto (tgt := 145) (by decide) dX7_goOn_80 ?_
        refine sb_iinc (pc' := 148) rfl rfl (L' := [some (.ref (ad 75)), some (vi x1), some (vi x2), some (vi x3), some (vi x4), some (vi x5), some (vi x6), some (vi (x7 + 1)), some (vi r1), none]) rfl (by decide) dX7_goOn_145 ?_
        refine sb_goto (tgt := 33) (by decide) dX7_goOn_148 ?_
        obtain ⟨o11, H⟩ := H
        refine Wb.forget [true, true, true, true, true, true, true, true, false, false] ?_
        exact (H hx1 hx2 hx3 hx4 hx5 hx6 o11 hs1)
theorem bX7_find_0 {g : AG} {ad : Nat → Nat} {d : Nat} {Q : AO → SG → Prop} {rc rs : Nat} {σ : SG}    (hS : SR σ) (H : (0 ≤ sc (setS σ 75 15 ((-1))) 48 10 ∧ sc (setS σ 75 15 ((-1))) 48 10 < 8) ∧ (iR ((-1)) → iR (ia (setS σ 75 15 ((-1))) 62 (sc (setS σ 75 15 ((-1))) 48 10)) → SR (setS σ 75 15 ((-1))) → Wb g ad d mX7_find Q 23 [some (.ref (ad 75)), some (vi ((-1))), some (vi (ia (setS σ 75 15 ((-1))) 62 (sc (setS σ 75 15 ((-1))) 48 10))), none] [] (setS σ 75 15 ((-1))) rc rs)) : Wb g ad d mX7_find Q 0 [some (.ref (ad 75)), none, none, none] [] σ rc rs := by
  refine sb_iconst (pc' := 1) rfl dX7_find_0 ?_
  refine sb_istore_n (pc' := 2) rfl (L' := [some (.ref (ad 75)), some (vi ((-1))), none, none]) rfl (by decide) dX7_find_1 ?_
  refine sb_aload_n (pc' := 3) rfl rfl dX7_find_2 ?_
  refine sb_iconst (pc' := 4) rfl dX7_find_3 ?_
  refine sb_putI (pc' := 7) rfl fi_75_15 (Or.inl rfl) wd_562 dX7_find_4 ?_
  refine sb_aload_n (pc' := 8) rfl rfl dX7_find_7 ?_
  refine sb_getC (pc' := 11) rfl fc_75_1 wd_543 dX7_find_8 ?_
  refine sb_getCN (pc' := 14) rfl fc_58_4 wd_436 dX7_find_11 ?_
  refine sb_aload_n (pc' := 15) rfl rfl dX7_find_14 ?_
  refine sb_getC (pc' := 18) rfl fc_75_0 wd_542 dX7_find_15 ?_
  refine sb_getIN (pc' := 21) rfl fi_48_10 wd_395 dX7_find_18 ?_
  obtain ⟨o1, H⟩ := H
  refine sb_iald (pc' := 22) rfl aI_62 o1.1 o1.2 dX7_find_21 ?_
  refine sb_istore_n (pc' := 23) rfl (L' := [some (.ref (ad 75)), some (vi ((-1))), some (vi (ia (setS σ 75 15 ((-1))) 62 (sc (setS σ 75 15 ((-1))) 48 10))), none]) rfl (by decide) dX7_find_22 ?_
  exact (H (iR_lit rfl) (SR_ia (SR_setS hS (iR_lit rfl)) _ _) (SR_setS hS (iR_lit rfl)))
theorem bX7_find_23 {g : AG} {ad : Nat → Nat} {d : Nat} {Q : AO → SG → Prop} {rc rs : Nat} {σ : SG} {x1 x2 : Int}  (hx1 : iR x1) (hx2 : iR x2) (hS : SR σ) (H : (((sc σ 58 5) ≤ x2 → Cl g ad d mX7_tracePath 0 0 [(.ref (ad 75)), (vi x1)] σ (Kv fun s1 => (SR s1 → Q (.inl none) s1))) ∧ (¬ (sc σ 58 5) ≤ x2 → (0 ≤ x2 ∧ x2 < 7913) ∧ ((¬ (ia σ 77 x2) = ((-1)) → Cl g ad d mX1_last 0 0 [(.ref (ad 58)), (vi x2)] σ (Ki fun r3 s3 => Cl g ad d mX5_ending 0 0 [(.ref (ad 48)), (vi r3)] s3 (Ki fun r4 s4 => ((x1 = ((-1)) → iR ((ia σ 76 x2) + r4) ∧ iR (x2 + 1) ∧ (iR x2 → iR (x2 + 1) → SR (setS s4 75 15 ((ia σ 76 x2) + r4)) → Wb g ad d mX7_find Q 23 [some (.ref (ad 75)), some (vi x2), some (vi (x2 + 1)), none] [] (setS s4 75 15 ((ia σ 76 x2) + r4)) rc rs)) ∧ (¬ x1 = ((-1)) → iR ((ia σ 76 x2) + r4) ∧ ((((ia σ 76 x2) + r4) < (sc s4 75 15) → iR (x2 + 1) ∧ (iR x2 → iR (x2 + 1) → SR (setS s4 75 15 ((ia σ 76 x2) + r4)) → Wb g ad d mX7_find Q 23 [some (.ref (ad 75)), some (vi x2), some (vi (x2 + 1)), none] [] (setS s4 75 15 ((ia σ 76 x2) + r4)) rc rs)) ∧ (¬ ((ia σ 76 x2) + r4) < (sc s4 75 15) → ((¬ ((ia σ 76 x2) + r4) = (sc s4 75 15) → iR (x2 + 1) ∧ (iR x1 → iR (x2 + 1) → SR s4 → Wb g ad d mX7_find Q 23 [some (.ref (ad 75)), some (vi x1), some (vi (x2 + 1)), none] [] s4 rc rs)) ∧ (((ia σ 76 x2) + r4) = (sc s4 75 15) → (0 ≤ x1 ∧ x1 < 7913) ∧ (((ia s4 77 x1) ≤ (ia s4 77 x2) → iR (x2 + 1) ∧ (iR x1 → iR (x2 + 1) → SR s4 → Wb g ad d mX7_find Q 23 [some (.ref (ad 75)), some (vi x1), some (vi (x2 + 1)), none] [] s4 rc rs)) ∧ (¬ (ia s4 77 x1) ≤ (ia s4 77 x2) → iR (x2 + 1) ∧ (iR x2 → iR (x2 + 1) → SR (setS s4 75 15 ((ia σ 76 x2) + r4)) → Wb g ad d mX7_find Q 23 [some (.ref (ad 75)), some (vi x2), some (vi (x2 + 1)), none] [] (setS s4 75 15 ((ia σ 76 x2) + r4)) rc rs)))))))))))) ∧ ((ia σ 77 x2) = ((-1)) → iR (x2 + 1) ∧ (iR x1 → iR (x2 + 1) → SR σ → Wb g ad d mX7_find Q 23 [some (.ref (ad 75)), some (vi x1), some (vi (x2 + 1)), none] [] σ rc rs)))))) : Wb g ad d mX7_find Q 23 [some (.ref (ad 75)), some (vi x1), some (vi x2), none] [] σ rc rs := by
  refine sb_iload_n (pc' := 24) rfl rfl dX7_find_23 ?_
  refine sb_aload_n (pc' := 25) rfl rfl dX7_find_24 ?_
  refine sb_getC (pc' := 28) rfl fc_75_1 wd_543 dX7_find_25 ?_
  refine sb_getIN (pc' := 31) rfl fi_58_5 wd_437 dX7_find_28 ?_
  refine sb_icmp_ge (pc' := 34) (tgt := 119) rfl (by decide) hx2 (SR_sc hS _ _) dX7_find_31 ?_ ?_
  · intro cc; have H := H.1 cc
    refine sb_aload_n (pc' := 120) rfl rfl dX7_find_119 ?_
    refine sb_iload_n (pc' := 121) rfl rfl dX7_find_120 ?_
    obtain ⟨d1, hd1, H⟩ := H
    refine sb_callV (pc' := 124) rfl rfl (rc := rc) (rs := rs) (mc' := 0) (ms' := 0) (As := [(vi x1)]) (st := []) of_75 rfl rfl (Nat.le_of_ble_eq_true rfl) hd1 kX7_tracePath ⟨wd_962, wd_964, wd_45⟩ dX7_find_121 (Eb.mono H ?_)
    rintro o s1 ⟨rfl, hs1, H⟩
    show Wb g ad d mX7_find Q 124 [some (.ref (ad 75)), some (vi x1), some (vi x2), none] [] s1 rc rs
    exact sb_vret rfl dX7_find_124 (H hs1)
  · intro cc; have H := H.2 cc
    refine sb_aload_n (pc' := 35) rfl rfl dX7_find_34 ?_
    refine sb_getC (pc' := 38) rfl fc_75_4 wd_546 dX7_find_35 ?_
    refine sb_iload_n (pc' := 39) rfl rfl dX7_find_38 ?_
    obtain ⟨o2, H⟩ := H
    refine sb_iald (pc' := 40) rfl aI_77 o2.1 o2.2 dX7_find_39 ?_
    refine sb_iconst (pc' := 41) rfl dX7_find_40 ?_
    refine sb_icmp_ne (pc' := 44) (tgt := 47) rfl (by decide) (SR_ia hS _ _) (iR_lit rfl) dX7_find_41 ?_ ?_
    · intro cc; have H := H.1 cc
      refine sb_aload_n (pc' := 48) rfl rfl dX7_find_47 ?_
      refine sb_getC (pc' := 51) rfl fc_75_3 wd_545 dX7_find_48 ?_
      refine sb_iload_n (pc' := 52) rfl rfl dX7_find_51 ?_
      refine sb_iald (pc' := 53) rfl aI_76 o2.1 o2.2 dX7_find_52 ?_
      refine sb_aload_n (pc' := 54) rfl rfl dX7_find_53 ?_
      refine sb_getC (pc' := 57) rfl fc_75_0 wd_542 dX7_find_54 ?_
      refine sb_aload_n (pc' := 58) rfl rfl dX7_find_57 ?_
      refine sb_getC (pc' := 61) rfl fc_75_1 wd_543 dX7_find_58 ?_
      refine sb_iload_n (pc' := 62) rfl rfl dX7_find_61 ?_
      obtain ⟨d3, hd3, H⟩ := H
      refine sb_callVN (pc' := 65) rfl rfl (rc := rc) (rs := rs) (mc' := 0) (ms' := 0) (As := [(vi x2)]) (st := [(.ref (ad 48)), (vi (ia σ 76 x2))]) of_58 rfl rfl (Nat.le_of_ble_eq_true rfl) hd3 kX1_last ⟨wd_953, wd_797, wd_17⟩ dX7_find_62 (Eb.mono H ?_)
      rintro o s3 ⟨r3, rfl, hr3, hs3, H⟩
      show Wb g ad d mX7_find Q 65 [some (.ref (ad 75)), some (vi x1), some (vi x2), none] [(vi r3), (.ref (ad 48)), (vi (ia σ 76 x2))] s3 rc rs
      obtain ⟨d4, hd4, H⟩ := H
      refine sb_callVN (pc' := 68) rfl rfl (rc := rc) (rs := rs) (mc' := 0) (ms' := 0) (As := [(vi r3)]) (st := [(vi (ia σ 76 x2))]) of_48 rfl rfl (Nat.le_of_ble_eq_true rfl) hd4 kX5_ending ⟨wd_961, wd_801, wd_18⟩ dX7_find_65 (Eb.mono H ?_)
      rintro o s4 ⟨r4, rfl, hr4, hs4, H⟩
      show Wb g ad d mX7_find Q 68 [some (.ref (ad 75)), some (vi x1), some (vi x2), none] [(vi r4), (vi (ia σ 76 x2))] s4 rc rs
      refine sb_iadd (pc' := 69) rfl dX7_find_68 ?_
      refine sb_istore_n (pc' := 70) rfl (L' := [some (.ref (ad 75)), some (vi x1), some (vi x2), some (vi ((ia σ 76 x2) + r4))]) rfl (by decide) dX7_find_69 ?_
      refine sb_iload_n (pc' := 71) rfl rfl dX7_find_70 ?_
      refine sb_iconst (pc' := 72) rfl dX7_find_71 ?_
      refine sb_icmp_eq (pc' := 75) (tgt := 106) rfl (by decide) hx1 (iR_lit rfl) dX7_find_72 ?_ ?_
      · intro cc; have H := H.1 cc
        refine sb_iload_n (pc' := 107) rfl rfl dX7_find_106 ?_
        refine sb_istore_n (pc' := 108) rfl (L' := [some (.ref (ad 75)), some (vi x2), some (vi x2), some (vi ((ia σ 76 x2) + r4))]) rfl (by decide) dX7_find_107 ?_
        refine sb_aload_n (pc' := 109) rfl rfl dX7_find_108 ?_
        refine sb_iload_n (pc' := 110) rfl rfl dX7_find_109 ?_
        obtain ⟨o5, H⟩ := H
        refine sb_putI (pc' := 113) rfl fi_75_15 (Or.inl rfl) wd_562 dX7_find_110 ?_
        refine sb_iinc (pc' := 116) rfl rfl (L' := [some (.ref (ad 75)), some (vi x2), some (vi (x2 + 1)), some (vi ((ia σ 76 x2) + r4))]) rfl (by decide) dX7_find_113 ?_
        refine sb_goto (tgt := 23) (by decide) dX7_find_116 ?_
        obtain ⟨o6, H⟩ := H
        refine Wb.forget [true, true, true, false] ?_
        exact (H hx2 o6 (SR_setS hs4 o5))
      · intro cc; have H := H.2 cc
        refine sb_iload_n (pc' := 76) rfl rfl dX7_find_75 ?_
        refine sb_aload_n (pc' := 77) rfl rfl dX7_find_76 ?_
        refine sb_getI (pc' := 80) rfl fi_75_15 wd_562 dX7_find_77 ?_
        obtain ⟨o7, H⟩ := H
        refine sb_icmp_lt (pc' := 83) (tgt := 106) rfl (by decide) o7 (SR_sc hs4 _ _) dX7_find_80 ?_ ?_
        · intro cc; have H := H.1 cc
          refine sb_iload_n (pc' := 107) rfl rfl dX7_find_106 ?_
          refine sb_istore_n (pc' := 108) rfl (L' := [some (.ref (ad 75)), some (vi x2), some (vi x2), some (vi ((ia σ 76 x2) + r4))]) rfl (by decide) dX7_find_107 ?_
          refine sb_aload_n (pc' := 109) rfl rfl dX7_find_108 ?_
          refine sb_iload_n (pc' := 110) rfl rfl dX7_find_109 ?_
          refine sb_putI (pc' := 113) rfl fi_75_15 (Or.inl rfl) wd_562 dX7_find_110 ?_
          refine sb_iinc (pc' := 116) rfl rfl (L' := [some (.ref (ad 75)), some (vi x2), some (vi (x2 + 1)), some (vi ((ia σ 76 x2) + r4))]) rfl (by decide) dX7_find_113 ?_
          refine sb_goto (tgt := 23) (by decide) dX7_find_116 ?_
          obtain ⟨o8, H⟩ := H
          refine Wb.forget [true, true, true, false] ?_
          exact (H hx2 o8 (SR_setS hs4 o7))
        · intro cc; have H := H.2 cc
          refine sb_iload_n (pc' := 84) rfl rfl dX7_find_83 ?_
          refine sb_aload_n (pc' := 85) rfl rfl dX7_find_84 ?_
          refine sb_getI (pc' := 88) rfl fi_75_15 wd_562 dX7_find_85 ?_
          refine sb_icmp_ne (pc' := 91) (tgt := 113) rfl (by decide) o7 (SR_sc hs4 _ _) dX7_find_88 ?_ ?_
          · intro cc; have H := H.1 cc
            refine sb_iinc (pc' := 116) rfl rfl (L' := [some (.ref (ad 75)), some (vi x1), some (vi (x2 + 1)), some (vi ((ia σ 76 x2) + r4))]) rfl (by decide) dX7_find_113 ?_
            refine sb_goto (tgt := 23) (by decide) dX7_find_116 ?_
            obtain ⟨o9, H⟩ := H
            refine Wb.forget [true, true, true, false] ?_
            exact (H hx1 o9 hs4)
          · intro cc; have H := H.2 cc
            refine sb_aload_n (pc' := 92) rfl rfl dX7_find_91 ?_
            refine sb_getC (pc' := 95) rfl fc_75_4 wd_546 dX7_find_92 ?_
            refine sb_iload_n (pc' := 96) rfl rfl dX7_find_95 ?_
            refine sb_iald (pc' := 97) rfl aI_77 o2.1 o2.2 dX7_find_96 ?_
            refine sb_aload_n (pc' := 98) rfl rfl dX7_find_97 ?_
            refine sb_getC (pc' := 101) rfl fc_75_4 wd_546 dX7_find_98 ?_
            refine sb_iload_n (pc' := 102) rfl rfl dX7_find_101 ?_
            obtain ⟨o10, H⟩ := H
            refine sb_iald (pc' := 103) rfl aI_77 o10.1 o10.2 dX7_find_102 ?_
            refine sb_icmp_ge (pc' := 106) (tgt := 113) rfl (by decide) (SR_ia hs4 _ _) (SR_ia hs4 _ _) dX7_find_103 ?_ ?_
            · intro cc; have H := H.1 cc
              refine sb_iinc (pc' := 116) rfl rfl (L' := [some (.ref (ad 75)), some (vi x1), some (vi (x2 + 1)), some (vi ((ia σ 76 x2) + r4))]) rfl (by decide) dX7_find_113 ?_
              refine sb_goto (tgt := 23) (by decide) dX7_find_116 ?_
              obtain ⟨o11, H⟩ := H
              refine Wb.forget [true, true, true, false] ?_
              exact (H hx1 o11 hs4)
            · intro cc; have H := H.2 cc
              refine sb_iload_n (pc' := 107) rfl rfl dX7_find_106 ?_
              refine sb_istore_n (pc' := 108) rfl (L' := [some (.ref (ad 75)), some (vi x2), some (vi x2), some (vi ((ia σ 76 x2) + r4))]) rfl (by decide) dX7_find_107 ?_
              refine sb_aload_n (pc' := 109) rfl rfl dX7_find_108 ?_
              refine sb_iload_n (pc' := 110) rfl rfl dX7_find_109 ?_
              refine sb_putI (pc' := 113) rfl fi_75_15 (Or.inl rfl) wd_562 dX7_find_110 ?_
              refine sb_iinc (pc' := 116) rfl rfl (L' := [some (.ref (ad 75)), some (vi x2), some (vi (x2 + 1)), some (vi ((ia σ 76 x2) + r4))]) rfl (by decide) dX7_find_113 ?_
              refine sb_goto (tgt := 23) (by decide) dX7_find_116 ?_
              obtain ⟨o12, H⟩ := H
              refine Wb.forget [true, true, true, false] ?_
              exact (H hx2 o12 (SR_setS hs4 o7))
    · intro cc; have H := H.2 cc
      refine sb_goto (tgt := 113) (by decide) dX7_find_44 ?_
      refine sb_iinc (pc' := 116) rfl rfl (L' := [some (.ref (ad 75)), some (vi x1), some (vi (x2 + 1)), none]) rfl (by decide) dX7_find_113 ?_
      refine sb_goto (tgt := 23) (by decide) dX7_find_116 ?_
      obtain ⟨o13, H⟩ := H
      exact (H hx1 o13 hS)
theorem bX7_tracePath_0 {g : AG} {ad : Nat → Nat} {d : Nat} {Q : AO → SG → Prop} {rc rs : Nat} {σ : SG} {x1 : Int}  (hx1 : iR x1) (hS : SR σ) (H : (iR x1 → iR x1 → SR (setS σ 75 17 0) → Wb g ad d mX7_tracePath Q 7 [some (.ref (ad 75)), some (vi x1), some (vi x1), none] [] (setS σ 75 17 0) rc rs)) : Wb g ad d mX7_tracePath Q 0 [some (.ref (ad 75)), some (vi x1), none, none] [] σ rc rs := by
  refine sb_aload_n (pc' := 1) rfl rfl dX7_tracePath_0 ?_
  refine sb_iconst (pc' := 2) rfl dX7_tracePath_1 ?_
  refine sb_putI (pc' := 5) rfl fi_75_17 (Or.inl rfl) wd_566 dX7_tracePath_2 ?_
  refine sb_iload_n (pc' := 6) rfl rfl dX7_tracePath_5 ?_
  refine sb_istore_n (pc' := 7) rfl (L' := [some (.ref (ad 75)), some (vi x1), some (vi x1), none]) rfl (by decide) dX7_tracePath_6 ?_
  exact (H hx1 hx1 (SR_setS hS (iR_lit rfl)))
theorem bX7_tracePath_7 {g : AG} {ad : Nat → Nat} {d : Nat} {Q : AO → SG → Prop} {rc rs : Nat} {σ : SG} {x1 x2 : Int}  (hx1 : iR x1) (hx2 : iR x2) (hS : SR σ) (H : ((6 ≤ (sc σ 75 17) → iR ((sc σ 75 17) - 1) ∧ (iR x1 → iR x1 → iR ((sc σ 75 17) - 1) → SR σ → Wb g ad d mX7_tracePath Q 60 [some (.ref (ad 75)), some (vi x1), some (vi x1), some (vi ((sc σ 75 17) - 1))] [] σ rc rs)) ∧ (¬ 6 ≤ (sc σ 75 17) → ((x2 = ((-1)) → iR ((sc σ 75 17) - 1) ∧ (iR x1 → iR x1 → iR ((sc σ 75 17) - 1) → SR σ → Wb g ad d mX7_tracePath Q 60 [some (.ref (ad 75)), some (vi x1), some (vi x1), some (vi ((sc σ 75 17) - 1))] [] σ rc rs)) ∧ (¬ x2 = ((-1)) → (0 ≤ x2 ∧ x2 < 7913) ∧ (((ia σ 79 x2) = ((-1)) → iR ((sc σ 75 17) - 1) ∧ (iR x1 → iR x1 → iR ((sc σ 75 17) - 1) → SR σ → Wb g ad d mX7_tracePath Q 60 [some (.ref (ad 75)), some (vi x1), some (vi x1), some (vi ((sc σ 75 17) - 1))] [] σ rc rs)) ∧ (¬ (ia σ 79 x2) = ((-1)) → iR ((sc σ 75 17) + 1) ∧ (iR x1 → iR (ia (setS σ 75 17 ((sc σ 75 17) + 1)) 78 x2) → SR (setS σ 75 17 ((sc σ 75 17) + 1)) → Wb g ad d mX7_tracePath Q 7 [some (.ref (ad 75)), some (vi x1), some (vi (ia (setS σ 75 17 ((sc σ 75 17) + 1)) 78 x2)), none] [] (setS σ 75 17 ((sc σ 75 17) + 1)) rc rs)))))))) : Wb g ad d mX7_tracePath Q 7 [some (.ref (ad 75)), some (vi x1), some (vi x2), none] [] σ rc rs := by
  refine sb_aload_n (pc' := 8) rfl rfl dX7_tracePath_7 ?_
  refine sb_getI (pc' := 11) rfl fi_75_17 wd_566 dX7_tracePath_8 ?_
  refine sb_bipush (pc' := 13) rfl (z := 6) (by decide) dX7_tracePath_11 ?_
  refine sb_icmp_ge (pc' := 16) (tgt := 51) rfl (by decide) (SR_sc hS _ _) (iR_lit rfl) dX7_tracePath_13 ?_ ?_
  · intro cc; have H := H.1 cc
    refine sb_iload_n (pc' := 52) rfl rfl dX7_tracePath_51 ?_
    refine sb_istore_n (pc' := 53) rfl (L' := [some (.ref (ad 75)), some (vi x1), some (vi x1), none]) rfl (by decide) dX7_tracePath_52 ?_
    refine sb_aload_n (pc' := 54) rfl rfl dX7_tracePath_53 ?_
    refine sb_getI (pc' := 57) rfl fi_75_17 wd_566 dX7_tracePath_54 ?_
    refine sb_iconst (pc' := 58) rfl dX7_tracePath_57 ?_
    refine sb_isub (pc' := 59) rfl dX7_tracePath_58 ?_
    refine sb_istore_n (pc' := 60) rfl (L' := [some (.ref (ad 75)), some (vi x1), some (vi x1), some (vi ((sc σ 75 17) - 1))]) rfl (by decide) dX7_tracePath_59 ?_
    obtain ⟨o1, H⟩ := H
    exact (H hx1 hx1 o1 hS)
  · intro cc; have H := H.2 cc
    refine sb_iload_n (pc' := 17) rfl rfl dX7_tracePath_16 ?_
    refine sb_iconst (pc' := 18) rfl dX7_tracePath_17 ?_
    refine sb_icmp_eq (pc' := 21) (tgt := 51) rfl (by decide) hx2 (iR_lit rfl) dX7_tracePath_18 ?_ ?_
    · intro cc; have H := H.1 cc
      refine sb_iload_n (pc' := 52) rfl rfl dX7_tracePath_51 ?_
      refine sb_istore_n (pc' := 53) rfl (L' := [some (.ref (ad 75)), some (vi x1), some (vi x1), none]) rfl (by decide) dX7_tracePath_52 ?_
      refine sb_aload_n (pc' := 54) rfl rfl dX7_tracePath_53 ?_
      refine sb_getI (pc' := 57) rfl fi_75_17 wd_566 dX7_tracePath_54 ?_
      refine sb_iconst (pc' := 58) rfl dX7_tracePath_57 ?_
      refine sb_isub (pc' := 59) rfl dX7_tracePath_58 ?_
      refine sb_istore_n (pc' := 60) rfl (L' := [some (.ref (ad 75)), some (vi x1), some (vi x1), some (vi ((sc σ 75 17) - 1))]) rfl (by decide) dX7_tracePath_59 ?_
      obtain ⟨o2, H⟩ := H
      exact (H hx1 hx1 o2 hS)
    · intro cc; have H := H.2 cc
      refine sb_aload_n (pc' := 22) rfl rfl dX7_tracePath_21 ?_
      refine sb_getC (pc' := 25) rfl fc_75_6 wd_548 dX7_tracePath_22 ?_
      refine sb_iload_n (pc' := 26) rfl rfl dX7_tracePath_25 ?_
      obtain ⟨o3, H⟩ := H
      refine sb_iald (pc' := 27) rfl aI_79 o3.1 o3.2 dX7_tracePath_26 ?_
      refine sb_iconst (pc' := 28) rfl dX7_tracePath_27 ?_
      refine sb_icmp_eq (pc' := 31) (tgt := 51) rfl (by decide) (SR_ia hS _ _) (iR_lit rfl) dX7_tracePath_28 ?_ ?_
      · intro cc; have H := H.1 cc
        refine sb_iload_n (pc' := 52) rfl rfl dX7_tracePath_51 ?_
        refine sb_istore_n (pc' := 53) rfl (L' := [some (.ref (ad 75)), some (vi x1), some (vi x1), none]) rfl (by decide) dX7_tracePath_52 ?_
        refine sb_aload_n (pc' := 54) rfl rfl dX7_tracePath_53 ?_
        refine sb_getI (pc' := 57) rfl fi_75_17 wd_566 dX7_tracePath_54 ?_
        refine sb_iconst (pc' := 58) rfl dX7_tracePath_57 ?_
        refine sb_isub (pc' := 59) rfl dX7_tracePath_58 ?_
        refine sb_istore_n (pc' := 60) rfl (L' := [some (.ref (ad 75)), some (vi x1), some (vi x1), some (vi ((sc σ 75 17) - 1))]) rfl (by decide) dX7_tracePath_59 ?_
        obtain ⟨o4, H⟩ := H
        exact (H hx1 hx1 o4 hS)
      · intro cc; have H := H.2 cc
        refine sb_aload_n (pc' := 32) rfl rfl dX7_tracePath_31 ?_
        refine sb_dup (pc' := 33) rfl rfl dX7_tracePath_32 ?_
        refine sb_getI (pc' := 36) rfl fi_75_17 wd_566 dX7_tracePath_33 ?_
        refine sb_iconst (pc' := 37) rfl dX7_tracePath_36 ?_
        refine sb_iadd (pc' := 38) rfl dX7_tracePath_37 ?_
        obtain ⟨o5, H⟩ := H
        refine sb_putI (pc' := 41) rfl fi_75_17 (Or.inl rfl) wd_566 dX7_tracePath_38 ?_
        refine sb_aload_n (pc' := 42) rfl rfl dX7_tracePath_41 ?_
        refine sb_getC (pc' := 45) rfl fc_75_5 wd_547 dX7_tracePath_42 ?_
        refine sb_iload_n (pc' := 46) rfl rfl dX7_tracePath_45 ?_
        refine sb_iald (pc' := 47) rfl aI_78 o3.1 o3.2 dX7_tracePath_46 ?_
        refine sb_istore_n (pc' := 48) rfl (L' := [some (.ref (ad 75)), some (vi x1), some (vi (ia (setS σ 75 17 ((sc σ 75 17) + 1)) 78 x2)), none]) rfl (by decide) dX7_tracePath_47 ?_
        refine sb_goto (tgt := 7) (by decide) dX7_tracePath_48 ?_
        exact (H hx1 (SR_ia (SR_setS hS o5) _ _) (SR_setS hS o5))
theorem bX7_tracePath_60 {g : AG} {ad : Nat → Nat} {d : Nat} {Q : AO → SG → Prop} {rc rs : Nat} {σ : SG} {x1 x2 x3 : Int}  (hx1 : iR x1) (hx2 : iR x2) (hx3 : iR x3) (hS : SR σ) (H : ((x3 < 0 → (SR σ → Q (.inl none) σ)) ∧ (¬ x3 < 0 → (0 ≤ x2 ∧ x2 < 7913) ∧ (0 ≤ x3 ∧ x3 < 6) ∧ iR (x3 + (-1)) ∧ (iR x1 → iR (ia (setI σ 84 x3 (ia σ 79 x2)) 78 x2) → iR (x3 + (-1)) → SR (setI σ 84 x3 (ia σ 79 x2)) → Wb g ad d mX7_tracePath Q 60 [some (.ref (ad 75)), some (vi x1), some (vi (ia (setI σ 84 x3 (ia σ 79 x2)) 78 x2)), some (vi (x3 + (-1)))] [] (setI σ 84 x3 (ia σ 79 x2)) rc rs)))) : Wb g ad d mX7_tracePath Q 60 [some (.ref (ad 75)), some (vi x1), some (vi x2), some (vi x3)] [] σ rc rs := by
  refine sb_iload_n (pc' := 61) rfl rfl dX7_tracePath_60 ?_
  refine sb_if_lt (pc' := 64) (tgt := 89) rfl (by decide) hx3 dX7_tracePath_61 ?_ ?_
  · intro cc; have H := H.1 cc
    exact sb_vret rfl dX7_tracePath_89 (H hS)
  · intro cc; have H := H.2 cc
    refine sb_aload_n (pc' := 65) rfl rfl dX7_tracePath_64 ?_
    refine sb_getC (pc' := 68) rfl fc_75_16 wd_564 dX7_tracePath_65 ?_
    refine sb_iload_n (pc' := 69) rfl rfl dX7_tracePath_68 ?_
    refine sb_aload_n (pc' := 70) rfl rfl dX7_tracePath_69 ?_
    refine sb_getC (pc' := 73) rfl fc_75_6 wd_548 dX7_tracePath_70 ?_
    refine sb_iload_n (pc' := 74) rfl rfl dX7_tracePath_73 ?_
    obtain ⟨o1, H⟩ := H
    refine sb_iald (pc' := 75) rfl aI_79 o1.1 o1.2 dX7_tracePath_74 ?_
    obtain ⟨o2, H⟩ := H
    refine sb_iast (pc' := 76) rfl aI_84 o2.1 o2.2  dX7_tracePath_75 ?_
    refine sb_aload_n (pc' := 77) rfl rfl dX7_tracePath_76 ?_
    refine sb_getC (pc' := 80) rfl fc_75_5 wd_547 dX7_tracePath_77 ?_
    refine sb_iload_n (pc' := 81) rfl rfl dX7_tracePath_80 ?_
    refine sb_iald (pc' := 82) rfl aI_78 o1.1 o1.2 dX7_tracePath_81 ?_
    refine sb_istore_n (pc' := 83) rfl (L' := [some (.ref (ad 75)), some (vi x1), some (vi (ia (setI σ 84 x3 (ia σ 79 x2)) 78 x2)), some (vi x3)]) rfl (by decide) dX7_tracePath_82 ?_
    refine sb_iinc (pc' := 86) rfl rfl (L' := [some (.ref (ad 75)), some (vi x1), some (vi (ia (setI σ 84 x3 (ia σ 79 x2)) 78 x2)), some (vi (x3 + (-1)))]) rfl (by decide) dX7_tracePath_83 ?_
    refine sb_goto (tgt := 60) (by decide) dX7_tracePath_86 ?_
    obtain ⟨o3, H⟩ := H
    exact (H hx1 (SR_ia (SR_setI hS (SR_ia hS _ _)) _ _) o3 (SR_setI hS (SR_ia hS _ _)))
theorem bX8_reckon_0 {g : AG} {ad : Nat → Nat} {d : Nat} {Q : AO → SG → Prop} {rc rs : Nat} {σ : SG}    (hS : SR σ) (H : Cl g ad d mJ7_fill_53178 0 0 [(.ref (ad 73)), (vi 1000000)] σ (Kv fun s1 => (iR 0 → SR s1 → Wb g ad d mX8_reckon Q 11 [some (.ref (ad 72)), some (vi 0), none] [] s1 rc rs))) : Wb g ad d mX8_reckon Q 0 [some (.ref (ad 72)), none, none] [] σ rc rs := by
  refine sb_aload_n (pc' := 1) rfl rfl dX8_reckon_0 ?_
  refine sb_getC (pc' := 4) rfl fc_72_1 wd_525 dX8_reckon_1 ?_
  refine sb_ldc (pc' := 6) rfl (z := 1000000) rfl wd_771 dX8_reckon_4 ?_
  obtain ⟨d1, hd1, H⟩ := H
  refine sb_callS (pc' := 9) rfl rfl (rc := rc) (rs := rs) (mc' := 0) (ms' := 0) (As := [(.ref (ad 73)), (vi 1000000)]) (st := [])  rfl rfl (Nat.le_of_ble_eq_true rfl) hd1 kJ7_fill_53178 ⟨wd_772, wd_773⟩ dX8_reckon_6 (Eb.mono H ?_)
  rintro o s1 ⟨rfl, hs1, H⟩
  show Wb g ad d mX8_reckon Q 9 [some (.ref (ad 72)), none, none] [] s1 rc rs
  refine sb_iconst (pc' := 10) rfl dX8_reckon_9 ?_
  refine sb_istore_n (pc' := 11) rfl (L' := [some (.ref (ad 72)), some (vi 0), none]) rfl (by decide) dX8_reckon_10 ?_
  exact (H (iR_lit rfl) hs1)
theorem bX8_reckon_11 {g : AG} {ad : Nat → Nat} {d : Nat} {Q : AO → SG → Prop} {rc rs : Nat} {σ : SG} {x1 : Int}  (hx1 : iR x1) (hS : SR σ) (H : (((sc σ 48 9) ≤ x1 → (iR 2 → SR σ → Wb g ad d mX8_reckon Q 79 [some (.ref (ad 72)), some (vi 2), none] [] σ rc rs)) ∧ (¬ (sc σ 48 9) ≤ x1 → (0 ≤ x1 ∧ x1 < 186) ∧ (0 ≤ (((ia σ 49 x1) * 6) + (ia σ 50 x1)) - 1 ∧ (((ia σ 49 x1) * 6) + (ia σ 50 x1)) - 1 < 36) ∧ Cl g ad d mJ9_min_7cf53 0 0 [(vi (ia σ 73 ((((ia σ 49 x1) * 6) + (ia σ 50 x1)) - 1))), (vi (ia σ 57 x1))] σ (Ki fun r3 s3 => iR (x1 + 1) ∧ (iR (x1 + 1) → SR (setI s3 73 ((((ia σ 49 x1) * 6) + (ia σ 50 x1)) - 1) r3) → Wb g ad d mX8_reckon Q 11 [some (.ref (ad 72)), some (vi (x1 + 1)), none] [] (setI s3 73 ((((ia σ 49 x1) * 6) + (ia σ 50 x1)) - 1) r3) rc rs))))) : Wb g ad d mX8_reckon Q 11 [some (.ref (ad 72)), some (vi x1), none] [] σ rc rs := by
  refine sb_iload_n (pc' := 12) rfl rfl dX8_reckon_11 ?_
  refine sb_aload_n (pc' := 13) rfl rfl dX8_reckon_12 ?_
  refine sb_getC (pc' := 16) rfl fc_72_0 wd_524 dX8_reckon_13 ?_
  refine sb_getIN (pc' := 19) rfl fi_48_9 wd_389 dX8_reckon_16 ?_
  refine sb_icmp_ge (pc' := 22) (tgt := 77) rfl (by decide) hx1 (SR_sc hS _ _) dX8_reckon_19 ?_ ?_
  · intro cc; have H := H.1 cc
    refine sb_iconst (pc' := 78) rfl dX8_reckon_77 ?_
    refine sb_istore_n (pc' := 79) rfl (L' := [some (.ref (ad 72)), some (vi 2), none]) rfl (by decide) dX8_reckon_78 ?_
    exact (H (iR_lit rfl) hS)
  · intro cc; have H := H.2 cc
    refine sb_aload_n (pc' := 23) rfl rfl dX8_reckon_22 ?_
    refine sb_getC (pc' := 26) rfl fc_72_0 wd_524 dX8_reckon_23 ?_
    refine sb_getCN (pc' := 29) rfl fc_48_0 wd_361 dX8_reckon_26 ?_
    refine sb_iload_n (pc' := 30) rfl rfl dX8_reckon_29 ?_
    obtain ⟨o1, H⟩ := H
    refine sb_iald (pc' := 31) rfl aI_49 o1.1 o1.2 dX8_reckon_30 ?_
    refine sb_bipush (pc' := 33) rfl (z := 6) (by decide) dX8_reckon_31 ?_
    refine sb_imul (pc' := 34) rfl dX8_reckon_33 ?_
    refine sb_aload_n (pc' := 35) rfl rfl dX8_reckon_34 ?_
    refine sb_getC (pc' := 38) rfl fc_72_0 wd_524 dX8_reckon_35 ?_
    refine sb_getCN (pc' := 41) rfl fc_48_1 wd_364 dX8_reckon_38 ?_
    refine sb_iload_n (pc' := 42) rfl rfl dX8_reckon_41 ?_
    refine sb_iald (pc' := 43) rfl aI_50 o1.1 o1.2 dX8_reckon_42 ?_
    refine sb_iadd (pc' := 44) rfl dX8_reckon_43 ?_
    refine sb_iconst (pc' := 45) rfl dX8_reckon_44 ?_
    refine sb_isub (pc' := 46) rfl dX8_reckon_45 ?_
    refine sb_istore_n (pc' := 47) rfl (L' := [some (.ref (ad 72)), some (vi x1), some (vi ((((ia σ 49 x1) * 6) + (ia σ 50 x1)) - 1))]) rfl (by decide) dX8_reckon_46 ?_
    refine sb_aload_n (pc' := 48) rfl rfl dX8_reckon_47 ?_
    refine sb_getC (pc' := 51) rfl fc_72_1 wd_525 dX8_reckon_48 ?_
    refine sb_iload_n (pc' := 52) rfl rfl dX8_reckon_51 ?_
    refine sb_aload_n (pc' := 53) rfl rfl dX8_reckon_52 ?_
    refine sb_getC (pc' := 56) rfl fc_72_1 wd_525 dX8_reckon_53 ?_
    refine sb_iload_n (pc' := 57) rfl rfl dX8_reckon_56 ?_
    obtain ⟨o2, H⟩ := H
    refine sb_iald (pc' := 58) rfl aI_73 o2.1 o2.2 dX8_reckon_57 ?_
    refine sb_aload_n (pc' := 59) rfl rfl dX8_reckon_58 ?_
    refine sb_getC (pc' := 62) rfl fc_72_0 wd_524 dX8_reckon_59 ?_
    refine sb_getCN (pc' := 65) rfl fc_48_8 wd_387 dX8_reckon_62 ?_
    refine sb_iload_n (pc' := 66) rfl rfl dX8_reckon_65 ?_
    refine sb_iald (pc' := 67) rfl aI_57 o1.1 o1.2 dX8_reckon_66 ?_
    obtain ⟨d3, hd3, H⟩ := H
    refine sb_callS (pc' := 70) rfl rfl (rc := rc) (rs := rs) (mc' := 0) (ms' := 0) (As := [(vi (ia σ 73 ((((ia σ 49 x1) * 6) + (ia σ 50 x1)) - 1))), (vi (ia σ 57 x1))]) (st := [(vi ((((ia σ 49 x1) * 6) + (ia σ 50 x1)) - 1)), (.ref (ad 73))])  rfl rfl (Nat.le_of_ble_eq_true rfl) hd3 kJ9_min_7cf53 ⟨wd_775, wd_776⟩ dX8_reckon_67 (Eb.mono H ?_)
    rintro o s3 ⟨r3, rfl, hr3, hs3, H⟩
    show Wb g ad d mX8_reckon Q 70 [some (.ref (ad 72)), some (vi x1), some (vi ((((ia σ 49 x1) * 6) + (ia σ 50 x1)) - 1))] [(vi r3), (vi ((((ia σ 49 x1) * 6) + (ia σ 50 x1)) - 1)), (.ref (ad 73))] s3 rc rs
    refine sb_iast (pc' := 71) rfl aI_73 o2.1 o2.2  dX8_reckon_70 ?_
    refine sb_iinc (pc' := 74) rfl rfl (L' := [some (.ref (ad 72)), some (vi (x1 + 1)), some (vi ((((ia σ 49 x1) * 6) + (ia σ 50 x1)) - 1))]) rfl (by decide) dX8_reckon_71 ?_
    refine sb_goto (tgt := 11) (by decide) dX8_reckon_74 ?_
    obtain ⟨o4, H⟩ := H
    refine Wb.forget [true, true, false] ?_
    exact (H o4 (SR_setI hs3 hr3))
theorem bX8_reckon_79 {g : AG} {ad : Nat → Nat} {d : Nat} {Q : AO → SG → Prop} {rc rs : Nat} {σ : SG} {x1 : Int}  (hx1 : iR x1) (hS : SR σ) (H : (((sc σ 48 10) < x1 → (iR 0 → SR σ → Wb g ad d mX8_reckon Q 129 [some (.ref (ad 72)), some (vi 0), none] [] σ rc rs)) ∧ (¬ (sc σ 48 10) < x1 → (iR x1 → iR 0 → SR σ → Wb g ad d mX8_reckon Q 92 [some (.ref (ad 72)), some (vi x1), some (vi 0)] [] σ rc rs)))) : Wb g ad d mX8_reckon Q 79 [some (.ref (ad 72)), some (vi x1), none] [] σ rc rs := by
  refine sb_iload_n (pc' := 80) rfl rfl dX8_reckon_79 ?_
  refine sb_aload_n (pc' := 81) rfl rfl dX8_reckon_80 ?_
  refine sb_getC (pc' := 84) rfl fc_72_0 wd_524 dX8_reckon_81 ?_
  refine sb_getIN (pc' := 87) rfl fi_48_10 wd_396 dX8_reckon_84 ?_
  refine sb_icmp_gt (pc' := 90) (tgt := 127) rfl (by decide) hx1 (SR_sc hS _ _) dX8_reckon_87 ?_ ?_
  · intro cc; have H := H.1 cc
    refine sb_iconst (pc' := 128) rfl dX8_reckon_127 ?_
    refine sb_istore_n (pc' := 129) rfl (L' := [some (.ref (ad 72)), some (vi 0), none]) rfl (by decide) dX8_reckon_128 ?_
    exact (H (iR_lit rfl) hS)
  · intro cc; have H := H.2 cc
    refine sb_iconst (pc' := 91) rfl dX8_reckon_90 ?_
    refine sb_istore_n (pc' := 92) rfl (L' := [some (.ref (ad 72)), some (vi x1), some (vi 0)]) rfl (by decide) dX8_reckon_91 ?_
    exact (H hx1 (iR_lit rfl) hS)
theorem bX8_reckon_92 {g : AG} {ad : Nat → Nat} {d : Nat} {Q : AO → SG → Prop} {rc rs : Nat} {σ : SG} {x1 x2 : Int}  (hx1 : iR x1) (hx2 : iR x2) (hS : SR σ) (H : iR (x2 + x1) ∧ (((sc σ 48 10) < (x2 + x1) → iR (x1 + 1) ∧ (iR (x1 + 1) → SR σ → Wb g ad d mX8_reckon Q 79 [some (.ref (ad 72)), some (vi (x1 + 1)), none] [] σ rc rs)) ∧ (¬ (sc σ 48 10) < (x2 + x1) → Cl g ad d mX8_join 0 0 [(.ref (ad 72)), (vi x2), (vi ((x2 + x1) - 1))] σ (Kv fun s3 => iR (x2 + 1) ∧ (iR x1 → iR (x2 + 1) → SR s3 → Wb g ad d mX8_reckon Q 92 [some (.ref (ad 72)), some (vi x1), some (vi (x2 + 1))] [] s3 rc rs))))) : Wb g ad d mX8_reckon Q 92 [some (.ref (ad 72)), some (vi x1), some (vi x2)] [] σ rc rs := by
  refine sb_iload_n (pc' := 93) rfl rfl dX8_reckon_92 ?_
  refine sb_iload_n (pc' := 94) rfl rfl dX8_reckon_93 ?_
  refine sb_iadd (pc' := 95) rfl dX8_reckon_94 ?_
  refine sb_aload_n (pc' := 96) rfl rfl dX8_reckon_95 ?_
  refine sb_getC (pc' := 99) rfl fc_72_0 wd_524 dX8_reckon_96 ?_
  refine sb_getIN (pc' := 102) rfl fi_48_10 wd_396 dX8_reckon_99 ?_
  obtain ⟨o1, H⟩ := H
  refine sb_icmp_gt (pc' := 105) (tgt := 121) rfl (by decide) o1 (SR_sc hS _ _) dX8_reckon_102 ?_ ?_
  · intro cc; have H := H.1 cc
    refine sb_iinc (pc' := 124) rfl rfl (L' := [some (.ref (ad 72)), some (vi (x1 + 1)), some (vi x2)]) rfl (by decide) dX8_reckon_121 ?_
    refine sb_goto (tgt := 79) (by decide) dX8_reckon_124 ?_
    obtain ⟨o2, H⟩ := H
    refine Wb.forget [true, true, false] ?_
    exact (H o2 hS)
  · intro cc; have H := H.2 cc
    refine sb_aload_n (pc' := 106) rfl rfl dX8_reckon_105 ?_
    refine sb_iload_n (pc' := 107) rfl rfl dX8_reckon_106 ?_
    refine sb_iload_n (pc' := 108) rfl rfl dX8_reckon_107 ?_
    refine sb_iload_n (pc' := 109) rfl rfl dX8_reckon_108 ?_
    refine sb_iadd (pc' := 110) rfl dX8_reckon_109 ?_
    refine sb_iconst (pc' := 111) rfl dX8_reckon_110 ?_
    refine sb_isub (pc' := 112) rfl dX8_reckon_111 ?_
    obtain ⟨d3, hd3, H⟩ := H
    refine sb_callV (pc' := 115) rfl rfl (rc := rc) (rs := rs) (mc' := 0) (ms' := 0) (As := [(vi x2), (vi ((x2 + x1) - 1))]) (st := []) of_72 rfl rfl (Nat.le_of_ble_eq_true rfl) hd3 kX8_join ⟨wd_778, wd_780, wd_13⟩ dX8_reckon_112 (Eb.mono H ?_)
    rintro o s3 ⟨rfl, hs3, H⟩
    show Wb g ad d mX8_reckon Q 115 [some (.ref (ad 72)), some (vi x1), some (vi x2)] [] s3 rc rs
    refine sb_iinc (pc' := 118) rfl rfl (L' := [some (.ref (ad 72)), some (vi x1), some (vi (x2 + 1))]) rfl (by decide) dX8_reckon_115 ?_
    refine sb_goto (tgt := 92) (by decide) dX8_reckon_118 ?_
    obtain ⟨o4, H⟩ := H
    exact (H hx1 o4 hs3)
theorem bX8_reckon_129 {g : AG} {ad : Nat → Nat} {d : Nat} {Q : AO → SG → Prop} {rc rs : Nat} {σ : SG} {x1 : Int}  (hx1 : iR x1) (hS : SR σ) (H : Cl g ad d mX5_full 0 0 [(.ref (ad 48))] σ (Ki fun r1 s1 => ((r1 < x1 → (SR s1 → Q (.inl none) s1)) ∧ (¬ r1 < x1 → Cl g ad d mX8_reckonAhead 0 0 [(.ref (ad 72)), (vi x1)] s1 (Ki fun r2 s2 => (0 ≤ x1 ∧ x1 < 64) ∧ iR (x1 + 1) ∧ (iR (x1 + 1) → SR (setI s2 74 x1 r2) → Wb g ad d mX8_reckon Q 129 [some (.ref (ad 72)), some (vi (x1 + 1)), none] [] (setI s2 74 x1 r2) rc rs)))))) : Wb g ad d mX8_reckon Q 129 [some (.ref (ad 72)), some (vi x1), none] [] σ rc rs := by
  refine sb_iload_n (pc' := 130) rfl rfl dX8_reckon_129 ?_
  refine sb_aload_n (pc' := 131) rfl rfl dX8_reckon_130 ?_
  refine sb_getC (pc' := 134) rfl fc_72_0 wd_524 dX8_reckon_131 ?_
  obtain ⟨d1, hd1, H⟩ := H
  refine sb_callVN (pc' := 137) rfl rfl (rc := rc) (rs := rs) (mc' := 0) (ms' := 0) (As := []) (st := [(vi x1)]) of_48 rfl rfl (Nat.le_of_ble_eq_true rfl) hd1 kX5_full ⟨wd_782, wd_744, wd_8⟩ dX8_reckon_134 (Eb.mono H ?_)
  rintro o s1 ⟨r1, rfl, hr1, hs1, H⟩
  show Wb g ad d mX8_reckon Q 137 [some (.ref (ad 72)), some (vi x1), none] [(vi r1), (vi x1)] s1 rc rs
  refine sb_icmp_gt (pc' := 140) (tgt := 157) rfl (by decide) hx1 hr1 dX8_reckon_137 ?_ ?_
  · intro cc; have H := H.1 cc
    exact sb_vret rfl dX8_reckon_157 (H hs1)
  · intro cc; have H := H.2 cc
    refine sb_aload_n (pc' := 141) rfl rfl dX8_reckon_140 ?_
    refine sb_getC (pc' := 144) rfl fc_72_2 wd_527 dX8_reckon_141 ?_
    refine sb_iload_n (pc' := 145) rfl rfl dX8_reckon_144 ?_
    refine sb_aload_n (pc' := 146) rfl rfl dX8_reckon_145 ?_
    refine sb_iload_n (pc' := 147) rfl rfl dX8_reckon_146 ?_
    obtain ⟨d2, hd2, H⟩ := H
    refine sb_callV (pc' := 150) rfl rfl (rc := rc) (rs := rs) (mc' := 0) (ms' := 0) (As := [(vi x1)]) (st := [(vi x1), (.ref (ad 74))]) of_72 rfl rfl (Nat.le_of_ble_eq_true rfl) hd2 kX8_reckonAhead ⟨wd_783, wd_785, wd_14⟩ dX8_reckon_147 (Eb.mono H ?_)
    rintro o s2 ⟨r2, rfl, hr2, hs2, H⟩
    show Wb g ad d mX8_reckon Q 150 [some (.ref (ad 72)), some (vi x1), none] [(vi r2), (vi x1), (.ref (ad 74))] s2 rc rs
    obtain ⟨o3, H⟩ := H
    refine sb_iast (pc' := 151) rfl aI_74 o3.1 o3.2  dX8_reckon_150 ?_
    refine sb_iinc (pc' := 154) rfl rfl (L' := [some (.ref (ad 72)), some (vi (x1 + 1)), none]) rfl (by decide) dX8_reckon_151 ?_
    refine sb_goto (tgt := 129) (by decide) dX8_reckon_154 ?_
    obtain ⟨o4, H⟩ := H
    exact (H o4 (SR_setI hs2 hr2))
theorem bX8_join_0 {g : AG} {ad : Nat → Nat} {d : Nat} {Q : AO → SG → Prop} {rc rs : Nat} {σ : SG} {x1 x2 : Int}  (hx1 : iR x1) (hx2 : iR x2) (hS : SR σ) (H : iR ((x1 * 6) + x2) ∧ (iR x1 → iR x2 → iR ((x1 * 6) + x2) → iR x1 → SR σ → Wb g ad d mX8_join Q 10 [some (.ref (ad 72)), some (vi x1), some (vi x2), some (vi ((x1 * 6) + x2)), some (vi x1), none] [] σ rc rs)) : Wb g ad d mX8_join Q 0 [some (.ref (ad 72)), some (vi x1), some (vi x2), none, none, none] [] σ rc rs := by
  refine sb_iload_n (pc' := 1) rfl rfl dX8_join_0 ?_
  refine sb_bipush (pc' := 3) rfl (z := 6) (by decide) dX8_join_1 ?_
  refine sb_imul (pc' := 4) rfl dX8_join_3 ?_
  refine sb_iload_n (pc' := 5) rfl rfl dX8_join_4 ?_
  refine sb_iadd (pc' := 6) rfl dX8_join_5 ?_
  refine sb_istore_n (pc' := 7) rfl (L' := [some (.ref (ad 72)), some (vi x1), some (vi x2), some (vi ((x1 * 6) + x2)), none, none]) rfl (by decide) dX8_join_6 ?_
  refine sb_iload_n (pc' := 8) rfl rfl dX8_join_7 ?_
  refine sb_istore (pc' := 10) rfl (L' := [some (.ref (ad 72)), some (vi x1), some (vi x2), some (vi ((x1 * 6) + x2)), some (vi x1), none]) rfl (by decide) dX8_join_8 ?_
  obtain ⟨o1, H⟩ := H
  exact (H hx1 hx2 o1 hx1 hS)
theorem bX8_join_10 {g : AG} {ad : Nat → Nat} {d : Nat} {Q : AO → SG → Prop} {rc rs : Nat} {σ : SG} {x1 x2 x3 x4 : Int}  (hx1 : iR x1) (hx2 : iR x2) (hx3 : iR x3) (hx4 : iR x4) (hS : SR σ) (H : ((x2 ≤ x4 → (SR σ → Q (.inl none) σ)) ∧ (¬ x2 ≤ x4 → (0 ≤ (x1 * 6) + x4 ∧ (x1 * 6) + x4 < 36) ∧ (0 ≤ ((x4 + 1) * 6) + x2 ∧ ((x4 + 1) * 6) + x2 < 36) ∧ (0 ≤ x3 ∧ x3 < 36) ∧ Cl g ad d mJ9_min_7cf53 0 0 [(vi (ia σ 73 x3)), (vi ((ia σ 73 ((x1 * 6) + x4)) + (ia σ 73 (((x4 + 1) * 6) + x2))))] σ (Ki fun r4 s4 => iR (x4 + 1) ∧ (iR x1 → iR x2 → iR x3 → iR (x4 + 1) → SR (setI s4 73 x3 r4) → Wb g ad d mX8_join Q 10 [some (.ref (ad 72)), some (vi x1), some (vi x2), some (vi x3), some (vi (x4 + 1)), none] [] (setI s4 73 x3 r4) rc rs))))) : Wb g ad d mX8_join Q 10 [some (.ref (ad 72)), some (vi x1), some (vi x2), some (vi x3), some (vi x4), none] [] σ rc rs := by
  refine sb_iload (pc' := 12) rfl rfl dX8_join_10 ?_
  refine sb_iload_n (pc' := 13) rfl rfl dX8_join_12 ?_
  refine sb_icmp_ge (pc' := 16) (tgt := 68) rfl (by decide) hx4 hx2 dX8_join_13 ?_ ?_
  · intro cc; have H := H.1 cc
    exact sb_vret rfl dX8_join_68 (H hS)
  · intro cc; have H := H.2 cc
    refine sb_aload_n (pc' := 17) rfl rfl dX8_join_16 ?_
    refine sb_getC (pc' := 20) rfl fc_72_1 wd_525 dX8_join_17 ?_
    refine sb_iload_n (pc' := 21) rfl rfl dX8_join_20 ?_
    refine sb_bipush (pc' := 23) rfl (z := 6) (by decide) dX8_join_21 ?_
    refine sb_imul (pc' := 24) rfl dX8_join_23 ?_
    refine sb_iload (pc' := 26) rfl rfl dX8_join_24 ?_
    refine sb_iadd (pc' := 27) rfl dX8_join_26 ?_
    obtain ⟨o1, H⟩ := H
    refine sb_iald (pc' := 28) rfl aI_73 o1.1 o1.2 dX8_join_27 ?_
    refine sb_aload_n (pc' := 29) rfl rfl dX8_join_28 ?_
    refine sb_getC (pc' := 32) rfl fc_72_1 wd_525 dX8_join_29 ?_
    refine sb_iload (pc' := 34) rfl rfl dX8_join_32 ?_
    refine sb_iconst (pc' := 35) rfl dX8_join_34 ?_
    refine sb_iadd (pc' := 36) rfl dX8_join_35 ?_
    refine sb_bipush (pc' := 38) rfl (z := 6) (by decide) dX8_join_36 ?_
    refine sb_imul (pc' := 39) rfl dX8_join_38 ?_
    refine sb_iload_n (pc' := 40) rfl rfl dX8_join_39 ?_
    refine sb_iadd (pc' := 41) rfl dX8_join_40 ?_
    obtain ⟨o2, H⟩ := H
    refine sb_iald (pc' := 42) rfl aI_73 o2.1 o2.2 dX8_join_41 ?_
    refine sb_iadd (pc' := 43) rfl dX8_join_42 ?_
    refine sb_istore (pc' := 45) rfl (L' := [some (.ref (ad 72)), some (vi x1), some (vi x2), some (vi x3), some (vi x4), some (vi ((ia σ 73 ((x1 * 6) + x4)) + (ia σ 73 (((x4 + 1) * 6) + x2))))]) rfl (by decide) dX8_join_43 ?_
    refine sb_aload_n (pc' := 46) rfl rfl dX8_join_45 ?_
    refine sb_getC (pc' := 49) rfl fc_72_1 wd_525 dX8_join_46 ?_
    refine sb_iload_n (pc' := 50) rfl rfl dX8_join_49 ?_
    refine sb_aload_n (pc' := 51) rfl rfl dX8_join_50 ?_
    refine sb_getC (pc' := 54) rfl fc_72_1 wd_525 dX8_join_51 ?_
    refine sb_iload_n (pc' := 55) rfl rfl dX8_join_54 ?_
    obtain ⟨o3, H⟩ := H
    refine sb_iald (pc' := 56) rfl aI_73 o3.1 o3.2 dX8_join_55 ?_
    refine sb_iload (pc' := 58) rfl rfl dX8_join_56 ?_
    obtain ⟨d4, hd4, H⟩ := H
    refine sb_callS (pc' := 61) rfl rfl (rc := rc) (rs := rs) (mc' := 0) (ms' := 0) (As := [(vi (ia σ 73 x3)), (vi ((ia σ 73 ((x1 * 6) + x4)) + (ia σ 73 (((x4 + 1) * 6) + x2))))]) (st := [(vi x3), (.ref (ad 73))])  rfl rfl (Nat.le_of_ble_eq_true rfl) hd4 kJ9_min_7cf53 ⟨wd_775, wd_776⟩ dX8_join_58 (Eb.mono H ?_)
    rintro o s4 ⟨r4, rfl, hr4, hs4, H⟩
    show Wb g ad d mX8_join Q 61 [some (.ref (ad 72)), some (vi x1), some (vi x2), some (vi x3), some (vi x4), some (vi ((ia σ 73 ((x1 * 6) + x4)) + (ia σ 73 (((x4 + 1) * 6) + x2))))] [(vi r4), (vi x3), (.ref (ad 73))] s4 rc rs
    refine sb_iast (pc' := 62) rfl aI_73 o3.1 o3.2  dX8_join_61 ?_
    refine sb_iinc (pc' := 65) rfl rfl (L' := [some (.ref (ad 72)), some (vi x1), some (vi x2), some (vi x3), some (vi (x4 + 1)), some (vi ((ia σ 73 ((x1 * 6) + x4)) + (ia σ 73 (((x4 + 1) * 6) + x2))))]) rfl (by decide) dX8_join_62 ?_
    refine sb_goto (tgt := 10) (by decide) dX8_join_65 ?_
    obtain ⟨o5, H⟩ := H
    refine Wb.forget [true, true, true, true, true, false] ?_
    exact (H hx1 hx2 hx3 o5 (SR_setI hs4 hr4))
theorem bX8_reckonAhead_0 {g : AG} {ad : Nat → Nat} {d : Nat} {Q : AO → SG → Prop} {rc rs : Nat} {σ : SG} {x1 : Int}  (hx1 : iR x1) (hS : SR σ) (H : (iR x1 → iR 0 → iR ((-1)) → iR 0 → SR σ → Wb g ad d mX8_reckonAhead Q 7 [some (.ref (ad 72)), some (vi x1), some (vi 0), some (vi ((-1))), some (vi 0), none, none] [] σ rc rs)) : Wb g ad d mX8_reckonAhead Q 0 [some (.ref (ad 72)), some (vi x1), none, none, none, none, none] [] σ rc rs := by
  refine sb_iconst (pc' := 1) rfl dX8_reckonAhead_0 ?_
  refine sb_istore_n (pc' := 2) rfl (L' := [some (.ref (ad 72)), some (vi x1), some (vi 0), none, none, none, none]) rfl (by decide) dX8_reckonAhead_1 ?_
  refine sb_iconst (pc' := 3) rfl dX8_reckonAhead_2 ?_
  refine sb_istore_n (pc' := 4) rfl (L' := [some (.ref (ad 72)), some (vi x1), some (vi 0), some (vi ((-1))), none, none, none]) rfl (by decide) dX8_reckonAhead_3 ?_
  refine sb_iconst (pc' := 5) rfl dX8_reckonAhead_4 ?_
  refine sb_istore (pc' := 7) rfl (L' := [some (.ref (ad 72)), some (vi x1), some (vi 0), some (vi ((-1))), some (vi 0), none, none]) rfl (by decide) dX8_reckonAhead_5 ?_
  exact (H hx1 (iR_lit rfl) (iR_lit rfl) (iR_lit rfl) hS)
theorem bX8_reckonAhead_7 {g : AG} {ad : Nat → Nat} {d : Nat} {Q : AO → SG → Prop} {rc rs : Nat} {σ : SG} {x1 x2 x3 x4 : Int}  (hx1 : iR x1) (hx2 : iR x2) (hx3 : iR x3) (hx4 : iR x4) (hS : SR σ) (H : (((sc σ 48 10) ≤ x4 → (iR x2 → SR σ → Q (.inl (some (vi x2))) σ)) ∧ (¬ (sc σ 48 10) ≤ x4 → ((¬ (bAnd (bShr x1 x4) 1) = 0 → iR (x4 + 1) ∧ (((sc σ 48 10) ≤ (x4 + 1) → (iR x1 → iR x2 → iR x3 → iR x4 → iR 0 → SR σ → Wb g ad d mX8_reckonAhead Q 64 [some (.ref (ad 72)), some (vi x1), some (vi x2), some (vi x3), some (vi x4), some (vi 0), none] [] σ rc rs)) ∧ (¬ (sc σ 48 10) ≤ (x4 + 1) → ((¬ (bAnd (bShr x1 (x4 + 1)) 1) = 0 → (iR x1 → iR x2 → iR x3 → iR x4 → iR 0 → SR σ → Wb g ad d mX8_reckonAhead Q 64 [some (.ref (ad 72)), some (vi x1), some (vi x2), some (vi x3), some (vi x4), some (vi 0), none] [] σ rc rs)) ∧ ((bAnd (bShr x1 (x4 + 1)) 1) = 0 → (iR x1 → iR x2 → iR x3 → iR x4 → iR 0 → iR 1 → SR σ → Wb g ad d mX8_reckonAhead Q 80 [some (.ref (ad 72)), some (vi x1), some (vi x2), some (vi x3), some (vi x4), some (vi 0), some (vi 1)] [] σ rc rs)))))) ∧ ((bAnd (bShr x1 x4) 1) = 0 → iR (x4 + 1) ∧ (((sc σ 48 10) ≤ (x4 + 1) → (iR x1 → iR x2 → iR x3 → iR x4 → iR 1 → SR σ → Wb g ad d mX8_reckonAhead Q 64 [some (.ref (ad 72)), some (vi x1), some (vi x2), some (vi x3), some (vi x4), some (vi 1), none] [] σ rc rs)) ∧ (¬ (sc σ 48 10) ≤ (x4 + 1) → ((¬ (bAnd (bShr x1 (x4 + 1)) 1) = 0 → (iR x1 → iR x2 → iR x3 → iR x4 → iR 1 → SR σ → Wb g ad d mX8_reckonAhead Q 64 [some (.ref (ad 72)), some (vi x1), some (vi x2), some (vi x3), some (vi x4), some (vi 1), none] [] σ rc rs)) ∧ ((bAnd (bShr x1 (x4 + 1)) 1) = 0 → ((¬ x3 = ((-1)) → (iR x1 → iR x2 → iR x3 → iR x4 → iR 1 → iR 1 → SR σ → Wb g ad d mX8_reckonAhead Q 80 [some (.ref (ad 72)), some (vi x1), some (vi x2), some (vi x3), some (vi x4), some (vi 1), some (vi 1)] [] σ rc rs)) ∧ (x3 = ((-1)) → (iR x1 → iR x2 → iR x4 → iR x4 → iR 1 → iR 1 → SR σ → Wb g ad d mX8_reckonAhead Q 80 [some (.ref (ad 72)), some (vi x1), some (vi x2), some (vi x4), some (vi x4), some (vi 1), some (vi 1)] [] σ rc rs)))))))))))) : Wb g ad d mX8_reckonAhead Q 7 [some (.ref (ad 72)), some (vi x1), some (vi x2), some (vi x3), some (vi x4), none, none] [] σ rc rs := by
  refine sb_iload (pc' := 9) rfl rfl dX8_reckonAhead_7 ?_
  refine sb_aload_n (pc' := 10) rfl rfl dX8_reckonAhead_9 ?_
  refine sb_getC (pc' := 13) rfl fc_72_0 wd_524 dX8_reckonAhead_10 ?_
  refine sb_getIN (pc' := 16) rfl fi_48_10 wd_396 dX8_reckonAhead_13 ?_
  refine sb_icmp_ge (pc' := 19) (tgt := 113) rfl (by decide) hx4 (SR_sc hS _ _) dX8_reckonAhead_16 ?_ ?_
  · intro cc; have H := H.1 cc
    refine sb_iload_n (pc' := 114) rfl rfl dX8_reckonAhead_113 ?_
    exact sb_iret rfl rfl dX8_reckonAhead_114 (H hx2 hS)
  · intro cc; have H := H.2 cc
    refine sb_iload_n (pc' := 20) rfl rfl dX8_reckonAhead_19 ?_
    refine sb_iload (pc' := 22) rfl rfl dX8_reckonAhead_20 ?_
    refine sb_ishr (pc' := 23) rfl dX8_reckonAhead_22 ?_
    refine sb_iconst (pc' := 24) rfl dX8_reckonAhead_23 ?_
    refine sb_iand (pc' := 25) rfl dX8_reckonAhead_24 ?_
    refine sb_if_ne (pc' := 28) (tgt := 32) rfl (by decide) (iR_b _) dX8_reckonAhead_25 ?_ ?_
    · intro cc; have H := H.1 cc
      refine sb_iconst (pc' := 33) rfl dX8_reckonAhead_32 ?_
      refine sb_istore (pc' := 35) rfl (L' := [some (.ref (ad 72)), some (vi x1), some (vi x2), some (vi x3), some (vi x4), some (vi 0), none]) rfl (by decide) dX8_reckonAhead_33 ?_
      refine sb_iload (pc' := 37) rfl rfl dX8_reckonAhead_35 ?_
      refine sb_iconst (pc' := 38) rfl dX8_reckonAhead_37 ?_
      refine sb_iadd (pc' := 39) rfl dX8_reckonAhead_38 ?_
      refine sb_aload_n (pc' := 40) rfl rfl dX8_reckonAhead_39 ?_
      refine sb_getC (pc' := 43) rfl fc_72_0 wd_524 dX8_reckonAhead_40 ?_
      refine sb_getIN (pc' := 46) rfl fi_48_10 wd_396 dX8_reckonAhead_43 ?_
      obtain ⟨o1, H⟩ := H
      refine sb_icmp_ge (pc' := 49) (tgt := 64) rfl (by decide) o1 (SR_sc hS _ _) dX8_reckonAhead_46 ?_ ?_
      · intro cc; have H := H.1 cc
        exact (H hx1 hx2 hx3 hx4 (iR_lit rfl) hS)
      · intro cc; have H := H.2 cc
        refine sb_iload_n (pc' := 50) rfl rfl dX8_reckonAhead_49 ?_
        refine sb_iload (pc' := 52) rfl rfl dX8_reckonAhead_50 ?_
        refine sb_iconst (pc' := 53) rfl dX8_reckonAhead_52 ?_
        refine sb_iadd (pc' := 54) rfl dX8_reckonAhead_53 ?_
        refine sb_ishr (pc' := 55) rfl dX8_reckonAhead_54 ?_
        refine sb_iconst (pc' := 56) rfl dX8_reckonAhead_55 ?_
        refine sb_iand (pc' := 57) rfl dX8_reckonAhead_56 ?_
        refine sb_if_ne (pc' := 60) (tgt := 64) rfl (by decide) (iR_b _) dX8_reckonAhead_57 ?_ ?_
        · intro cc; have H := H.1 cc
          exact (H hx1 hx2 hx3 hx4 (iR_lit rfl) hS)
        · intro cc; have H := H.2 cc
          refine sb_iconst (pc' := 61) rfl dX8_reckonAhead_60 ?_
          refine sb_goto (tgt := 65) (by decide) dX8_reckonAhead_61 ?_
          refine sb_istore (pc' := 67) rfl (L' := [some (.ref (ad 72)), some (vi x1), some (vi x2), some (vi x3), some (vi x4), some (vi 0), some (vi 1)]) rfl (by decide) dX8_reckonAhead_65 ?_
          refine sb_iload (pc' := 69) rfl rfl dX8_reckonAhead_67 ?_
          refine sb_if_eq (pc' := 72) (tgt := 80) rfl (by decide) (iR_lit rfl) dX8_reckonAhead_69 ?_ ?_
          · intro cc
            exact (H hx1 hx2 hx3 hx4 (iR_lit rfl) (iR_lit rfl) hS)
          · intro cc; exact absurd cc (by decide)
    · intro cc; have H := H.2 cc
      refine sb_iconst (pc' := 29) rfl dX8_reckonAhead_28 ?_
      refine sb_goto (tgt := 33) (by decide) dX8_reckonAhead_29 ?_
      refine sb_istore (pc' := 35) rfl (L' := [some (.ref (ad 72)), some (vi x1), some (vi x2), some (vi x3), some (vi x4), some (vi 1), none]) rfl (by decide) dX8_reckonAhead_33 ?_
      refine sb_iload (pc' := 37) rfl rfl dX8_reckonAhead_35 ?_
      refine sb_iconst (pc' := 38) rfl dX8_reckonAhead_37 ?_
      refine sb_iadd (pc' := 39) rfl dX8_reckonAhead_38 ?_
      refine sb_aload_n (pc' := 40) rfl rfl dX8_reckonAhead_39 ?_
      refine sb_getC (pc' := 43) rfl fc_72_0 wd_524 dX8_reckonAhead_40 ?_
      refine sb_getIN (pc' := 46) rfl fi_48_10 wd_396 dX8_reckonAhead_43 ?_
      obtain ⟨o2, H⟩ := H
      refine sb_icmp_ge (pc' := 49) (tgt := 64) rfl (by decide) o2 (SR_sc hS _ _) dX8_reckonAhead_46 ?_ ?_
      · intro cc; have H := H.1 cc
        exact (H hx1 hx2 hx3 hx4 (iR_lit rfl) hS)
      · intro cc; have H := H.2 cc
        refine sb_iload_n (pc' := 50) rfl rfl dX8_reckonAhead_49 ?_
        refine sb_iload (pc' := 52) rfl rfl dX8_reckonAhead_50 ?_
        refine sb_iconst (pc' := 53) rfl dX8_reckonAhead_52 ?_
        refine sb_iadd (pc' := 54) rfl dX8_reckonAhead_53 ?_
        refine sb_ishr (pc' := 55) rfl dX8_reckonAhead_54 ?_
        refine sb_iconst (pc' := 56) rfl dX8_reckonAhead_55 ?_
        refine sb_iand (pc' := 57) rfl dX8_reckonAhead_56 ?_
        refine sb_if_ne (pc' := 60) (tgt := 64) rfl (by decide) (iR_b _) dX8_reckonAhead_57 ?_ ?_
        · intro cc; have H := H.1 cc
          exact (H hx1 hx2 hx3 hx4 (iR_lit rfl) hS)
        · intro cc; have H := H.2 cc
          refine sb_iconst (pc' := 61) rfl dX8_reckonAhead_60 ?_
          refine sb_goto (tgt := 65) (by decide) dX8_reckonAhead_61 ?_
          refine sb_istore (pc' := 67) rfl (L' := [some (.ref (ad 72)), some (vi x1), some (vi x2), some (vi x3), some (vi x4), some (vi 1), some (vi 1)]) rfl (by decide) dX8_reckonAhead_65 ?_
          refine sb_iload (pc' := 69) rfl rfl dX8_reckonAhead_67 ?_
          refine sb_if_eq (pc' := 72) (tgt := 80) rfl (by decide) (iR_lit rfl) dX8_reckonAhead_69 ?_ ?_
          · intro cc; exact absurd cc (by decide)
          · intro cc
            refine sb_iload_n (pc' := 73) rfl rfl dX8_reckonAhead_72 ?_
            refine sb_iconst (pc' := 74) rfl dX8_reckonAhead_73 ?_
            refine sb_icmp_ne (pc' := 77) (tgt := 80) rfl (by decide) hx3 (iR_lit rfl) dX8_reckonAhead_74 ?_ ?_
            · intro cc; have H := H.1 cc
              exact (H hx1 hx2 hx3 hx4 (iR_lit rfl) (iR_lit rfl) hS)
            · intro cc; have H := H.2 cc
              refine sb_iload (pc' := 79) rfl rfl dX8_reckonAhead_77 ?_
              refine sb_istore_n (pc' := 80) rfl (L' := [some (.ref (ad 72)), some (vi x1), some (vi x2), some (vi x4), some (vi x4), some (vi 1), some (vi 1)]) rfl (by decide) dX8_reckonAhead_79 ?_
              exact (H hx1 hx2 hx4 hx4 (iR_lit rfl) (iR_lit rfl) hS)
theorem bX8_reckonAhead_64 {g : AG} {ad : Nat → Nat} {d : Nat} {Q : AO → SG → Prop} {rc rs : Nat} {σ : SG} {x1 x2 x3 x4 x5 : Int}  (hx1 : iR x1) (hx2 : iR x2) (hx3 : iR x3) (hx4 : iR x4) (hx5 : iR x5) (hS : SR σ) (H : ((x5 = 0 → (iR x1 → iR x2 → iR x3 → iR x4 → iR x5 → iR 0 → SR σ → Wb g ad d mX8_reckonAhead Q 80 [some (.ref (ad 72)), some (vi x1), some (vi x2), some (vi x3), some (vi x4), some (vi x5), some (vi 0)] [] σ rc rs)) ∧ (¬ x5 = 0 → ((¬ x3 = ((-1)) → (iR x1 → iR x2 → iR x3 → iR x4 → iR x5 → iR 0 → SR σ → Wb g ad d mX8_reckonAhead Q 80 [some (.ref (ad 72)), some (vi x1), some (vi x2), some (vi x3), some (vi x4), some (vi x5), some (vi 0)] [] σ rc rs)) ∧ (x3 = ((-1)) → (iR x1 → iR x2 → iR x4 → iR x4 → iR x5 → iR 0 → SR σ → Wb g ad d mX8_reckonAhead Q 80 [some (.ref (ad 72)), some (vi x1), some (vi x2), some (vi x4), some (vi x4), some (vi x5), some (vi 0)] [] σ rc rs)))))) : Wb g ad d mX8_reckonAhead Q 64 [some (.ref (ad 72)), some (vi x1), some (vi x2), some (vi x3), some (vi x4), some (vi x5), none] [] σ rc rs := by
  refine sb_iconst (pc' := 65) rfl dX8_reckonAhead_64 ?_
  refine sb_istore (pc' := 67) rfl (L' := [some (.ref (ad 72)), some (vi x1), some (vi x2), some (vi x3), some (vi x4), some (vi x5), some (vi 0)]) rfl (by decide) dX8_reckonAhead_65 ?_
  refine sb_iload (pc' := 69) rfl rfl dX8_reckonAhead_67 ?_
  refine sb_if_eq (pc' := 72) (tgt := 80) rfl (by decide) hx5 dX8_reckonAhead_69 ?_ ?_
  · intro cc; have H := H.1 cc
    exact (H hx1 hx2 hx3 hx4 hx5 (iR_lit rfl) hS)
  · intro cc; have H := H.2 cc
    refine sb_iload_n (pc' := 73) rfl rfl dX8_reckonAhead_72 ?_
    refine sb_iconst (pc' := 74) rfl dX8_reckonAhead_73 ?_
    refine sb_icmp_ne (pc' := 77) (tgt := 80) rfl (by decide) hx3 (iR_lit rfl) dX8_reckonAhead_74 ?_ ?_
    · intro cc; have H := H.1 cc
      exact (H hx1 hx2 hx3 hx4 hx5 (iR_lit rfl) hS)
    · intro cc; have H := H.2 cc
      refine sb_iload (pc' := 79) rfl rfl dX8_reckonAhead_77 ?_
      refine sb_istore_n (pc' := 80) rfl (L' := [some (.ref (ad 72)), some (vi x1), some (vi x2), some (vi x4), some (vi x4), some (vi x5), some (vi 0)]) rfl (by decide) dX8_reckonAhead_79 ?_
      exact (H hx1 hx2 hx4 hx4 hx5 (iR_lit rfl) hS)
theorem bX8_reckonAhead_80 {g : AG} {ad : Nat → Nat} {d : Nat} {Q : AO → SG → Prop} {rc rs : Nat} {σ : SG} {x1 x2 x3 x4 x5 x6 : Int}  (hx1 : iR x1) (hx2 : iR x2) (hx3 : iR x3) (hx4 : iR x4) (hx5 : iR x5) (hx6 : iR x6) (hS : SR σ) (H : ((x5 = 0 → (iR x1 → iR x2 → iR x3 → iR x4 → iR x5 → iR x6 → SR σ → Wb g ad d mX8_reckonAhead Q 107 [some (.ref (ad 72)), some (vi x1), some (vi x2), some (vi x3), some (vi x4), some (vi x5), some (vi x6)] [] σ rc rs)) ∧ (¬ x5 = 0 → ((¬ x6 = 0 → (iR x1 → iR x2 → iR x3 → iR x4 → iR x5 → iR x6 → SR σ → Wb g ad d mX8_reckonAhead Q 107 [some (.ref (ad 72)), some (vi x1), some (vi x2), some (vi x3), some (vi x4), some (vi x5), some (vi x6)] [] σ rc rs)) ∧ (x6 = 0 → (0 ≤ (x3 * 6) + x4 ∧ (x3 * 6) + x4 < 36) ∧ iR (x2 + (ia σ 73 ((x3 * 6) + x4))) ∧ (iR x1 → iR (x2 + (ia σ 73 ((x3 * 6) + x4))) → iR ((-1)) → iR x4 → iR x5 → iR x6 → SR σ → Wb g ad d mX8_reckonAhead Q 107 [some (.ref (ad 72)), some (vi x1), some (vi (x2 + (ia σ 73 ((x3 * 6) + x4)))), some (vi ((-1))), some (vi x4), some (vi x5), some (vi x6)] [] σ rc rs)))))) : Wb g ad d mX8_reckonAhead Q 80 [some (.ref (ad 72)), some (vi x1), some (vi x2), some (vi x3), some (vi x4), some (vi x5), some (vi x6)] [] σ rc rs := by
  refine sb_iload (pc' := 82) rfl rfl dX8_reckonAhead_80 ?_
  refine sb_if_eq (pc' := 85) (tgt := 107) rfl (by decide) hx5 dX8_reckonAhead_82 ?_ ?_
  · intro cc; have H := H.1 cc
    exact (H hx1 hx2 hx3 hx4 hx5 hx6 hS)
  · intro cc; have H := H.2 cc
    refine sb_iload (pc' := 87) rfl rfl dX8_reckonAhead_85 ?_
    refine sb_if_ne (pc' := 90) (tgt := 107) rfl (by decide) hx6 dX8_reckonAhead_87 ?_ ?_
    · intro cc; have H := H.1 cc
      exact (H hx1 hx2 hx3 hx4 hx5 hx6 hS)
    · intro cc; have H := H.2 cc
      refine sb_iload_n (pc' := 91) rfl rfl dX8_reckonAhead_90 ?_
      refine sb_aload_n (pc' := 92) rfl rfl dX8_reckonAhead_91 ?_
      refine sb_getC (pc' := 95) rfl fc_72_1 wd_525 dX8_reckonAhead_92 ?_
      refine sb_iload_n (pc' := 96) rfl rfl dX8_reckonAhead_95 ?_
      refine sb_bipush (pc' := 98) rfl (z := 6) (by decide) dX8_reckonAhead_96 ?_
      refine sb_imul (pc' := 99) rfl dX8_reckonAhead_98 ?_
      refine sb_iload (pc' := 101) rfl rfl dX8_reckonAhead_99 ?_
      refine sb_iadd (pc' := 102) rfl dX8_reckonAhead_101 ?_
      obtain ⟨o1, H⟩ := H
      refine sb_iald (pc' := 103) rfl aI_73 o1.1 o1.2 dX8_reckonAhead_102 ?_
      refine sb_iadd (pc' := 104) rfl dX8_reckonAhead_103 ?_
      refine sb_istore_n (pc' := 105) rfl (L' := [some (.ref (ad 72)), some (vi x1), some (vi (x2 + (ia σ 73 ((x3 * 6) + x4)))), some (vi x3), some (vi x4), some (vi x5), some (vi x6)]) rfl (by decide) dX8_reckonAhead_104 ?_
      refine sb_iconst (pc' := 106) rfl dX8_reckonAhead_105 ?_
      refine sb_istore_n (pc' := 107) rfl (L' := [some (.ref (ad 72)), some (vi x1), some (vi (x2 + (ia σ 73 ((x3 * 6) + x4)))), some (vi ((-1))), some (vi x4), some (vi x5), some (vi x6)]) rfl (by decide) dX8_reckonAhead_106 ?_
      obtain ⟨o2, H⟩ := H
      exact (H hx1 o2 (iR_lit rfl) hx4 hx5 hx6 hS)
theorem bX8_reckonAhead_107 {g : AG} {ad : Nat → Nat} {d : Nat} {Q : AO → SG → Prop} {rc rs : Nat} {σ : SG} {x1 x2 x3 x4 x5 x6 : Int}  (hx1 : iR x1) (hx2 : iR x2) (hx3 : iR x3) (hx4 : iR x4) (hx5 : iR x5) (hx6 : iR x6) (hS : SR σ) (H : iR (x4 + 1) ∧ (iR x1 → iR x2 → iR x3 → iR (x4 + 1) → SR σ → Wb g ad d mX8_reckonAhead Q 7 [some (.ref (ad 72)), some (vi x1), some (vi x2), some (vi x3), some (vi (x4 + 1)), none, none] [] σ rc rs)) : Wb g ad d mX8_reckonAhead Q 107 [some (.ref (ad 72)), some (vi x1), some (vi x2), some (vi x3), some (vi x4), some (vi x5), some (vi x6)] [] σ rc rs := by
  refine sb_iinc (pc' := 110) rfl rfl (L' := [some (.ref (ad 72)), some (vi x1), some (vi x2), some (vi x3), some (vi (x4 + 1)), some (vi x5), some (vi x6)]) rfl (by decide) dX8_reckonAhead_107 ?_
  refine sb_goto (tgt := 7) (by decide) dX8_reckonAhead_110 ?_
  obtain ⟨o1, H⟩ := H
  refine Wb.forget [true, true, true, true, true, false, false] ?_
  exact (H hx1 hx2 hx3 o1 hS)
theorem bX9_begin_0 {g : AG} {ad : Nat → Nat} {d : Nat} {Q : AO → SG → Prop} {rc rs : Nat} {σ : SG}    (hS : SR σ) (H : Cl g ad d mX1_cheapest 0 0 [(.ref (ad 58))] (setS (setS σ 63 8 0) 63 6 0) (Ki fun r1 s1 => Cl g ad d mX9_enqueue 0 0 [(.ref (ad 63)), (vl (lShl r1 48)), (vi 0), (vi 0), (vi 0)] s1 (Kv fun s2 => (SR s2 → Q (.inl none) s2)))) : Wb g ad d mX9_begin Q 0 [some (.ref (ad 63))] [] σ rc rs := by
  refine sb_aload_n (pc' := 1) rfl rfl dX9_begin_0 ?_
  refine sb_iconst (pc' := 2) rfl dX9_begin_1 ?_
  refine sb_putI (pc' := 5) rfl fi_63_8 (Or.inl rfl) wd_477 dX9_begin_2 ?_
  refine sb_aload_n (pc' := 6) rfl rfl dX9_begin_5 ?_
  refine sb_iconst (pc' := 7) rfl dX9_begin_6 ?_
  refine sb_putI (pc' := 10) rfl fi_63_6 (Or.inl rfl) wd_475 dX9_begin_7 ?_
  refine sb_aload_n (pc' := 11) rfl rfl dX9_begin_10 ?_
  refine sb_aload_n (pc' := 12) rfl rfl dX9_begin_11 ?_
  refine sb_getC (pc' := 15) rfl fc_63_1 wd_470 dX9_begin_12 ?_
  obtain ⟨d1, hd1, H⟩ := H
  refine sb_callVN (pc' := 18) rfl rfl (rc := rc) (rs := rs) (mc' := 0) (ms' := 0) (As := []) (st := [(.ref (ad 63))]) of_58 rfl rfl (Nat.le_of_ble_eq_true rfl) hd1 kX1_cheapest ⟨wd_836, wd_838, wd_26⟩ dX9_begin_15 (Eb.mono H ?_)
  rintro o s1 ⟨r1, rfl, hr1, hs1, H⟩
  show Wb g ad d mX9_begin Q 18 [some (.ref (ad 63))] [(vi r1), (.ref (ad 63))] s1 rc rs
  refine sb_i2l (pc' := 19) rfl hr1 dX9_begin_18 ?_
  refine sb_bipush (pc' := 21) rfl (z := 48) (by decide) dX9_begin_19 ?_
  refine sb_lshl (pc' := 22) rfl dX9_begin_21 ?_
  refine sb_iconst (pc' := 23) rfl dX9_begin_22 ?_
  refine sb_iconst (pc' := 24) rfl dX9_begin_23 ?_
  refine sb_iconst (pc' := 25) rfl dX9_begin_24 ?_
  obtain ⟨d2, hd2, H⟩ := H
  refine sb_callV (pc' := 28) rfl rfl (rc := rc) (rs := rs) (mc' := 0) (ms' := 0) (As := [(vl (lShl r1 48)), (vi 0), (vi 0), (vi 0)]) (st := []) of_63 rfl rfl (Nat.le_of_ble_eq_true rfl) hd2 kX9_enqueue ⟨wd_840, wd_842, wd_27⟩ dX9_begin_25 (Eb.mono H ?_)
  rintro o s2 ⟨rfl, hs2, H⟩
  show Wb g ad d mX9_begin Q 28 [some (.ref (ad 63))] [] s2 rc rs
  exact sb_vret rfl dX9_begin_28 (H hs2)
theorem bX9_costOf_0 {g : AG} {ad : Nat → Nat} {d : Nat} {Q : AO → SG → Prop} {rc rs : Nat} {σ : SG} {x1 : Int}  (hx1 : iR x1) (hS : SR σ) (H : (0 ≤ x1 ∧ x1 < 30) ∧ iR (lUshr (la σ 68 x1) 48) ∧ (iR (lUshr (la σ 68 x1) 48) → SR σ → Q (.inl (some (vi (lUshr (la σ 68 x1) 48)))) σ)) : Wb g ad d mX9_costOf Q 0 [some (.ref (ad 63)), some (vi x1)] [] σ rc rs := by
  refine sb_aload_n (pc' := 1) rfl rfl dX9_costOf_0 ?_
  refine sb_getC (pc' := 4) rfl fc_63_7 wd_476 dX9_costOf_1 ?_
  refine sb_iload_n (pc' := 5) rfl rfl dX9_costOf_4 ?_
  obtain ⟨o1, H⟩ := H
  refine sb_lald (pc' := 6) rfl aL_68 o1.1 o1.2 dX9_costOf_5 ?_
  refine sb_bipush (pc' := 8) rfl (z := 48) (by decide) dX9_costOf_6 ?_
  refine sb_lushr (pc' := 9) rfl dX9_costOf_8 ?_
  refine sb_l2i (pc' := 10) rfl dX9_costOf_9 ?_
  obtain ⟨o2, H⟩ := H
  exact sb_iret rfl rfl dX9_costOf_10 (H o2 hS)
theorem bX9_bring_0 {g : AG} {ad : Nat → Nat} {d : Nat} {Q : AO → SG → Prop} {rc rs : Nat} {σ : SG} {x1 : Int}  (hx1 : iR x1) (hS : SR σ) (H : (iR x1 → iR 210 → SR σ → Wb g ad d mX9_bring Q 4 [some (.ref (ad 63)), some (vi x1), some (vi 210)] [] σ rc rs)) : Wb g ad d mX9_bring Q 0 [some (.ref (ad 63)), some (vi x1), none] [] σ rc rs := by
  refine sb_sipush (pc' := 3) rfl (z := 210) (by decide) dX9_bring_0 ?_
  refine sb_istore_n (pc' := 4) rfl (L' := [some (.ref (ad 63)), some (vi x1), some (vi 210)]) rfl (by decide) dX9_bring_3 ?_
  exact (H hx1 (iR_lit rfl) hS)
theorem bX9_bring_4 {g : AG} {ad : Nat → Nat} {d : Nat} {Q : AO → SG → Prop} {rc rs : Nat} {σ : SG} {x1 x2 : Int}  (hx1 : iR x1) (hx2 : iR x2) (hS : SR σ) (H : ((x2 ≤ 0 → (SR σ → Q (.inl none) σ)) ∧ (¬ x2 ≤ 0 → ((x1 < (sc σ 63 8) → (SR σ → Q (.inl none) σ)) ∧ (¬ x1 < (sc σ 63 8) → (((sc σ 63 6) ≤ 0 → (SR σ → Q (.inl none) σ)) ∧ (¬ (sc σ 63 6) ≤ 0 → Cl g ad d mX9_takeFirst 0 0 [(.ref (ad 63))] σ (Kv fun s1 => iR (x2 + (-1)) ∧ (iR x1 → iR (x2 + (-1)) → SR s1 → Wb g ad d mX9_bring Q 4 [some (.ref (ad 63)), some (vi x1), some (vi (x2 + (-1)))] [] s1 rc rs))))))))) : Wb g ad d mX9_bring Q 4 [some (.ref (ad 63)), some (vi x1), some (vi x2)] [] σ rc rs := by
  refine sb_iload_n (pc' := 5) rfl rfl dX9_bring_4 ?_
  refine sb_if_le (pc' := 8) (tgt := 33) rfl (by decide) hx2 dX9_bring_5 ?_ ?_
  · intro cc; have H := H.1 cc
    exact sb_vret rfl dX9_bring_33 (H hS)
  · intro cc; have H := H.2 cc
    refine sb_aload_n (pc' := 9) rfl rfl dX9_bring_8 ?_
    refine sb_getI (pc' := 12) rfl fi_63_8 wd_477 dX9_bring_9 ?_
    refine sb_iload_n (pc' := 13) rfl rfl dX9_bring_12 ?_
    refine sb_icmp_gt (pc' := 16) (tgt := 33) rfl (by decide) (SR_sc hS _ _) hx1 dX9_bring_13 ?_ ?_
    · intro cc; have H := H.1 cc
      exact sb_vret rfl dX9_bring_33 (H hS)
    · intro cc; have H := H.2 cc
      refine sb_aload_n (pc' := 17) rfl rfl dX9_bring_16 ?_
      refine sb_getI (pc' := 20) rfl fi_63_6 wd_475 dX9_bring_17 ?_
      refine sb_if_le (pc' := 23) (tgt := 33) rfl (by decide) (SR_sc hS _ _) dX9_bring_20 ?_ ?_
      · intro cc; have H := H.1 cc
        exact sb_vret rfl dX9_bring_33 (H hS)
      · intro cc; have H := H.2 cc
        refine sb_aload_n (pc' := 24) rfl rfl dX9_bring_23 ?_
        obtain ⟨d1, hd1, H⟩ := H
        refine sb_callV (pc' := 27) rfl rfl (rc := rc) (rs := rs) (mc' := 0) (ms' := 0) (As := []) (st := []) of_63 rfl rfl (Nat.le_of_ble_eq_true rfl) hd1 kX9_takeFirst ⟨wd_874, wd_876, wd_32⟩ dX9_bring_24 (Eb.mono H ?_)
        rintro o s1 ⟨rfl, hs1, H⟩
        show Wb g ad d mX9_bring Q 27 [some (.ref (ad 63)), some (vi x1), some (vi x2)] [] s1 rc rs
        refine sb_iinc (pc' := 30) rfl rfl (L' := [some (.ref (ad 63)), some (vi x1), some (vi (x2 + (-1)))]) rfl (by decide) dX9_bring_27 ?_
        refine sb_goto (tgt := 4) (by decide) dX9_bring_30 ?_
        obtain ⟨o2, H⟩ := H
        exact (H hx1 o2 hs1)
theorem bX9_unfold_0 {g : AG} {ad : Nat → Nat} {d : Nat} {Q : AO → SG → Prop} {rc rs : Nat} {σ : SG} {x1 : Int}  (hx1 : iR x1) (hS : SR σ) (H : (iR x1 → SR (setS σ 63 11 0) → Wb g ad d mX9_unfold Q 5 [some (.ref (ad 63)), some (vi x1), none, none, none, none, none] [] (setS σ 63 11 0) rc rs)) : Wb g ad d mX9_unfold Q 0 [some (.ref (ad 63)), some (vi x1), none, none, none, none, none] [] σ rc rs := by
  refine sb_aload_n (pc' := 1) rfl rfl dX9_unfold_0 ?_
  refine sb_iconst (pc' := 2) rfl dX9_unfold_1 ?_
  refine sb_putI (pc' := 5) rfl fi_63_11 (Or.inl rfl) wd_482 dX9_unfold_2 ?_
  exact (H hx1 (SR_setS hS (iR_lit rfl)))
theorem bX9_unfold_5 {g : AG} {ad : Nat → Nat} {d : Nat} {Q : AO → SG → Prop} {rc rs : Nat} {σ : SG} {x1 : Int}  (hx1 : iR x1) (hS : SR σ) (H : (iR x1 → SR (setS σ 63 13 0) → Wb g ad d mX9_unfold Q 10 [some (.ref (ad 63)), some (vi x1), none, none, none, none, none] [] (setS σ 63 13 0) rc rs)) : Wb g ad d mX9_unfold Q 5 [some (.ref (ad 63)), some (vi x1), none, none, none, none, none] [] σ rc rs := by
  refine sb_aload_n (pc' := 6) rfl rfl dX9_unfold_5 ?_
  refine sb_iconst (pc' := 7) rfl dX9_unfold_6 ?_
  refine sb_putI (pc' := 10) rfl fi_63_13 (Or.inl rfl) wd_486 dX9_unfold_7 ?_
  exact (H hx1 (SR_setS hS (iR_lit rfl)))
theorem bX9_unfold_10 {g : AG} {ad : Nat → Nat} {d : Nat} {Q : AO → SG → Prop} {rc rs : Nat} {σ : SG} {x1 : Int}  (hx1 : iR x1) (hS : SR σ) (H : ((x1 < (sc σ 63 8) → (iR x1 → iR 0 → iR 40 → iR 0 → SR σ → Wb g ad d mX9_unfold Q 28 [some (.ref (ad 63)), some (vi x1), some (vi 0), some (vi 40), some (vi 0), none, none] [] σ rc rs)) ∧ (¬ x1 < (sc σ 63 8) → (iR 0 → SR σ → Q (.inl (some (vi 0))) σ)))) : Wb g ad d mX9_unfold Q 10 [some (.ref (ad 63)), some (vi x1), none, none, none, none, none] [] σ rc rs := by
  refine sb_iload_n (pc' := 11) rfl rfl dX9_unfold_10 ?_
  refine sb_aload_n (pc' := 12) rfl rfl dX9_unfold_11 ?_
  refine sb_getI (pc' := 15) rfl fi_63_8 wd_477 dX9_unfold_12 ?_
  refine sb_icmp_lt (pc' := 18) (tgt := 20) rfl (by decide) hx1 (SR_sc hS _ _) dX9_unfold_15 ?_ ?_
  · intro cc; have H := H.1 cc
    refine sb_iconst (pc' := 21) rfl dX9_unfold_20 ?_
    refine sb_istore_n (pc' := 22) rfl (L' := [some (.ref (ad 63)), some (vi x1), some (vi 0), none, none, none, none]) rfl (by decide) dX9_unfold_21 ?_
    refine sb_bipush (pc' := 24) rfl (z := 40) (by decide) dX9_unfold_22 ?_
    refine sb_istore_n (pc' := 25) rfl (L' := [some (.ref (ad 63)), some (vi x1), some (vi 0), some (vi 40), none, none, none]) rfl (by decide) dX9_unfold_24 ?_
    refine sb_iconst (pc' := 26) rfl dX9_unfold_25 ?_
    refine sb_istore (pc' := 28) rfl (L' := [some (.ref (ad 63)), some (vi x1), some (vi 0), some (vi 40), some (vi 0), none, none]) rfl (by decide) dX9_unfold_26 ?_
    exact (H hx1 (iR_lit rfl) (iR_lit rfl) (iR_lit rfl) hS)
  · intro cc; have H := H.2 cc
    refine sb_iconst (pc' := 19) rfl dX9_unfold_18 ?_
    exact sb_iret rfl (nar_z2 (Or.inl rfl)) dX9_unfold_19 (H (iR_lit rfl) hS)
theorem bX9_unfold_28 {g : AG} {ad : Nat → Nat} {d : Nat} {Q : AO → SG → Prop} {rc rs : Nat} {σ : SG} {x1 x2 x3 x4 : Int}  (hx1 : iR x1) (hx2 : iR x2) (hx3 : iR x3) (hx4 : iR x4) (hS : SR σ) (H : ((6 ≤ x4 → (iR 1 → SR σ → Q (.inl (some (vi 1))) σ)) ∧ (¬ 6 ≤ x4 → (0 ≤ x1 ∧ x1 < 30) ∧ Cl g ad d mX9_stepOf 0 0 [(vl (la σ 68 x1)), (vi x4)] σ (Ki fun r2 s2 => ((¬ r2 = ((-1)) → (0 ≤ sc s2 63 11 ∧ sc s2 63 11 < 6) ∧ Cl g ad d mX5_standing 0 0 [(.ref (ad 48)), (vi r2), (vi x3)] (setI s2 69 (sc s2 63 11) r2) (Ki fun r4 s4 => Cl g ad d mX5_gap 0 0 [(.ref (ad 48)), (vi r2), (vi x2)] s4 (Ki fun r5 s5 => (0 ≤ sc (setI s2 69 (sc s2 63 11) r2) 63 11 ∧ sc (setI s2 69 (sc s2 63 11) r2) 63 11 < 6) ∧ iR (r4 + ((sc s4 58 6) * r5)) ∧ iR ((sc (setI s5 70 (sc (setI s2 69 (sc s2 63 11) r2) 63 11) (r4 + ((sc s4 58 6) * r5))) 63 11) + 1) ∧ (iR x1 → iR x2 → iR x3 → iR x4 → iR r2 → SR (setS (setI s5 70 (sc (setI s2 69 (sc s2 63 11) r2) 63 11) (r4 + ((sc s4 58 6) * r5))) 63 11 ((sc (setI s5 70 (sc (setI s2 69 (sc s2 63 11) r2) 63 11) (r4 + ((sc s4 58 6) * r5))) 63 11) + 1)) → Wb g ad d mX9_unfold Q 116 [some (.ref (ad 63)), some (vi x1), some (vi x2), some (vi x3), some (vi x4), some (vi r2), none] [] (setS (setI s5 70 (sc (setI s2 69 (sc s2 63 11) r2) 63 11) (r4 + ((sc s4 58 6) * r5))) 63 11 ((sc (setI s5 70 (sc (setI s2 69 (sc s2 63 11) r2) 63 11) (r4 + ((sc s4 58 6) * r5))) 63 11) + 1)) rc rs)))) ∧ (r2 = ((-1)) → (iR 1 → SR s2 → Q (.inl (some (vi 1))) s2))))))) : Wb g ad d mX9_unfold Q 28 [some (.ref (ad 63)), some (vi x1), some (vi x2), some (vi x3), some (vi x4), none, none] [] σ rc rs := by
  refine sb_iload (pc' := 30) rfl rfl dX9_unfold_28 ?_
  refine sb_bipush (pc' := 32) rfl (z := 6) (by decide) dX9_unfold_30 ?_
  refine sb_icmp_ge (pc' := 35) (tgt := 200) rfl (by decide) hx4 (iR_lit rfl) dX9_unfold_32 ?_ ?_
  · intro cc; have H := H.1 cc
    refine sb_iconst (pc' := 201) rfl dX9_unfold_200 ?_
    exact sb_iret rfl (nar_z2 (Or.inr rfl)) dX9_unfold_201 (H (iR_lit rfl) hS)
  · intro cc; have H := H.2 cc
    refine sb_aload_n (pc' := 36) rfl rfl dX9_unfold_35 ?_
    refine sb_getC (pc' := 39) rfl fc_63_7 wd_476 dX9_unfold_36 ?_
    refine sb_iload_n (pc' := 40) rfl rfl dX9_unfold_39 ?_
    obtain ⟨o1, H⟩ := H
    refine sb_lald (pc' := 41) rfl aL_68 o1.1 o1.2 dX9_unfold_40 ?_
    refine sb_iload (pc' := 43) rfl rfl dX9_unfold_41 ?_
    obtain ⟨d2, hd2, H⟩ := H
    refine sb_callS (pc' := 46) rfl rfl (rc := rc) (rs := rs) (mc' := 0) (ms' := 0) (As := [(vl (la σ 68 x1)), (vi x4)]) (st := [])  rfl rfl (Nat.le_of_ble_eq_true rfl) hd2 kX9_stepOf ⟨wd_896, wd_897⟩ dX9_unfold_43 (Eb.mono H ?_)
    rintro o s2 ⟨r2, rfl, hr2, hs2, H⟩
    show Wb g ad d mX9_unfold Q 46 [some (.ref (ad 63)), some (vi x1), some (vi x2), some (vi x3), some (vi x4), none, none] [(vi r2)] s2 rc rs
    refine sb_istore (pc' := 48) rfl (L' := [some (.ref (ad 63)), some (vi x1), some (vi x2), some (vi x3), some (vi x4), some (vi r2), none]) rfl (by decide) dX9_unfold_46 ?_
    refine sb_iload (pc' := 50) rfl rfl dX9_unfold_48 ?_
    refine sb_iconst (pc' := 51) rfl dX9_unfold_50 ?_
    refine sb_icmp_ne (pc' := 54) (tgt := 57) rfl (by decide) hr2 (iR_lit rfl) dX9_unfold_51 ?_ ?_
    · intro cc; have H := H.1 cc
      refine sb_aload_n (pc' := 58) rfl rfl dX9_unfold_57 ?_
      refine sb_getC (pc' := 61) rfl fc_63_9 wd_478 dX9_unfold_58 ?_
      refine sb_aload_n (pc' := 62) rfl rfl dX9_unfold_61 ?_
      refine sb_getI (pc' := 65) rfl fi_63_11 wd_482 dX9_unfold_62 ?_
      refine sb_iload (pc' := 67) rfl rfl dX9_unfold_65 ?_
      obtain ⟨o3, H⟩ := H
      refine sb_iast (pc' := 68) rfl aI_69 o3.1 o3.2  dX9_unfold_67 ?_
      refine sb_aload_n (pc' := 69) rfl rfl dX9_unfold_68 ?_
      refine sb_getC (pc' := 72) rfl fc_63_10 wd_480 dX9_unfold_69 ?_
      refine sb_aload_n (pc' := 73) rfl rfl dX9_unfold_72 ?_
      refine sb_getI (pc' := 76) rfl fi_63_11 wd_482 dX9_unfold_73 ?_
      refine sb_aload_n (pc' := 77) rfl rfl dX9_unfold_76 ?_
      refine sb_getC (pc' := 80) rfl fc_63_0 wd_469 dX9_unfold_77 ?_
      refine sb_iload (pc' := 82) rfl rfl dX9_unfold_80 ?_
      refine sb_iload_n (pc' := 83) rfl rfl dX9_unfold_82 ?_
      obtain ⟨d4, hd4, H⟩ := H
      refine sb_callVN (pc' := 86) rfl rfl (rc := rc) (rs := rs) (mc' := 0) (ms' := 0) (As := [(vi r2), (vi x3)]) (st := [(vi (sc (setI s2 69 (sc s2 63 11) r2) 63 11)), (.ref (ad 70))]) of_48 rfl rfl (Nat.le_of_ble_eq_true rfl) hd4 kX5_standing ⟨wd_891, wd_829, wd_24⟩ dX9_unfold_83 (Eb.mono H ?_)
      rintro o s4 ⟨r4, rfl, hr4, hs4, H⟩
      show Wb g ad d mX9_unfold Q 86 [some (.ref (ad 63)), some (vi x1), some (vi x2), some (vi x3), some (vi x4), some (vi r2), none] [(vi r4), (vi (sc (setI s2 69 (sc s2 63 11) r2) 63 11)), (.ref (ad 70))] s4 rc rs
      refine sb_aload_n (pc' := 87) rfl rfl dX9_unfold_86 ?_
      refine sb_getC (pc' := 90) rfl fc_63_1 wd_470 dX9_unfold_87 ?_
      refine sb_getIN (pc' := 93) rfl fi_58_6 wd_439 dX9_unfold_90 ?_
      refine sb_aload_n (pc' := 94) rfl rfl dX9_unfold_93 ?_
      refine sb_getC (pc' := 97) rfl fc_63_0 wd_469 dX9_unfold_94 ?_
      refine sb_iload (pc' := 99) rfl rfl dX9_unfold_97 ?_
      refine sb_iload_n (pc' := 100) rfl rfl dX9_unfold_99 ?_
      obtain ⟨d5, hd5, H⟩ := H
      refine sb_callVN (pc' := 103) rfl rfl (rc := rc) (rs := rs) (mc' := 0) (ms' := 0) (As := [(vi r2), (vi x2)]) (st := [(vi (sc s4 58 6)), (vi r4), (vi (sc (setI s2 69 (sc s2 63 11) r2) 63 11)), (.ref (ad 70))]) of_48 rfl rfl (Nat.le_of_ble_eq_true rfl) hd5 kX5_gap ⟨wd_888, wd_818, wd_22⟩ dX9_unfold_100 (Eb.mono H ?_)
      rintro o s5 ⟨r5, rfl, hr5, hs5, H⟩
      show Wb g ad d mX9_unfold Q 103 [some (.ref (ad 63)), some (vi x1), some (vi x2), some (vi x3), some (vi x4), some (vi r2), none] [(vi r5), (vi (sc s4 58 6)), (vi r4), (vi (sc (setI s2 69 (sc s2 63 11) r2) 63 11)), (.ref (ad 70))] s5 rc rs
      refine sb_imul (pc' := 104) rfl dX9_unfold_103 ?_
      refine sb_iadd (pc' := 105) rfl dX9_unfold_104 ?_
      obtain ⟨o6, H⟩ := H
      obtain ⟨o7, H⟩ := H
      refine sb_iast (pc' := 106) rfl aI_70 o6.1 o6.2  dX9_unfold_105 ?_
      refine sb_aload_n (pc' := 107) rfl rfl dX9_unfold_106 ?_
      refine sb_dup (pc' := 108) rfl rfl dX9_unfold_107 ?_
      refine sb_getI (pc' := 111) rfl fi_63_11 wd_482 dX9_unfold_108 ?_
      refine sb_iconst (pc' := 112) rfl dX9_unfold_111 ?_
      refine sb_iadd (pc' := 113) rfl dX9_unfold_112 ?_
      obtain ⟨o8, H⟩ := H
      refine sb_putI (pc' := 116) rfl fi_63_11 (Or.inl rfl) wd_482 dX9_unfold_113 ?_
      exact (H hx1 hx2 hx3 hx4 hr2 (SR_setS (SR_setI hs5 o7) o8))
    · intro cc; have H := H.2 cc
      refine sb_goto (tgt := 200) (by decide) dX9_unfold_54 ?_
      refine sb_iconst (pc' := 201) rfl dX9_unfold_200 ?_
      exact sb_iret rfl (nar_z2 (Or.inr rfl)) dX9_unfold_201 (H (iR_lit rfl) hs2)
theorem bX9_unfold_116 {g : AG} {ad : Nat → Nat} {d : Nat} {Q : AO → SG → Prop} {rc rs : Nat} {σ : SG} {x1 x2 x3 x4 x5 : Int}  (hx1 : iR x1) (hx2 : iR x2) (hx3 : iR x3) (hx4 : iR x4) (hx5 : iR x5) (hS : SR σ) (H : (0 ≤ x5 ∧ x5 < 186) ∧ ((0 : Int) ≤ x5 * 3 ∧ (0 : Int) ≤ sc σ 63 13 ∧ (0 : Int) ≤ ia σ 54 x5 ∧ (x5 * 3 : Int) + ia σ 54 x5 ≤ 558 ∧ (sc σ 63 13 : Int) + ia σ 54 x5 ≤ 18) ∧ 2 ≤ d ∧ iR ((sc (setA σ 71 (cpy (ia σ 53) (ia σ 71) (x5 * 3) (sc σ 63 13) (ia σ 54 x5))) 63 13) + (ia σ 54 x5)) ∧ (iR x1 → iR x2 → iR x3 → iR x4 → iR x5 → iR (ia σ 54 x5) → SR (setS (setA σ 71 (cpy (ia σ 53) (ia σ 71) (x5 * 3) (sc σ 63 13) (ia σ 54 x5))) 63 13 ((sc (setA σ 71 (cpy (ia σ 53) (ia σ 71) (x5 * 3) (sc σ 63 13) (ia σ 54 x5))) 63 13) + (ia σ 54 x5))) → Wb g ad d mX9_unfold Q 163 [some (.ref (ad 63)), some (vi x1), some (vi x2), some (vi x3), some (vi x4), some (vi x5), some (vi (ia σ 54 x5))] [] (setS (setA σ 71 (cpy (ia σ 53) (ia σ 71) (x5 * 3) (sc σ 63 13) (ia σ 54 x5))) 63 13 ((sc (setA σ 71 (cpy (ia σ 53) (ia σ 71) (x5 * 3) (sc σ 63 13) (ia σ 54 x5))) 63 13) + (ia σ 54 x5))) rc rs)) : Wb g ad d mX9_unfold Q 116 [some (.ref (ad 63)), some (vi x1), some (vi x2), some (vi x3), some (vi x4), some (vi x5), none] [] σ rc rs := by
  refine sb_aload_n (pc' := 117) rfl rfl dX9_unfold_116 ?_
  refine sb_getC (pc' := 120) rfl fc_63_0 wd_469 dX9_unfold_117 ?_
  refine sb_getCN (pc' := 123) rfl fc_48_5 wd_380 dX9_unfold_120 ?_
  refine sb_iload (pc' := 125) rfl rfl dX9_unfold_123 ?_
  obtain ⟨o1, H⟩ := H
  refine sb_iald (pc' := 126) rfl aI_54 o1.1 o1.2 dX9_unfold_125 ?_
  refine sb_istore (pc' := 128) rfl (L' := [some (.ref (ad 63)), some (vi x1), some (vi x2), some (vi x3), some (vi x4), some (vi x5), some (vi (ia σ 54 x5))]) rfl (by decide) dX9_unfold_126 ?_
  refine sb_aload_n (pc' := 129) rfl rfl dX9_unfold_128 ?_
  refine sb_getC (pc' := 132) rfl fc_63_0 wd_469 dX9_unfold_129 ?_
  refine sb_getCN (pc' := 135) rfl fc_48_4 wd_377 dX9_unfold_132 ?_
  refine sb_iload (pc' := 137) rfl rfl dX9_unfold_135 ?_
  refine sb_iconst (pc' := 138) rfl dX9_unfold_137 ?_
  refine sb_imul (pc' := 139) rfl dX9_unfold_138 ?_
  refine sb_aload_n (pc' := 140) rfl rfl dX9_unfold_139 ?_
  refine sb_getC (pc' := 143) rfl fc_63_12 wd_484 dX9_unfold_140 ?_
  refine sb_aload_n (pc' := 144) rfl rfl dX9_unfold_143 ?_
  refine sb_getI (pc' := 147) rfl fi_63_13 wd_486 dX9_unfold_144 ?_
  refine sb_iload (pc' := 149) rfl rfl dX9_unfold_147 ?_
  obtain ⟨o2, H⟩ := H
  obtain ⟨o3, H⟩ := H
  refine sb_copy (pc' := 152) rfl aI_53 aI_71 o2 (Nat.le_of_ble_eq_true rfl) o3 wd_878 dX9_unfold_149 ?_
  refine sb_aload_n (pc' := 153) rfl rfl dX9_unfold_152 ?_
  refine sb_dup (pc' := 154) rfl rfl dX9_unfold_153 ?_
  refine sb_getI (pc' := 157) rfl fi_63_13 wd_486 dX9_unfold_154 ?_
  refine sb_iload (pc' := 159) rfl rfl dX9_unfold_157 ?_
  refine sb_iadd (pc' := 160) rfl dX9_unfold_159 ?_
  obtain ⟨o4, H⟩ := H
  refine sb_putI (pc' := 163) rfl fi_63_13 (Or.inl rfl) wd_486 dX9_unfold_160 ?_
  exact (H hx1 hx2 hx3 hx4 hx5 (SR_ia hS _ _) (SR_setS (SR_cpy hS) o4))
theorem bX9_unfold_163 {g : AG} {ad : Nat → Nat} {d : Nat} {Q : AO → SG → Prop} {rc rs : Nat} {σ : SG} {x1 x2 x3 x4 x5 x6 : Int}  (hx1 : iR x1) (hx2 : iR x2) (hx3 : iR x3) (hx4 : iR x4) (hx5 : iR x5) (hx6 : iR x6) (hS : SR σ) (H : (0 ≤ x5 ∧ x5 < 186) ∧ ((¬ x6 = 0 → iR (x4 + 1) ∧ (iR x1 → iR (ia σ 50 x5) → iR (ia σ 56 x5) → iR (x4 + 1) → SR σ → Wb g ad d mX9_unfold Q 28 [some (.ref (ad 63)), some (vi x1), some (vi (ia σ 50 x5)), some (vi (ia σ 56 x5)), some (vi (x4 + 1)), none, none] [] σ rc rs)) ∧ (x6 = 0 → iR (x4 + 1) ∧ (iR x1 → iR (ia σ 50 x5) → iR x3 → iR (x4 + 1) → SR σ → Wb g ad d mX9_unfold Q 28 [some (.ref (ad 63)), some (vi x1), some (vi (ia σ 50 x5)), some (vi x3), some (vi (x4 + 1)), none, none] [] σ rc rs)))) : Wb g ad d mX9_unfold Q 163 [some (.ref (ad 63)), some (vi x1), some (vi x2), some (vi x3), some (vi x4), some (vi x5), some (vi x6)] [] σ rc rs := by
  refine sb_aload_n (pc' := 164) rfl rfl dX9_unfold_163 ?_
  refine sb_getC (pc' := 167) rfl fc_63_0 wd_469 dX9_unfold_164 ?_
  refine sb_getCN (pc' := 170) rfl fc_48_1 wd_366 dX9_unfold_167 ?_
  refine sb_iload (pc' := 172) rfl rfl dX9_unfold_170 ?_
  obtain ⟨o1, H⟩ := H
  refine sb_iald (pc' := 173) rfl aI_50 o1.1 o1.2 dX9_unfold_172 ?_
  refine sb_istore_n (pc' := 174) rfl (L' := [some (.ref (ad 63)), some (vi x1), some (vi (ia σ 50 x5)), some (vi x3), some (vi x4), some (vi x5), some (vi x6)]) rfl (by decide) dX9_unfold_173 ?_
  refine sb_iload (pc' := 176) rfl rfl dX9_unfold_174 ?_
  refine sb_if_ne (pc' := 179) (tgt := 183) rfl (by decide) hx6 dX9_unfold_176 ?_ ?_
  · intro cc; have H := H.1 cc
    refine sb_aload_n (pc' := 184) rfl rfl dX9_unfold_183 ?_
    refine sb_getC (pc' := 187) rfl fc_63_0 wd_469 dX9_unfold_184 ?_
    refine sb_getCN (pc' := 190) rfl fc_48_7 wd_384 dX9_unfold_187 ?_
    refine sb_iload (pc' := 192) rfl rfl dX9_unfold_190 ?_
    refine sb_iald (pc' := 193) rfl aI_56 o1.1 o1.2 dX9_unfold_192 ?_
    refine sb_istore_n (pc' := 194) rfl (L' := [some (.ref (ad 63)), some (vi x1), some (vi (ia σ 50 x5)), some (vi (ia σ 56 x5)), some (vi x4), some (vi x5), some (vi x6)]) rfl (by decide) dX9_unfold_193 ?_
    refine sb_iinc (pc' := 197) rfl rfl (L' := [some (.ref (ad 63)), some (vi x1), some (vi (ia σ 50 x5)), some (vi (ia σ 56 x5)), some (vi (x4 + 1)), some (vi x5), some (vi x6)]) rfl (by decide) dX9_unfold_194 ?_
    refine sb_goto (tgt := 28) (by decide) dX9_unfold_197 ?_
    obtain ⟨o2, H⟩ := H
    refine Wb.forget [true, true, true, true, true, false, false] ?_
    exact (H hx1 (SR_ia hS _ _) (SR_ia hS _ _) o2 hS)
  · intro cc; have H := H.2 cc
    refine sb_iload_n (pc' := 180) rfl rfl dX9_unfold_179 ?_
    refine sb_goto (tgt := 193) (by decide) dX9_unfold_180 ?_
    refine sb_istore_n (pc' := 194) rfl (L' := [some (.ref (ad 63)), some (vi x1), some (vi (ia σ 50 x5)), some (vi x3), some (vi x4), some (vi x5), some (vi x6)]) rfl (by decide) dX9_unfold_193 ?_
    refine sb_iinc (pc' := 197) rfl rfl (L' := [some (.ref (ad 63)), some (vi x1), some (vi (ia σ 50 x5)), some (vi x3), some (vi (x4 + 1)), some (vi x5), some (vi x6)]) rfl (by decide) dX9_unfold_194 ?_
    refine sb_goto (tgt := 28) (by decide) dX9_unfold_197 ?_
    obtain ⟨o3, H⟩ := H
    refine Wb.forget [true, true, true, true, true, false, false] ?_
    exact (H hx1 (SR_ia hS _ _) hx3 o3 hS)
theorem bX9_stepOf_0 {g : AG} {ad : Nat → Nat} {d : Nat} {Q : AO → SG → Prop} {rc rs : Nat} {σ : SG} {x0 x2 : Int}  (hx0 : lR x0) (hx2 : iR x2) (hS : SR σ) (H : iR ((lAnd (lUshr x0 (8 * (5 - x2))) 255) - 1) ∧ (iR ((lAnd (lUshr x0 (8 * (5 - x2))) 255) - 1) → SR σ → Q (.inl (some (vi ((lAnd (lUshr x0 (8 * (5 - x2))) 255) - 1)))) σ)) : Wb g ad d mX9_stepOf Q 0 [some (vl x0), none, some (vi x2)] [] σ rc rs := by
  refine sb_lload_n (pc' := 1) rfl rfl dX9_stepOf_0 ?_
  refine sb_bipush (pc' := 3) rfl (z := 8) (by decide) dX9_stepOf_1 ?_
  refine sb_iconst (pc' := 4) rfl dX9_stepOf_3 ?_
  refine sb_iload_n (pc' := 5) rfl rfl dX9_stepOf_4 ?_
  refine sb_isub (pc' := 6) rfl dX9_stepOf_5 ?_
  refine sb_imul (pc' := 7) rfl dX9_stepOf_6 ?_
  refine sb_lushr (pc' := 8) rfl dX9_stepOf_7 ?_
  refine sb_ldc2 (pc' := 11) rfl (z := 255) (by decide) wd_899 dX9_stepOf_8 ?_
  refine sb_land (pc' := 12) rfl dX9_stepOf_11 ?_
  refine sb_l2i (pc' := 13) rfl dX9_stepOf_12 ?_
  refine sb_iconst (pc' := 14) rfl dX9_stepOf_13 ?_
  refine sb_isub (pc' := 15) rfl dX9_stepOf_14 ?_
  obtain ⟨o1, H⟩ := H
  exact sb_iret rfl rfl dX9_stepOf_15 (H o1 hS)
theorem bX9_takeFirst_0 {g : AG} {ad : Nat → Nat} {d : Nat} {Q : AO → SG → Prop} {rc rs : Nat} {σ : SG}    (hS : SR σ) (H : iR ((sc σ 63 6) - 1) ∧ (lR (la σ 64 0) → iR (ia σ 65 0) → iR (ia σ 66 0) → iR (ia σ 67 0) → SR (setS σ 63 6 ((sc σ 63 6) - 1)) → Wb g ad d mX9_takeFirst Q 40 [some (.ref (ad 63)), some (vl (la σ 64 0)), none, some (vi (ia σ 65 0)), some (vi (ia σ 66 0)), some (vi (ia σ 67 0))] [] (setS σ 63 6 ((sc σ 63 6) - 1)) rc rs)) : Wb g ad d mX9_takeFirst Q 0 [some (.ref (ad 63)), none, none, none, none, none] [] σ rc rs := by
  refine sb_aload_n (pc' := 1) rfl rfl dX9_takeFirst_0 ?_
  refine sb_getC (pc' := 4) rfl fc_63_2 wd_471 dX9_takeFirst_1 ?_
  refine sb_iconst (pc' := 5) rfl dX9_takeFirst_4 ?_
  refine sb_lald (pc' := 6) rfl aL_64 (by decide) (by decide) dX9_takeFirst_5 ?_
  refine sb_lstore_n (pc' := 7) rfl (L' := [some (.ref (ad 63)), some (vl (la σ 64 0)), none, none, none, none]) rfl (by decide) dX9_takeFirst_6 ?_
  refine sb_aload_n (pc' := 8) rfl rfl dX9_takeFirst_7 ?_
  refine sb_getC (pc' := 11) rfl fc_63_3 wd_472 dX9_takeFirst_8 ?_
  refine sb_iconst (pc' := 12) rfl dX9_takeFirst_11 ?_
  refine sb_iald (pc' := 13) rfl aI_65 (by decide) (by decide) dX9_takeFirst_12 ?_
  refine sb_istore_n (pc' := 14) rfl (L' := [some (.ref (ad 63)), some (vl (la σ 64 0)), none, some (vi (ia σ 65 0)), none, none]) rfl (by decide) dX9_takeFirst_13 ?_
  refine sb_aload_n (pc' := 15) rfl rfl dX9_takeFirst_14 ?_
  refine sb_getC (pc' := 18) rfl fc_63_4 wd_473 dX9_takeFirst_15 ?_
  refine sb_iconst (pc' := 19) rfl dX9_takeFirst_18 ?_
  refine sb_iald (pc' := 20) rfl aI_66 (by decide) (by decide) dX9_takeFirst_19 ?_
  refine sb_istore (pc' := 22) rfl (L' := [some (.ref (ad 63)), some (vl (la σ 64 0)), none, some (vi (ia σ 65 0)), some (vi (ia σ 66 0)), none]) rfl (by decide) dX9_takeFirst_20 ?_
  refine sb_aload_n (pc' := 23) rfl rfl dX9_takeFirst_22 ?_
  refine sb_getC (pc' := 26) rfl fc_63_5 wd_474 dX9_takeFirst_23 ?_
  refine sb_iconst (pc' := 27) rfl dX9_takeFirst_26 ?_
  refine sb_iald (pc' := 28) rfl aI_67 (by decide) (by decide) dX9_takeFirst_27 ?_
  refine sb_istore (pc' := 30) rfl (L' := [some (.ref (ad 63)), some (vl (la σ 64 0)), none, some (vi (ia σ 65 0)), some (vi (ia σ 66 0)), some (vi (ia σ 67 0))]) rfl (by decide) dX9_takeFirst_28 ?_
  refine sb_aload_n (pc' := 31) rfl rfl dX9_takeFirst_30 ?_
  refine sb_dup (pc' := 32) rfl rfl dX9_takeFirst_31 ?_
  refine sb_getI (pc' := 35) rfl fi_63_6 wd_475 dX9_takeFirst_32 ?_
  refine sb_iconst (pc' := 36) rfl dX9_takeFirst_35 ?_
  refine sb_isub (pc' := 37) rfl dX9_takeFirst_36 ?_
  obtain ⟨o1, H⟩ := H
  refine sb_putI (pc' := 40) rfl fi_63_6 (Or.inl rfl) wd_475 dX9_takeFirst_37 ?_
  exact (H (SR_la hS _ _) (SR_ia hS _ _) (SR_ia hS _ _) (SR_ia hS _ _) (SR_setS hS o1))
theorem bX9_takeFirst_40 {g : AG} {ad : Nat → Nat} {d : Nat} {Q : AO → SG → Prop} {rc rs : Nat} {σ : SG} {x1 x3 x4 x5 : Int}  (hx1 : lR x1) (hx3 : iR x3) (hx4 : iR x4) (hx5 : iR x5) (hS : SR σ) (H : ((0 : Int) ≤ 1 ∧ (0 : Int) ≤ 0 ∧ (0 : Int) ≤ sc σ 63 6 ∧ (1 : Int) + sc σ 63 6 ≤ 30 ∧ (0 : Int) + sc σ 63 6 ≤ 30) ∧ 2 ≤ d ∧ (lR x1 → iR x3 → iR x4 → iR x5 → SR (setB σ 64 (cpy (la σ 64) (la σ 64) 1 0 (sc σ 63 6))) → Wb g ad d mX9_takeFirst Q 57 [some (.ref (ad 63)), some (vl x1), none, some (vi x3), some (vi x4), some (vi x5)] [] (setB σ 64 (cpy (la σ 64) (la σ 64) 1 0 (sc σ 63 6))) rc rs)) : Wb g ad d mX9_takeFirst Q 40 [some (.ref (ad 63)), some (vl x1), none, some (vi x3), some (vi x4), some (vi x5)] [] σ rc rs := by
  refine sb_aload_n (pc' := 41) rfl rfl dX9_takeFirst_40 ?_
  refine sb_getC (pc' := 44) rfl fc_63_2 wd_471 dX9_takeFirst_41 ?_
  refine sb_iconst (pc' := 45) rfl dX9_takeFirst_44 ?_
  refine sb_aload_n (pc' := 46) rfl rfl dX9_takeFirst_45 ?_
  refine sb_getC (pc' := 49) rfl fc_63_2 wd_471 dX9_takeFirst_46 ?_
  refine sb_iconst (pc' := 50) rfl dX9_takeFirst_49 ?_
  refine sb_aload_n (pc' := 51) rfl rfl dX9_takeFirst_50 ?_
  refine sb_getI (pc' := 54) rfl fi_63_6 wd_475 dX9_takeFirst_51 ?_
  obtain ⟨o1, H⟩ := H
  obtain ⟨o2, H⟩ := H
  refine sb_copyl (pc' := 57) rfl aL_64 aL_64 o1 (Nat.le_of_ble_eq_true rfl) o2 wd_878 dX9_takeFirst_54 ?_
  exact (H hx1 hx3 hx4 hx5 (SR_cpyl hS))
theorem bX9_takeFirst_57 {g : AG} {ad : Nat → Nat} {d : Nat} {Q : AO → SG → Prop} {rc rs : Nat} {σ : SG} {x1 x3 x4 x5 : Int}  (hx1 : lR x1) (hx3 : iR x3) (hx4 : iR x4) (hx5 : iR x5) (hS : SR σ) (H : ((0 : Int) ≤ 1 ∧ (0 : Int) ≤ 0 ∧ (0 : Int) ≤ sc σ 63 6 ∧ (1 : Int) + sc σ 63 6 ≤ 30 ∧ (0 : Int) + sc σ 63 6 ≤ 30) ∧ 2 ≤ d ∧ (lR x1 → iR x3 → iR x4 → iR x5 → SR (setA σ 65 (cpy (ia σ 65) (ia σ 65) 1 0 (sc σ 63 6))) → Wb g ad d mX9_takeFirst Q 74 [some (.ref (ad 63)), some (vl x1), none, some (vi x3), some (vi x4), some (vi x5)] [] (setA σ 65 (cpy (ia σ 65) (ia σ 65) 1 0 (sc σ 63 6))) rc rs)) : Wb g ad d mX9_takeFirst Q 57 [some (.ref (ad 63)), some (vl x1), none, some (vi x3), some (vi x4), some (vi x5)] [] σ rc rs := by
  refine sb_aload_n (pc' := 58) rfl rfl dX9_takeFirst_57 ?_
  refine sb_getC (pc' := 61) rfl fc_63_3 wd_472 dX9_takeFirst_58 ?_
  refine sb_iconst (pc' := 62) rfl dX9_takeFirst_61 ?_
  refine sb_aload_n (pc' := 63) rfl rfl dX9_takeFirst_62 ?_
  refine sb_getC (pc' := 66) rfl fc_63_3 wd_472 dX9_takeFirst_63 ?_
  refine sb_iconst (pc' := 67) rfl dX9_takeFirst_66 ?_
  refine sb_aload_n (pc' := 68) rfl rfl dX9_takeFirst_67 ?_
  refine sb_getI (pc' := 71) rfl fi_63_6 wd_475 dX9_takeFirst_68 ?_
  obtain ⟨o1, H⟩ := H
  obtain ⟨o2, H⟩ := H
  refine sb_copy (pc' := 74) rfl aI_65 aI_65 o1 (Nat.le_of_ble_eq_true rfl) o2 wd_878 dX9_takeFirst_71 ?_
  exact (H hx1 hx3 hx4 hx5 (SR_cpy hS))
theorem bX9_takeFirst_74 {g : AG} {ad : Nat → Nat} {d : Nat} {Q : AO → SG → Prop} {rc rs : Nat} {σ : SG} {x1 x3 x4 x5 : Int}  (hx1 : lR x1) (hx3 : iR x3) (hx4 : iR x4) (hx5 : iR x5) (hS : SR σ) (H : ((0 : Int) ≤ 1 ∧ (0 : Int) ≤ 0 ∧ (0 : Int) ≤ sc σ 63 6 ∧ (1 : Int) + sc σ 63 6 ≤ 30 ∧ (0 : Int) + sc σ 63 6 ≤ 30) ∧ 2 ≤ d ∧ (lR x1 → iR x3 → iR x4 → iR x5 → SR (setA σ 66 (cpy (ia σ 66) (ia σ 66) 1 0 (sc σ 63 6))) → Wb g ad d mX9_takeFirst Q 91 [some (.ref (ad 63)), some (vl x1), none, some (vi x3), some (vi x4), some (vi x5)] [] (setA σ 66 (cpy (ia σ 66) (ia σ 66) 1 0 (sc σ 63 6))) rc rs)) : Wb g ad d mX9_takeFirst Q 74 [some (.ref (ad 63)), some (vl x1), none, some (vi x3), some (vi x4), some (vi x5)] [] σ rc rs := by
  refine sb_aload_n (pc' := 75) rfl rfl dX9_takeFirst_74 ?_
  refine sb_getC (pc' := 78) rfl fc_63_4 wd_473 dX9_takeFirst_75 ?_
  refine sb_iconst (pc' := 79) rfl dX9_takeFirst_78 ?_
  refine sb_aload_n (pc' := 80) rfl rfl dX9_takeFirst_79 ?_
  refine sb_getC (pc' := 83) rfl fc_63_4 wd_473 dX9_takeFirst_80 ?_
  refine sb_iconst (pc' := 84) rfl dX9_takeFirst_83 ?_
  refine sb_aload_n (pc' := 85) rfl rfl dX9_takeFirst_84 ?_
  refine sb_getI (pc' := 88) rfl fi_63_6 wd_475 dX9_takeFirst_85 ?_
  obtain ⟨o1, H⟩ := H
  obtain ⟨o2, H⟩ := H
  refine sb_copy (pc' := 91) rfl aI_66 aI_66 o1 (Nat.le_of_ble_eq_true rfl) o2 wd_878 dX9_takeFirst_88 ?_
  exact (H hx1 hx3 hx4 hx5 (SR_cpy hS))
theorem bX9_takeFirst_91 {g : AG} {ad : Nat → Nat} {d : Nat} {Q : AO → SG → Prop} {rc rs : Nat} {σ : SG} {x1 x3 x4 x5 : Int}  (hx1 : lR x1) (hx3 : iR x3) (hx4 : iR x4) (hx5 : iR x5) (hS : SR σ) (H : ((0 : Int) ≤ 1 ∧ (0 : Int) ≤ 0 ∧ (0 : Int) ≤ sc σ 63 6 ∧ (1 : Int) + sc σ 63 6 ≤ 30 ∧ (0 : Int) + sc σ 63 6 ≤ 30) ∧ 2 ≤ d ∧ (lR x1 → iR x3 → iR x4 → iR x5 → SR (setA σ 67 (cpy (ia σ 67) (ia σ 67) 1 0 (sc σ 63 6))) → Wb g ad d mX9_takeFirst Q 108 [some (.ref (ad 63)), some (vl x1), none, some (vi x3), some (vi x4), some (vi x5)] [] (setA σ 67 (cpy (ia σ 67) (ia σ 67) 1 0 (sc σ 63 6))) rc rs)) : Wb g ad d mX9_takeFirst Q 91 [some (.ref (ad 63)), some (vl x1), none, some (vi x3), some (vi x4), some (vi x5)] [] σ rc rs := by
  refine sb_aload_n (pc' := 92) rfl rfl dX9_takeFirst_91 ?_
  refine sb_getC (pc' := 95) rfl fc_63_5 wd_474 dX9_takeFirst_92 ?_
  refine sb_iconst (pc' := 96) rfl dX9_takeFirst_95 ?_
  refine sb_aload_n (pc' := 97) rfl rfl dX9_takeFirst_96 ?_
  refine sb_getC (pc' := 100) rfl fc_63_5 wd_474 dX9_takeFirst_97 ?_
  refine sb_iconst (pc' := 101) rfl dX9_takeFirst_100 ?_
  refine sb_aload_n (pc' := 102) rfl rfl dX9_takeFirst_101 ?_
  refine sb_getI (pc' := 105) rfl fi_63_6 wd_475 dX9_takeFirst_102 ?_
  obtain ⟨o1, H⟩ := H
  obtain ⟨o2, H⟩ := H
  refine sb_copy (pc' := 108) rfl aI_67 aI_67 o1 (Nat.le_of_ble_eq_true rfl) o2 wd_878 dX9_takeFirst_105 ?_
  exact (H hx1 hx3 hx4 hx5 (SR_cpy hS))
theorem bX9_takeFirst_108 {g : AG} {ad : Nat → Nat} {d : Nat} {Q : AO → SG → Prop} {rc rs : Nat} {σ : SG} {x1 x3 x4 x5 : Int}  (hx1 : lR x1) (hx3 : iR x3) (hx4 : iR x4) (hx5 : iR x5) (hS : SR σ) (H : Cl g ad d mX1_mask 0 0 [(.ref (ad 58)), (vi x3)] σ (Ki fun r1 s1 => Cl g ad d mX5_full 0 0 [(.ref (ad 48))] s1 (Ki fun r2 s2 => ((¬ r1 = r2 → ((6 ≤ x5 → (SR s2 → Q (.inl none) s2)) ∧ (¬ 6 ≤ x5 → Cl g ad d mX9_goOn 0 0 [(.ref (ad 63)), (vl (lAnd x1 281474976710655)), (vi x3), (vi x4), (vi x5)] s2 (Kv fun s3 => (SR s3 → Q (.inl none) s3))))) ∧ (r1 = r2 → (0 ≤ sc s2 63 8 ∧ sc s2 63 8 < 30) ∧ iR ((sc (setL s2 68 (sc s2 63 8) x1) 63 8) + 1) ∧ (lR x1 → iR x3 → iR x4 → iR x5 → SR (setS (setL s2 68 (sc s2 63 8) x1) 63 8 ((sc (setL s2 68 (sc s2 63 8) x1) 63 8) + 1)) → Wb g ad d mX9_takeFirst Q 146 [some (.ref (ad 63)), some (vl x1), none, some (vi x3), some (vi x4), some (vi x5)] [] (setS (setL s2 68 (sc s2 63 8) x1) 63 8 ((sc (setL s2 68 (sc s2 63 8) x1) 63 8) + 1)) rc rs)))))) : Wb g ad d mX9_takeFirst Q 108 [some (.ref (ad 63)), some (vl x1), none, some (vi x3), some (vi x4), some (vi x5)] [] σ rc rs := by
  refine sb_aload_n (pc' := 109) rfl rfl dX9_takeFirst_108 ?_
  refine sb_getC (pc' := 112) rfl fc_63_1 wd_470 dX9_takeFirst_109 ?_
  refine sb_iload_n (pc' := 113) rfl rfl dX9_takeFirst_112 ?_
  obtain ⟨d1, hd1, H⟩ := H
  refine sb_callVN (pc' := 116) rfl rfl (rc := rc) (rs := rs) (mc' := 0) (ms' := 0) (As := [(vi x3)]) (st := []) of_58 rfl rfl (Nat.le_of_ble_eq_true rfl) hd1 kX1_mask ⟨wd_879, wd_809, wd_20⟩ dX9_takeFirst_113 (Eb.mono H ?_)
  rintro o s1 ⟨r1, rfl, hr1, hs1, H⟩
  show Wb g ad d mX9_takeFirst Q 116 [some (.ref (ad 63)), some (vl x1), none, some (vi x3), some (vi x4), some (vi x5)] [(vi r1)] s1 rc rs
  refine sb_aload_n (pc' := 117) rfl rfl dX9_takeFirst_116 ?_
  refine sb_getC (pc' := 120) rfl fc_63_0 wd_469 dX9_takeFirst_117 ?_
  obtain ⟨d2, hd2, H⟩ := H
  refine sb_callVN (pc' := 123) rfl rfl (rc := rc) (rs := rs) (mc' := 0) (ms' := 0) (As := []) (st := [(vi r1)]) of_48 rfl rfl (Nat.le_of_ble_eq_true rfl) hd2 kX5_full ⟨wd_880, wd_744, wd_8⟩ dX9_takeFirst_120 (Eb.mono H ?_)
  rintro o s2 ⟨r2, rfl, hr2, hs2, H⟩
  show Wb g ad d mX9_takeFirst Q 123 [some (.ref (ad 63)), some (vl x1), none, some (vi x3), some (vi x4), some (vi x5)] [(vi r2), (vi r1)] s2 rc rs
  refine sb_icmp_ne (pc' := 126) (tgt := 149) rfl (by decide) hr1 hr2 dX9_takeFirst_123 ?_ ?_
  · intro cc; have H := H.1 cc
    refine sb_iload (pc' := 151) rfl rfl dX9_takeFirst_149 ?_
    refine sb_bipush (pc' := 153) rfl (z := 6) (by decide) dX9_takeFirst_151 ?_
    refine sb_icmp_ge (pc' := 156) (tgt := 170) rfl (by decide) hx5 (iR_lit rfl) dX9_takeFirst_153 ?_ ?_
    · intro cc; have H := H.1 cc
      exact sb_vret rfl dX9_takeFirst_170 (H hs2)
    · intro cc; have H := H.2 cc
      refine sb_aload_n (pc' := 157) rfl rfl dX9_takeFirst_156 ?_
      refine sb_lload_n (pc' := 158) rfl rfl dX9_takeFirst_157 ?_
      refine sb_ldc2 (pc' := 161) rfl (z := 281474976710655) (by decide) wd_881 dX9_takeFirst_158 ?_
      refine sb_land (pc' := 162) rfl dX9_takeFirst_161 ?_
      refine sb_iload_n (pc' := 163) rfl rfl dX9_takeFirst_162 ?_
      refine sb_iload (pc' := 165) rfl rfl dX9_takeFirst_163 ?_
      refine sb_iload (pc' := 167) rfl rfl dX9_takeFirst_165 ?_
      obtain ⟨d3, hd3, H⟩ := H
      refine sb_callV (pc' := 170) rfl rfl (rc := rc) (rs := rs) (mc' := 0) (ms' := 0) (As := [(vl (lAnd x1 281474976710655)), (vi x3), (vi x4), (vi x5)]) (st := []) of_63 rfl rfl (Nat.le_of_ble_eq_true rfl) hd3 kX9_goOn ⟨wd_882, wd_884, wd_33⟩ dX9_takeFirst_167 (Eb.mono H ?_)
      rintro o s3 ⟨rfl, hs3, H⟩
      show Wb g ad d mX9_takeFirst Q 170 [some (.ref (ad 63)), some (vl x1), none, some (vi x3), some (vi x4), some (vi x5)] [] s3 rc rs
      exact sb_vret rfl dX9_takeFirst_170 (H hs3)
  · intro cc; have H := H.2 cc
    refine sb_aload_n (pc' := 127) rfl rfl dX9_takeFirst_126 ?_
    refine sb_getC (pc' := 130) rfl fc_63_7 wd_476 dX9_takeFirst_127 ?_
    refine sb_aload_n (pc' := 131) rfl rfl dX9_takeFirst_130 ?_
    refine sb_getI (pc' := 134) rfl fi_63_8 wd_477 dX9_takeFirst_131 ?_
    refine sb_lload_n (pc' := 135) rfl rfl dX9_takeFirst_134 ?_
    obtain ⟨o4, H⟩ := H
    refine sb_last (pc' := 136) rfl aL_68 o4.1 o4.2  dX9_takeFirst_135 ?_
    refine sb_aload_n (pc' := 137) rfl rfl dX9_takeFirst_136 ?_
    refine sb_dup (pc' := 138) rfl rfl dX9_takeFirst_137 ?_
    refine sb_getI (pc' := 141) rfl fi_63_8 wd_477 dX9_takeFirst_138 ?_
    refine sb_iconst (pc' := 142) rfl dX9_takeFirst_141 ?_
    refine sb_iadd (pc' := 143) rfl dX9_takeFirst_142 ?_
    obtain ⟨o5, H⟩ := H
    refine sb_putI (pc' := 146) rfl fi_63_8 (Or.inl rfl) wd_477 dX9_takeFirst_143 ?_
    exact (H hx1 hx3 hx4 hx5 (SR_setS (SR_setL hs2 hx1) o5))
theorem bX9_takeFirst_146 {g : AG} {ad : Nat → Nat} {d : Nat} {Q : AO → SG → Prop} {rc rs : Nat} {σ : SG} {x1 x3 x4 x5 : Int}  (hx1 : lR x1) (hx3 : iR x3) (hx4 : iR x4) (hx5 : iR x5) (hS : SR σ) (H : (SR σ → Q (.inl none) σ)) : Wb g ad d mX9_takeFirst Q 146 [some (.ref (ad 63)), some (vl x1), none, some (vi x3), some (vi x4), some (vi x5)] [] σ rc rs := by
  refine sb_goto (tgt := 170) (by decide) dX9_takeFirst_146 ?_
  exact sb_vret rfl dX9_takeFirst_170 (H hS)
theorem bX9_goOn_0 {g : AG} {ad : Nat → Nat} {d : Nat} {Q : AO → SG → Prop} {rc rs : Nat} {σ : SG} {x1 x3 x4 x5 : Int}  (hx1 : lR x1) (hx3 : iR x3) (hx4 : iR x4) (hx5 : iR x5) (hS : SR σ) (H : Cl g ad d mX1_mask 0 0 [(.ref (ad 58)), (vi x3)] σ (Ki fun r1 s1 => Cl g ad d mX1_behind 0 0 [(.ref (ad 58)), (vi x3)] s1 (Ki fun r2 s2 => Cl g ad d mX1_last 0 0 [(.ref (ad 58)), (vi x3)] s2 (Ki fun r3 s3 => (lR x1 → iR x3 → iR x4 → iR x5 → iR r1 → iR r2 → iR r3 → iR 0 → SR s3 → Wb g ad d mX9_goOn Q 33 [some (.ref (ad 63)), some (vl x1), none, some (vi x3), some (vi x4), some (vi x5), some (vi r1), some (vi r2), some (vi r3), some (vi 0), none, none, none, none, none, none, none] [] s3 rc rs))))) : Wb g ad d mX9_goOn Q 0 [some (.ref (ad 63)), some (vl x1), none, some (vi x3), some (vi x4), some (vi x5), none, none, none, none, none, none, none, none, none, none, none] [] σ rc rs := by
  refine sb_aload_n (pc' := 1) rfl rfl dX9_goOn_0 ?_
  refine sb_getC (pc' := 4) rfl fc_63_1 wd_470 dX9_goOn_1 ?_
  refine sb_iload_n (pc' := 5) rfl rfl dX9_goOn_4 ?_
  obtain ⟨d1, hd1, H⟩ := H
  refine sb_callVN (pc' := 8) rfl rfl (rc := rc) (rs := rs) (mc' := 0) (ms' := 0) (As := [(vi x3)]) (st := []) of_58 rfl rfl (Nat.le_of_ble_eq_true rfl) hd1 kX1_mask ⟨wd_879, wd_809, wd_20⟩ dX9_goOn_5 (Eb.mono H ?_)
  rintro o s1 ⟨r1, rfl, hr1, hs1, H⟩
  show Wb g ad d mX9_goOn Q 8 [some (.ref (ad 63)), some (vl x1), none, some (vi x3), some (vi x4), some (vi x5), none, none, none, none, none, none, none, none, none, none, none] [(vi r1)] s1 rc rs
  refine sb_istore (pc' := 10) rfl (L' := [some (.ref (ad 63)), some (vl x1), none, some (vi x3), some (vi x4), some (vi x5), some (vi r1), none, none, none, none, none, none, none, none, none, none]) rfl (by decide) dX9_goOn_8 ?_
  refine sb_aload_n (pc' := 11) rfl rfl dX9_goOn_10 ?_
  refine sb_getC (pc' := 14) rfl fc_63_1 wd_470 dX9_goOn_11 ?_
  refine sb_iload_n (pc' := 15) rfl rfl dX9_goOn_14 ?_
  obtain ⟨d2, hd2, H⟩ := H
  refine sb_callVN (pc' := 18) rfl rfl (rc := rc) (rs := rs) (mc' := 0) (ms' := 0) (As := [(vi x3)]) (st := []) of_58 rfl rfl (Nat.le_of_ble_eq_true rfl) hd2 kX1_behind ⟨wd_886, wd_813, wd_21⟩ dX9_goOn_15 (Eb.mono H ?_)
  rintro o s2 ⟨r2, rfl, hr2, hs2, H⟩
  show Wb g ad d mX9_goOn Q 18 [some (.ref (ad 63)), some (vl x1), none, some (vi x3), some (vi x4), some (vi x5), some (vi r1), none, none, none, none, none, none, none, none, none, none] [(vi r2)] s2 rc rs
  refine sb_istore (pc' := 20) rfl (L' := [some (.ref (ad 63)), some (vl x1), none, some (vi x3), some (vi x4), some (vi x5), some (vi r1), some (vi r2), none, none, none, none, none, none, none, none, none]) rfl (by decide) dX9_goOn_18 ?_
  refine sb_aload_n (pc' := 21) rfl rfl dX9_goOn_20 ?_
  refine sb_getC (pc' := 24) rfl fc_63_1 wd_470 dX9_goOn_21 ?_
  refine sb_iload_n (pc' := 25) rfl rfl dX9_goOn_24 ?_
  obtain ⟨d3, hd3, H⟩ := H
  refine sb_callVN (pc' := 28) rfl rfl (rc := rc) (rs := rs) (mc' := 0) (ms' := 0) (As := [(vi x3)]) (st := []) of_58 rfl rfl (Nat.le_of_ble_eq_true rfl) hd3 kX1_last ⟨wd_887, wd_797, wd_17⟩ dX9_goOn_25 (Eb.mono H ?_)
  rintro o s3 ⟨r3, rfl, hr3, hs3, H⟩
  show Wb g ad d mX9_goOn Q 28 [some (.ref (ad 63)), some (vl x1), none, some (vi x3), some (vi x4), some (vi x5), some (vi r1), some (vi r2), none, none, none, none, none, none, none, none, none] [(vi r3)] s3 rc rs
  refine sb_istore (pc' := 30) rfl (L' := [some (.ref (ad 63)), some (vl x1), none, some (vi x3), some (vi x4), some (vi x5), some (vi r1), some (vi r2), some (vi r3), none, none, none, none, none, none, none, none]) rfl (by decide) dX9_goOn_28 ?_
  refine sb_iconst (pc' := 31) rfl dX9_goOn_30 ?_
  refine sb_istore (pc' := 33) rfl (L' := [some (.ref (ad 63)), some (vl x1), none, some (vi x3), some (vi x4), some (vi x5), some (vi r1), some (vi r2), some (vi r3), some (vi 0), none, none, none, none, none, none, none]) rfl (by decide) dX9_goOn_31 ?_
  exact (H hx1 hx3 hx4 hx5 hr1 hr2 hr3 (iR_lit rfl) hs3)
theorem bX9_goOn_33 {g : AG} {ad : Nat → Nat} {d : Nat} {Q : AO → SG → Prop} {rc rs : Nat} {σ : SG} {x1 x3 x4 x5 x6 x7 x8 x9 : Int}  (hx1 : lR x1) (hx3 : iR x3) (hx4 : iR x4) (hx5 : iR x5) (hx6 : iR x6) (hx7 : iR x7) (hx8 : iR x8) (hx9 : iR x9) (hS : SR σ) (H : (((sc σ 48 9) ≤ x9 → (SR σ → Q (.inl none) σ)) ∧ (¬ (sc σ 48 9) ≤ x9 → Cl g ad d mX5_gap 0 0 [(.ref (ad 48)), (vi x9), (vi x7)] σ (Ki fun r1 s1 => (0 ≤ x9 ∧ x9 < 186) ∧ ((¬ (bAnd x6 (ia s1 51 x9)) = 0 → (lR x1 → iR x3 → iR x4 → iR x5 → iR x6 → iR x7 → iR x8 → iR x9 → iR r1 → SR s1 → Wb g ad d mX9_goOn Q 207 [some (.ref (ad 63)), some (vl x1), none, some (vi x3), some (vi x4), some (vi x5), some (vi x6), some (vi x7), some (vi x8), some (vi x9), some (vi r1), none, none, none, none, none, none] [] s1 rc rs)) ∧ ((bAnd x6 (ia s1 51 x9)) = 0 → ((r1 ≤ (sc s1 58 7) → Cl g ad d mX1_follow 0 0 [(.ref (ad 58)), (vi x6), (vi x8), (vi x9)] s1 (Ki fun r3 s3 => ((r3 < 0 → (lR x1 → iR x3 → iR x4 → iR x5 → iR x6 → iR x7 → iR x8 → iR x9 → iR r1 → SR s3 → Wb g ad d mX9_goOn Q 207 [some (.ref (ad 63)), some (vl x1), none, some (vi x3), some (vi x4), some (vi x5), some (vi x6), some (vi x7), some (vi x8), some (vi x9), some (vi r1), none, none, none, none, none, none] [] s3 rc rs)) ∧ (¬ r3 < 0 → (0 ≤ r3 ∧ r3 < 7913) ∧ (((ia s3 61 r3) < 1000000 → Cl g ad d mX5_standing 0 0 [(.ref (ad 48)), (vi x9), (vi x8)] s3 (Ki fun r5 s5 => iR (x9 + 1) ∧ iR (((x4 + r5) + ((sc s5 58 6) * r1)) + (ia s5 61 r3)) ∧ Cl g ad d mX9_enqueue 0 0 [(.ref (ad 63)), (vl (lOr (lOr (lShl (((x4 + r5) + ((sc s5 58 6) * r1)) + (ia s5 61 r3)) 48) x1) (lShl (x9 + 1) (8 * (5 - x5))))), (vi r3), (vi ((x4 + r5) + ((sc s5 58 6) * r1))), (vi (x5 + 1))] s5 (Kv fun s8 => (lR x1 → iR x3 → iR x4 → iR x5 → iR x6 → iR x7 → iR x8 → iR x9 → iR r1 → SR s8 → Wb g ad d mX9_goOn Q 207 [some (.ref (ad 63)), some (vl x1), none, some (vi x3), some (vi x4), some (vi x5), some (vi x6), some (vi x7), some (vi x8), some (vi x9), some (vi r1), none, none, none, none, none, none] [] s8 rc rs)))) ∧ (¬ (ia s3 61 r3) < 1000000 → (lR x1 → iR x3 → iR x4 → iR x5 → iR x6 → iR x7 → iR x8 → iR x9 → iR r1 → SR s3 → Wb g ad d mX9_goOn Q 207 [some (.ref (ad 63)), some (vl x1), none, some (vi x3), some (vi x4), some (vi x5), some (vi x6), some (vi x7), some (vi x8), some (vi x9), some (vi r1), none, none, none, none, none, none] [] s3 rc rs))))))) ∧ (¬ r1 ≤ (sc s1 58 7) → (lR x1 → iR x3 → iR x4 → iR x5 → iR x6 → iR x7 → iR x8 → iR x9 → iR r1 → SR s1 → Wb g ad d mX9_goOn Q 207 [some (.ref (ad 63)), some (vl x1), none, some (vi x3), some (vi x4), some (vi x5), some (vi x6), some (vi x7), some (vi x8), some (vi x9), some (vi r1), none, none, none, none, none, none] [] s1 rc rs))))))))) : Wb g ad d mX9_goOn Q 33 [some (.ref (ad 63)), some (vl x1), none, some (vi x3), some (vi x4), some (vi x5), some (vi x6), some (vi x7), some (vi x8), some (vi x9), none, none, none, none, none, none, none] [] σ rc rs := by
  refine sb_iload (pc' := 35) rfl rfl dX9_goOn_33 ?_
  refine sb_aload_n (pc' := 36) rfl rfl dX9_goOn_35 ?_
  refine sb_getC (pc' := 39) rfl fc_63_0 wd_469 dX9_goOn_36 ?_
  refine sb_getIN (pc' := 42) rfl fi_48_9 wd_392 dX9_goOn_39 ?_
  refine sb_icmp_ge (pc' := 45) (tgt := 213) rfl (by decide) hx9 (SR_sc hS _ _) dX9_goOn_42 ?_ ?_
  · intro cc; have H := H.1 cc
    exact sb_vret rfl dX9_goOn_213 (H hS)
  · intro cc; have H := H.2 cc
    refine sb_aload_n (pc' := 46) rfl rfl dX9_goOn_45 ?_
    refine sb_getC (pc' := 49) rfl fc_63_0 wd_469 dX9_goOn_46 ?_
    refine sb_iload (pc' := 51) rfl rfl dX9_goOn_49 ?_
    refine sb_iload (pc' := 53) rfl rfl dX9_goOn_51 ?_
    obtain ⟨d1, hd1, H⟩ := H
    refine sb_callVN (pc' := 56) rfl rfl (rc := rc) (rs := rs) (mc' := 0) (ms' := 0) (As := [(vi x9), (vi x7)]) (st := []) of_48 rfl rfl (Nat.le_of_ble_eq_true rfl) hd1 kX5_gap ⟨wd_888, wd_818, wd_22⟩ dX9_goOn_53 (Eb.mono H ?_)
    rintro o s1 ⟨r1, rfl, hr1, hs1, H⟩
    show Wb g ad d mX9_goOn Q 56 [some (.ref (ad 63)), some (vl x1), none, some (vi x3), some (vi x4), some (vi x5), some (vi x6), some (vi x7), some (vi x8), some (vi x9), none, none, none, none, none, none, none] [(vi r1)] s1 rc rs
    refine sb_istore (pc' := 58) rfl (L' := [some (.ref (ad 63)), some (vl x1), none, some (vi x3), some (vi x4), some (vi x5), some (vi x6), some (vi x7), some (vi x8), some (vi x9), some (vi r1), none, none, none, none, none, none]) rfl (by decide) dX9_goOn_56 ?_
    refine sb_iload (pc' := 60) rfl rfl dX9_goOn_58 ?_
    refine sb_aload_n (pc' := 61) rfl rfl dX9_goOn_60 ?_
    refine sb_getC (pc' := 64) rfl fc_63_0 wd_469 dX9_goOn_61 ?_
    refine sb_getCN (pc' := 67) rfl fc_48_2 wd_372 dX9_goOn_64 ?_
    refine sb_iload (pc' := 69) rfl rfl dX9_goOn_67 ?_
    obtain ⟨o2, H⟩ := H
    refine sb_iald (pc' := 70) rfl aI_51 o2.1 o2.2 dX9_goOn_69 ?_
    refine sb_iand (pc' := 71) rfl dX9_goOn_70 ?_
    refine sb_if_ne (pc' := 74) (tgt := 207) rfl (by decide) (iR_b _) dX9_goOn_71 ?_ ?_
    · intro cc; have H := H.1 cc
      exact (H hx1 hx3 hx4 hx5 hx6 hx7 hx8 hx9 hr1 hs1)
    · intro cc; have H := H.2 cc
      refine sb_iload (pc' := 76) rfl rfl dX9_goOn_74 ?_
      refine sb_aload_n (pc' := 77) rfl rfl dX9_goOn_76 ?_
      refine sb_getC (pc' := 80) rfl fc_63_1 wd_470 dX9_goOn_77 ?_
      refine sb_getIN (pc' := 83) rfl fi_58_7 wd_441 dX9_goOn_80 ?_
      refine sb_icmp_le (pc' := 86) (tgt := 89) rfl (by decide) hr1 (SR_sc hs1 _ _) dX9_goOn_83 ?_ ?_
      · intro cc; have H := H.1 cc
        refine sb_aload_n (pc' := 90) rfl rfl dX9_goOn_89 ?_
        refine sb_getC (pc' := 93) rfl fc_63_1 wd_470 dX9_goOn_90 ?_
        refine sb_iload (pc' := 95) rfl rfl dX9_goOn_93 ?_
        refine sb_iload (pc' := 97) rfl rfl dX9_goOn_95 ?_
        refine sb_iload (pc' := 99) rfl rfl dX9_goOn_97 ?_
        obtain ⟨d3, hd3, H⟩ := H
        refine sb_callVN (pc' := 102) rfl rfl (rc := rc) (rs := rs) (mc' := 0) (ms' := 0) (As := [(vi x6), (vi x8), (vi x9)]) (st := []) of_58 rfl rfl (Nat.le_of_ble_eq_true rfl) hd3 kX1_follow ⟨wd_889, wd_825, wd_23⟩ dX9_goOn_99 (Eb.mono H ?_)
        rintro o s3 ⟨r3, rfl, hr3, hs3, H⟩
        show Wb g ad d mX9_goOn Q 102 [some (.ref (ad 63)), some (vl x1), none, some (vi x3), some (vi x4), some (vi x5), some (vi x6), some (vi x7), some (vi x8), some (vi x9), some (vi r1), none, none, none, none, none, none] [(vi r3)] s3 rc rs
        refine sb_istore (pc' := 104) rfl (L' := [some (.ref (ad 63)), some (vl x1), none, some (vi x3), some (vi x4), some (vi x5), some (vi x6), some (vi x7), some (vi x8), some (vi x9), some (vi r1), some (vi r3), none, none, none, none, none]) rfl (by decide) dX9_goOn_102 ?_
        refine sb_iload (pc' := 106) rfl rfl dX9_goOn_104 ?_
        refine sb_if_lt (pc' := 109) (tgt := 207) rfl (by decide) hr3 dX9_goOn_106 ?_ ?_
        · intro cc; have H := H.1 cc
          refine Wb.forget [true, true, false, true, true, true, true, true, true, true, true, false, false, false, false, false, false] ?_
          exact (H hx1 hx3 hx4 hx5 hx6 hx7 hx8 hx9 hr1 hs3)
        · intro cc; have H := H.2 cc
          refine sb_aload_n (pc' := 110) rfl rfl dX9_goOn_109 ?_
          refine sb_getC (pc' := 113) rfl fc_63_1 wd_470 dX9_goOn_110 ?_
          refine sb_getCN (pc' := 116) rfl fc_58_3 wd_434 dX9_goOn_113 ?_
          refine sb_iload (pc' := 118) rfl rfl dX9_goOn_116 ?_
          obtain ⟨o4, H⟩ := H
          refine sb_iald (pc' := 119) rfl aI_61 o4.1 o4.2 dX9_goOn_118 ?_
          refine sb_ldc (pc' := 121) rfl (z := 1000000) rfl wd_890 dX9_goOn_119 ?_
          refine sb_icmp_lt (pc' := 124) (tgt := 127) rfl (by decide) (SR_ia hs3 _ _) (iR_lit rfl) dX9_goOn_121 ?_ ?_
          · intro cc; have H := H.1 cc
            refine sb_iload (pc' := 129) rfl rfl dX9_goOn_127 ?_
            refine sb_aload_n (pc' := 130) rfl rfl dX9_goOn_129 ?_
            refine sb_getC (pc' := 133) rfl fc_63_0 wd_469 dX9_goOn_130 ?_
            refine sb_iload (pc' := 135) rfl rfl dX9_goOn_133 ?_
            refine sb_iload (pc' := 137) rfl rfl dX9_goOn_135 ?_
            obtain ⟨d5, hd5, H⟩ := H
            refine sb_callVN (pc' := 140) rfl rfl (rc := rc) (rs := rs) (mc' := 0) (ms' := 0) (As := [(vi x9), (vi x8)]) (st := [(vi x4)]) of_48 rfl rfl (Nat.le_of_ble_eq_true rfl) hd5 kX5_standing ⟨wd_891, wd_829, wd_24⟩ dX9_goOn_137 (Eb.mono H ?_)
            rintro o s5 ⟨r5, rfl, hr5, hs5, H⟩
            show Wb g ad d mX9_goOn Q 140 [some (.ref (ad 63)), some (vl x1), none, some (vi x3), some (vi x4), some (vi x5), some (vi x6), some (vi x7), some (vi x8), some (vi x9), some (vi r1), some (vi r3), none, none, none, none, none] [(vi r5), (vi x4)] s5 rc rs
            refine sb_iadd (pc' := 141) rfl dX9_goOn_140 ?_
            refine sb_aload_n (pc' := 142) rfl rfl dX9_goOn_141 ?_
            refine sb_getC (pc' := 145) rfl fc_63_1 wd_470 dX9_goOn_142 ?_
            refine sb_getIN (pc' := 148) rfl fi_58_6 wd_439 dX9_goOn_145 ?_
            refine sb_iload (pc' := 150) rfl rfl dX9_goOn_148 ?_
            refine sb_imul (pc' := 151) rfl dX9_goOn_150 ?_
            refine sb_iadd (pc' := 152) rfl dX9_goOn_151 ?_
            refine sb_istore (pc' := 154) rfl (L' := [some (.ref (ad 63)), some (vl x1), none, some (vi x3), some (vi x4), some (vi x5), some (vi x6), some (vi x7), some (vi x8), some (vi x9), some (vi r1), some (vi r3), some (vi ((x4 + r5) + ((sc s5 58 6) * r1))), none, none, none, none]) rfl (by decide) dX9_goOn_152 ?_
            refine sb_iload (pc' := 156) rfl rfl dX9_goOn_154 ?_
            refine sb_iconst (pc' := 157) rfl dX9_goOn_156 ?_
            refine sb_iadd (pc' := 158) rfl dX9_goOn_157 ?_
            obtain ⟨o6, H⟩ := H
            refine sb_i2l (pc' := 159) rfl o6 dX9_goOn_158 ?_
            refine sb_bipush (pc' := 161) rfl (z := 8) (by decide) dX9_goOn_159 ?_
            refine sb_iconst (pc' := 162) rfl dX9_goOn_161 ?_
            refine sb_iload (pc' := 164) rfl rfl dX9_goOn_162 ?_
            refine sb_isub (pc' := 165) rfl dX9_goOn_164 ?_
            refine sb_imul (pc' := 166) rfl dX9_goOn_165 ?_
            refine sb_lshl (pc' := 167) rfl dX9_goOn_166 ?_
            refine sb_lstore (pc' := 169) rfl (L' := [some (.ref (ad 63)), some (vl x1), none, some (vi x3), some (vi x4), some (vi x5), some (vi x6), some (vi x7), some (vi x8), some (vi x9), some (vi r1), some (vi r3), some (vi ((x4 + r5) + ((sc s5 58 6) * r1))), some (vl (lShl (x9 + 1) (8 * (5 - x5)))), none, none, none]) rfl (by decide) dX9_goOn_167 ?_
            refine sb_iload (pc' := 171) rfl rfl dX9_goOn_169 ?_
            refine sb_aload_n (pc' := 172) rfl rfl dX9_goOn_171 ?_
            refine sb_getC (pc' := 175) rfl fc_63_1 wd_470 dX9_goOn_172 ?_
            refine sb_getCN (pc' := 178) rfl fc_58_3 wd_434 dX9_goOn_175 ?_
            refine sb_iload (pc' := 180) rfl rfl dX9_goOn_178 ?_
            refine sb_iald (pc' := 181) rfl aI_61 o4.1 o4.2 dX9_goOn_180 ?_
            refine sb_iadd (pc' := 182) rfl dX9_goOn_181 ?_
            obtain ⟨o7, H⟩ := H
            refine sb_i2l (pc' := 183) rfl o7 dX9_goOn_182 ?_
            refine sb_bipush (pc' := 185) rfl (z := 48) (by decide) dX9_goOn_183 ?_
            refine sb_lshl (pc' := 186) rfl dX9_goOn_185 ?_
            refine sb_lstore (pc' := 188) rfl (L' := [some (.ref (ad 63)), some (vl x1), none, some (vi x3), some (vi x4), some (vi x5), some (vi x6), some (vi x7), some (vi x8), some (vi x9), some (vi r1), some (vi r3), some (vi ((x4 + r5) + ((sc s5 58 6) * r1))), some (vl (lShl (x9 + 1) (8 * (5 - x5)))), none, some (vl (lShl (((x4 + r5) + ((sc s5 58 6) * r1)) + (ia s5 61 r3)) 48)), none]) rfl (by decide) dX9_goOn_186 ?_
            refine sb_aload_n (pc' := 189) rfl rfl dX9_goOn_188 ?_
            refine sb_lload (pc' := 191) rfl rfl dX9_goOn_189 ?_
            refine sb_lload_n (pc' := 192) rfl rfl dX9_goOn_191 ?_
            refine sb_lor (pc' := 193) rfl dX9_goOn_192 ?_
            refine sb_lload (pc' := 195) rfl rfl dX9_goOn_193 ?_
            refine sb_lor (pc' := 196) rfl dX9_goOn_195 ?_
            refine sb_iload (pc' := 198) rfl rfl dX9_goOn_196 ?_
            refine sb_iload (pc' := 200) rfl rfl dX9_goOn_198 ?_
            refine sb_iload (pc' := 202) rfl rfl dX9_goOn_200 ?_
            refine sb_iconst (pc' := 203) rfl dX9_goOn_202 ?_
            refine sb_iadd (pc' := 204) rfl dX9_goOn_203 ?_
            obtain ⟨d8, hd8, H⟩ := H
            refine sb_callV (pc' := 207) rfl rfl (rc := rc) (rs := rs) (mc' := 0) (ms' := 0) (As := [(vl (lOr (lOr (lShl (((x4 + r5) + ((sc s5 58 6) * r1)) + (ia s5 61 r3)) 48) x1) (lShl (x9 + 1) (8 * (5 - x5))))), (vi r3), (vi ((x4 + r5) + ((sc s5 58 6) * r1))), (vi (x5 + 1))]) (st := []) of_63 rfl rfl (Nat.le_of_ble_eq_true rfl) hd8 kX9_enqueue ⟨wd_840, wd_842, wd_27⟩ dX9_goOn_204 (Eb.mono H ?_)
            rintro o s8 ⟨rfl, hs8, H⟩
            show Wb g ad d mX9_goOn Q 207 [some (.ref (ad 63)), some (vl x1), none, some (vi x3), some (vi x4), some (vi x5), some (vi x6), some (vi x7), some (vi x8), some (vi x9), some (vi r1), some (vi r3), some (vi ((x4 + r5) + ((sc s5 58 6) * r1))), some (vl (lShl (x9 + 1) (8 * (5 - x5)))), none, some (vl (lShl (((x4 + r5) + ((sc s5 58 6) * r1)) + (ia s5 61 r3)) 48)), none] [] s8 rc rs
            refine Wb.forget [true, true, false, true, true, true, true, true, true, true, true, false, false, false, false, false, false] ?_
            exact (H hx1 hx3 hx4 hx5 hx6 hx7 hx8 hx9 hr1 hs8)
          · intro cc; have H := H.2 cc
            refine sb_goto (tgt := 207) (by decide) dX9_goOn_124 ?_
            refine Wb.forget [true, true, false, true, true, true, true, true, true, true, true, false, false, false, false, false, false] ?_
            exact (H hx1 hx3 hx4 hx5 hx6 hx7 hx8 hx9 hr1 hs3)
      · intro cc; have H := H.2 cc
        refine sb_goto (tgt := 207) (by decide) dX9_goOn_86 ?_
        exact (H hx1 hx3 hx4 hx5 hx6 hx7 hx8 hx9 hr1 hs1)
theorem bX9_goOn_207 {g : AG} {ad : Nat → Nat} {d : Nat} {Q : AO → SG → Prop} {rc rs : Nat} {σ : SG} {x1 x3 x4 x5 x6 x7 x8 x9 x10 : Int}  (hx1 : lR x1) (hx3 : iR x3) (hx4 : iR x4) (hx5 : iR x5) (hx6 : iR x6) (hx7 : iR x7) (hx8 : iR x8) (hx9 : iR x9) (hx10 : iR x10) (hS : SR σ) (H : iR (x9 + 1) ∧ (lR x1 → iR x3 → iR x4 → iR x5 → iR x6 → iR x7 → iR x8 → iR (x9 + 1) → SR σ → Wb g ad d mX9_goOn Q 33 [some (.ref (ad 63)), some (vl x1), none, some (vi x3), some (vi x4), some (vi x5), some (vi x6), some (vi x7), some (vi x8), some (vi (x9 + 1)), none, none, none, none, none, none, none] [] σ rc rs)) : Wb g ad d mX9_goOn Q 207 [some (.ref (ad 63)), some (vl x1), none, some (vi x3), some (vi x4), some (vi x5), some (vi x6), some (vi x7), some (vi x8), some (vi x9), some (vi x10), none, none, none, none, none, none] [] σ rc rs := by
  refine sb_iinc (pc' := 210) rfl rfl (L' := [some (.ref (ad 63)), some (vl x1), none, some (vi x3), some (vi x4), some (vi x5), some (vi x6), some (vi x7), some (vi x8), some (vi (x9 + 1)), some (vi x10), none, none, none, none, none, none]) rfl (by decide) dX9_goOn_207 ?_
  refine sb_goto (tgt := 33) (by decide) dX9_goOn_210 ?_
  obtain ⟨o1, H⟩ := H
  refine Wb.forget [true, true, false, true, true, true, true, true, true, true, false, false, false, false, false, false, false] ?_
  exact (H hx1 hx3 hx4 hx5 hx6 hx7 hx8 o1 hS)
theorem bX9_enqueue_0 {g : AG} {ad : Nat → Nat} {d : Nat} {Q : AO → SG → Prop} {rc rs : Nat} {σ : SG} {x1 x3 x4 x5 : Int}  (hx1 : lR x1) (hx3 : iR x3) (hx4 : iR x4) (hx5 : iR x5) (hS : SR σ) (H : iR (30 - (sc σ 63 8)) ∧ (((sc σ 63 6) < (30 - (sc σ 63 8)) → (lR x1 → iR x3 → iR x4 → iR x5 → iR (30 - (sc σ 63 8)) → iR (sc σ 63 6) → SR σ → Wb g ad d mX9_enqueue Q 52 [some (.ref (ad 63)), some (vl x1), none, some (vi x3), some (vi x4), some (vi x5), some (vi (30 - (sc σ 63 8))), some (vi (sc σ 63 6))] [] σ rc rs)) ∧ (¬ (sc σ 63 6) < (30 - (sc σ 63 8)) → (((30 - (sc σ 63 8)) ≤ 0 → (SR σ → Q (.inl none) σ)) ∧ (¬ (30 - (sc σ 63 8)) ≤ 0 → (0 ≤ (30 - (sc σ 63 8)) - 1 ∧ (30 - (sc σ 63 8)) - 1 < 30) ∧ (((lCmp x1 (la σ 64 ((30 - (sc σ 63 8)) - 1))) < 0 → iR ((30 - (sc σ 63 8)) - 1) ∧ (lR x1 → iR x3 → iR x4 → iR x5 → iR (30 - (sc σ 63 8)) → iR (sc (setS σ 63 6 ((30 - (sc σ 63 8)) - 1)) 63 6) → SR (setS σ 63 6 ((30 - (sc σ 63 8)) - 1)) → Wb g ad d mX9_enqueue Q 52 [some (.ref (ad 63)), some (vl x1), none, some (vi x3), some (vi x4), some (vi x5), some (vi (30 - (sc σ 63 8))), some (vi (sc (setS σ 63 6 ((30 - (sc σ 63 8)) - 1)) 63 6))] [] (setS σ 63 6 ((30 - (sc σ 63 8)) - 1)) rc rs)) ∧ (¬ (lCmp x1 (la σ 64 ((30 - (sc σ 63 8)) - 1))) < 0 → (SR σ → Q (.inl none) σ)))))))) : Wb g ad d mX9_enqueue Q 0 [some (.ref (ad 63)), some (vl x1), none, some (vi x3), some (vi x4), some (vi x5), none, none] [] σ rc rs := by
  refine sb_bipush (pc' := 2) rfl (z := 30) (by decide) dX9_enqueue_0 ?_
  refine sb_aload_n (pc' := 3) rfl rfl dX9_enqueue_2 ?_
  refine sb_getI (pc' := 6) rfl fi_63_8 wd_477 dX9_enqueue_3 ?_
  refine sb_isub (pc' := 7) rfl dX9_enqueue_6 ?_
  refine sb_istore (pc' := 9) rfl (L' := [some (.ref (ad 63)), some (vl x1), none, some (vi x3), some (vi x4), some (vi x5), some (vi (30 - (sc σ 63 8))), none]) rfl (by decide) dX9_enqueue_7 ?_
  refine sb_aload_n (pc' := 10) rfl rfl dX9_enqueue_9 ?_
  refine sb_getI (pc' := 13) rfl fi_63_6 wd_475 dX9_enqueue_10 ?_
  refine sb_iload (pc' := 15) rfl rfl dX9_enqueue_13 ?_
  obtain ⟨o1, H⟩ := H
  refine sb_icmp_lt (pc' := 18) (tgt := 46) rfl (by decide) (SR_sc hS _ _) o1 dX9_enqueue_15 ?_ ?_
  · intro cc; have H := H.1 cc
    refine sb_aload_n (pc' := 47) rfl rfl dX9_enqueue_46 ?_
    refine sb_getI (pc' := 50) rfl fi_63_6 wd_475 dX9_enqueue_47 ?_
    refine sb_istore (pc' := 52) rfl (L' := [some (.ref (ad 63)), some (vl x1), none, some (vi x3), some (vi x4), some (vi x5), some (vi (30 - (sc σ 63 8))), some (vi (sc σ 63 6))]) rfl (by decide) dX9_enqueue_50 ?_
    exact (H hx1 hx3 hx4 hx5 o1 (SR_sc hS _ _) hS)
  · intro cc; have H := H.2 cc
    refine sb_iload (pc' := 20) rfl rfl dX9_enqueue_18 ?_
    refine sb_if_le (pc' := 23) (tgt := 37) rfl (by decide) o1 dX9_enqueue_20 ?_ ?_
    · intro cc; have H := H.1 cc
      exact sb_vret rfl dX9_enqueue_37 (H hS)
    · intro cc; have H := H.2 cc
      refine sb_lload_n (pc' := 24) rfl rfl dX9_enqueue_23 ?_
      refine sb_aload_n (pc' := 25) rfl rfl dX9_enqueue_24 ?_
      refine sb_getC (pc' := 28) rfl fc_63_2 wd_471 dX9_enqueue_25 ?_
      refine sb_iload (pc' := 30) rfl rfl dX9_enqueue_28 ?_
      refine sb_iconst (pc' := 31) rfl dX9_enqueue_30 ?_
      refine sb_isub (pc' := 32) rfl dX9_enqueue_31 ?_
      obtain ⟨o2, H⟩ := H
      refine sb_lald (pc' := 33) rfl aL_64 o2.1 o2.2 dX9_enqueue_32 ?_
      refine sb_lcmp (pc' := 34) rfl dX9_enqueue_33 ?_
      refine sb_if_lt (pc' := 37) (tgt := 38) rfl (by decide) (iR_b _) dX9_enqueue_34 ?_ ?_
      · intro cc; have H := H.1 cc
        refine sb_aload_n (pc' := 39) rfl rfl dX9_enqueue_38 ?_
        refine sb_iload (pc' := 41) rfl rfl dX9_enqueue_39 ?_
        refine sb_iconst (pc' := 42) rfl dX9_enqueue_41 ?_
        refine sb_isub (pc' := 43) rfl dX9_enqueue_42 ?_
        obtain ⟨o3, H⟩ := H
        refine sb_putI (pc' := 46) rfl fi_63_6 (Or.inl rfl) wd_475 dX9_enqueue_43 ?_
        refine sb_aload_n (pc' := 47) rfl rfl dX9_enqueue_46 ?_
        refine sb_getI (pc' := 50) rfl fi_63_6 wd_475 dX9_enqueue_47 ?_
        refine sb_istore (pc' := 52) rfl (L' := [some (.ref (ad 63)), some (vl x1), none, some (vi x3), some (vi x4), some (vi x5), some (vi (30 - (sc σ 63 8))), some (vi (sc (setS σ 63 6 ((30 - (sc σ 63 8)) - 1)) 63 6))]) rfl (by decide) dX9_enqueue_50 ?_
        exact (H hx1 hx3 hx4 hx5 o1 (SR_sc (SR_setS hS o3) _ _) (SR_setS hS o3))
      · intro cc; have H := H.2 cc
        exact sb_vret rfl dX9_enqueue_37 (H hS)
theorem bX9_enqueue_52 {g : AG} {ad : Nat → Nat} {d : Nat} {Q : AO → SG → Prop} {rc rs : Nat} {σ : SG} {x1 x3 x4 x5 x6 x7 : Int}  (hx1 : lR x1) (hx3 : iR x3) (hx4 : iR x4) (hx5 : iR x5) (hx6 : iR x6) (hx7 : iR x7) (hS : SR σ) (H : ((x7 ≤ 0 → (0 ≤ x7 ∧ x7 < 30) ∧ iR ((sc (setI (setI (setI (setL σ 64 x7 x1) 65 x7 x3) 66 x7 x4) 67 x7 x5) 63 6) + 1) ∧ (SR (setS (setI (setI (setI (setL σ 64 x7 x1) 65 x7 x3) 66 x7 x4) 67 x7 x5) 63 6 ((sc (setI (setI (setI (setL σ 64 x7 x1) 65 x7 x3) 66 x7 x4) 67 x7 x5) 63 6) + 1)) → Q (.inl none) (setS (setI (setI (setI (setL σ 64 x7 x1) 65 x7 x3) 66 x7 x4) 67 x7 x5) 63 6 ((sc (setI (setI (setI (setL σ 64 x7 x1) 65 x7 x3) 66 x7 x4) 67 x7 x5) 63 6) + 1)))) ∧ (¬ x7 ≤ 0 → (0 ≤ x7 - 1 ∧ x7 - 1 < 30) ∧ (((lCmp (la σ 64 (x7 - 1)) x1) ≤ 0 → (0 ≤ x7 ∧ x7 < 30) ∧ iR ((sc (setI (setI (setI (setL σ 64 x7 x1) 65 x7 x3) 66 x7 x4) 67 x7 x5) 63 6) + 1) ∧ (SR (setS (setI (setI (setI (setL σ 64 x7 x1) 65 x7 x3) 66 x7 x4) 67 x7 x5) 63 6 ((sc (setI (setI (setI (setL σ 64 x7 x1) 65 x7 x3) 66 x7 x4) 67 x7 x5) 63 6) + 1)) → Q (.inl none) (setS (setI (setI (setI (setL σ 64 x7 x1) 65 x7 x3) 66 x7 x4) 67 x7 x5) 63 6 ((sc (setI (setI (setI (setL σ 64 x7 x1) 65 x7 x3) 66 x7 x4) 67 x7 x5) 63 6) + 1)))) ∧ (¬ (lCmp (la σ 64 (x7 - 1)) x1) ≤ 0 → (0 ≤ x7 ∧ x7 < 30) ∧ iR (x7 + (-1)) ∧ (lR x1 → iR x3 → iR x4 → iR x5 → iR x6 → iR (x7 + (-1)) → SR (setI (setI (setI (setL σ 64 x7 (la σ 64 (x7 - 1))) 65 x7 (ia (setL σ 64 x7 (la σ 64 (x7 - 1))) 65 (x7 - 1))) 66 x7 (ia (setI (setL σ 64 x7 (la σ 64 (x7 - 1))) 65 x7 (ia (setL σ 64 x7 (la σ 64 (x7 - 1))) 65 (x7 - 1))) 66 (x7 - 1))) 67 x7 (ia (setI (setI (setL σ 64 x7 (la σ 64 (x7 - 1))) 65 x7 (ia (setL σ 64 x7 (la σ 64 (x7 - 1))) 65 (x7 - 1))) 66 x7 (ia (setI (setL σ 64 x7 (la σ 64 (x7 - 1))) 65 x7 (ia (setL σ 64 x7 (la σ 64 (x7 - 1))) 65 (x7 - 1))) 66 (x7 - 1))) 67 (x7 - 1))) → Wb g ad d mX9_enqueue Q 52 [some (.ref (ad 63)), some (vl x1), none, some (vi x3), some (vi x4), some (vi x5), some (vi x6), some (vi (x7 + (-1)))] [] (setI (setI (setI (setL σ 64 x7 (la σ 64 (x7 - 1))) 65 x7 (ia (setL σ 64 x7 (la σ 64 (x7 - 1))) 65 (x7 - 1))) 66 x7 (ia (setI (setL σ 64 x7 (la σ 64 (x7 - 1))) 65 x7 (ia (setL σ 64 x7 (la σ 64 (x7 - 1))) 65 (x7 - 1))) 66 (x7 - 1))) 67 x7 (ia (setI (setI (setL σ 64 x7 (la σ 64 (x7 - 1))) 65 x7 (ia (setL σ 64 x7 (la σ 64 (x7 - 1))) 65 (x7 - 1))) 66 x7 (ia (setI (setL σ 64 x7 (la σ 64 (x7 - 1))) 65 x7 (ia (setL σ 64 x7 (la σ 64 (x7 - 1))) 65 (x7 - 1))) 66 (x7 - 1))) 67 (x7 - 1))) rc rs)))))) : Wb g ad d mX9_enqueue Q 52 [some (.ref (ad 63)), some (vl x1), none, some (vi x3), some (vi x4), some (vi x5), some (vi x6), some (vi x7)] [] σ rc rs := by
  refine sb_iload (pc' := 54) rfl rfl dX9_enqueue_52 ?_
  refine sb_if_le (pc' := 57) (tgt := 141) rfl (by decide) hx7 dX9_enqueue_54 ?_ ?_
  · intro cc; have H := H.1 cc
    refine sb_aload_n (pc' := 142) rfl rfl dX9_enqueue_141 ?_
    refine sb_getC (pc' := 145) rfl fc_63_2 wd_471 dX9_enqueue_142 ?_
    refine sb_iload (pc' := 147) rfl rfl dX9_enqueue_145 ?_
    refine sb_lload_n (pc' := 148) rfl rfl dX9_enqueue_147 ?_
    obtain ⟨o1, H⟩ := H
    refine sb_last (pc' := 149) rfl aL_64 o1.1 o1.2  dX9_enqueue_148 ?_
    refine sb_aload_n (pc' := 150) rfl rfl dX9_enqueue_149 ?_
    refine sb_getC (pc' := 153) rfl fc_63_3 wd_472 dX9_enqueue_150 ?_
    refine sb_iload (pc' := 155) rfl rfl dX9_enqueue_153 ?_
    refine sb_iload_n (pc' := 156) rfl rfl dX9_enqueue_155 ?_
    refine sb_iast (pc' := 157) rfl aI_65 o1.1 o1.2  dX9_enqueue_156 ?_
    refine sb_aload_n (pc' := 158) rfl rfl dX9_enqueue_157 ?_
    refine sb_getC (pc' := 161) rfl fc_63_4 wd_473 dX9_enqueue_158 ?_
    refine sb_iload (pc' := 163) rfl rfl dX9_enqueue_161 ?_
    refine sb_iload (pc' := 165) rfl rfl dX9_enqueue_163 ?_
    refine sb_iast (pc' := 166) rfl aI_66 o1.1 o1.2  dX9_enqueue_165 ?_
    refine sb_aload_n (pc' := 167) rfl rfl dX9_enqueue_166 ?_
    refine sb_getC (pc' := 170) rfl fc_63_5 wd_474 dX9_enqueue_167 ?_
    refine sb_iload (pc' := 172) rfl rfl dX9_enqueue_170 ?_
    refine sb_iload (pc' := 174) rfl rfl dX9_enqueue_172 ?_
    refine sb_iast (pc' := 175) rfl aI_67 o1.1 o1.2  dX9_enqueue_174 ?_
    refine sb_aload_n (pc' := 176) rfl rfl dX9_enqueue_175 ?_
    refine sb_dup (pc' := 177) rfl rfl dX9_enqueue_176 ?_
    refine sb_getI (pc' := 180) rfl fi_63_6 wd_475 dX9_enqueue_177 ?_
    refine sb_iconst (pc' := 181) rfl dX9_enqueue_180 ?_
    refine sb_iadd (pc' := 182) rfl dX9_enqueue_181 ?_
    obtain ⟨o2, H⟩ := H
    refine sb_putI (pc' := 185) rfl fi_63_6 (Or.inl rfl) wd_475 dX9_enqueue_182 ?_
    exact sb_vret rfl dX9_enqueue_185 (H (SR_setS (SR_setI (SR_setI (SR_setI (SR_setL hS hx1) hx3) hx4) hx5) o2))
  · intro cc; have H := H.2 cc
    refine sb_aload_n (pc' := 58) rfl rfl dX9_enqueue_57 ?_
    refine sb_getC (pc' := 61) rfl fc_63_2 wd_471 dX9_enqueue_58 ?_
    refine sb_iload (pc' := 63) rfl rfl dX9_enqueue_61 ?_
    refine sb_iconst (pc' := 64) rfl dX9_enqueue_63 ?_
    refine sb_isub (pc' := 65) rfl dX9_enqueue_64 ?_
    obtain ⟨o3, H⟩ := H
    refine sb_lald (pc' := 66) rfl aL_64 o3.1 o3.2 dX9_enqueue_65 ?_
    refine sb_lload_n (pc' := 67) rfl rfl dX9_enqueue_66 ?_
    refine sb_lcmp (pc' := 68) rfl dX9_enqueue_67 ?_
    refine sb_if_le (pc' := 71) (tgt := 141) rfl (by decide) (iR_b _) dX9_enqueue_68 ?_ ?_
    · intro cc; have H := H.1 cc
      refine sb_aload_n (pc' := 142) rfl rfl dX9_enqueue_141 ?_
      refine sb_getC (pc' := 145) rfl fc_63_2 wd_471 dX9_enqueue_142 ?_
      refine sb_iload (pc' := 147) rfl rfl dX9_enqueue_145 ?_
      refine sb_lload_n (pc' := 148) rfl rfl dX9_enqueue_147 ?_
      obtain ⟨o4, H⟩ := H
      refine sb_last (pc' := 149) rfl aL_64 o4.1 o4.2  dX9_enqueue_148 ?_
      refine sb_aload_n (pc' := 150) rfl rfl dX9_enqueue_149 ?_
      refine sb_getC (pc' := 153) rfl fc_63_3 wd_472 dX9_enqueue_150 ?_
      refine sb_iload (pc' := 155) rfl rfl dX9_enqueue_153 ?_
      refine sb_iload_n (pc' := 156) rfl rfl dX9_enqueue_155 ?_
      refine sb_iast (pc' := 157) rfl aI_65 o4.1 o4.2  dX9_enqueue_156 ?_
      refine sb_aload_n (pc' := 158) rfl rfl dX9_enqueue_157 ?_
      refine sb_getC (pc' := 161) rfl fc_63_4 wd_473 dX9_enqueue_158 ?_
      refine sb_iload (pc' := 163) rfl rfl dX9_enqueue_161 ?_
      refine sb_iload (pc' := 165) rfl rfl dX9_enqueue_163 ?_
      refine sb_iast (pc' := 166) rfl aI_66 o4.1 o4.2  dX9_enqueue_165 ?_
      refine sb_aload_n (pc' := 167) rfl rfl dX9_enqueue_166 ?_
      refine sb_getC (pc' := 170) rfl fc_63_5 wd_474 dX9_enqueue_167 ?_
      refine sb_iload (pc' := 172) rfl rfl dX9_enqueue_170 ?_
      refine sb_iload (pc' := 174) rfl rfl dX9_enqueue_172 ?_
      refine sb_iast (pc' := 175) rfl aI_67 o4.1 o4.2  dX9_enqueue_174 ?_
      refine sb_aload_n (pc' := 176) rfl rfl dX9_enqueue_175 ?_
      refine sb_dup (pc' := 177) rfl rfl dX9_enqueue_176 ?_
      refine sb_getI (pc' := 180) rfl fi_63_6 wd_475 dX9_enqueue_177 ?_
      refine sb_iconst (pc' := 181) rfl dX9_enqueue_180 ?_
      refine sb_iadd (pc' := 182) rfl dX9_enqueue_181 ?_
      obtain ⟨o5, H⟩ := H
      refine sb_putI (pc' := 185) rfl fi_63_6 (Or.inl rfl) wd_475 dX9_enqueue_182 ?_
      exact sb_vret rfl dX9_enqueue_185 (H (SR_setS (SR_setI (SR_setI (SR_setI (SR_setL hS hx1) hx3) hx4) hx5) o5))
    · intro cc; have H := H.2 cc
      refine sb_aload_n (pc' := 72) rfl rfl dX9_enqueue_71 ?_
      refine sb_getC (pc' := 75) rfl fc_63_2 wd_471 dX9_enqueue_72 ?_
      refine sb_iload (pc' := 77) rfl rfl dX9_enqueue_75 ?_
      refine sb_aload_n (pc' := 78) rfl rfl dX9_enqueue_77 ?_
      refine sb_getC (pc' := 81) rfl fc_63_2 wd_471 dX9_enqueue_78 ?_
      refine sb_iload (pc' := 83) rfl rfl dX9_enqueue_81 ?_
      refine sb_iconst (pc' := 84) rfl dX9_enqueue_83 ?_
      refine sb_isub (pc' := 85) rfl dX9_enqueue_84 ?_
      refine sb_lald (pc' := 86) rfl aL_64 o3.1 o3.2 dX9_enqueue_85 ?_
      obtain ⟨o6, H⟩ := H
      refine sb_last (pc' := 87) rfl aL_64 o6.1 o6.2  dX9_enqueue_86 ?_
      refine sb_aload_n (pc' := 88) rfl rfl dX9_enqueue_87 ?_
      refine sb_getC (pc' := 91) rfl fc_63_3 wd_472 dX9_enqueue_88 ?_
      refine sb_iload (pc' := 93) rfl rfl dX9_enqueue_91 ?_
      refine sb_aload_n (pc' := 94) rfl rfl dX9_enqueue_93 ?_
      refine sb_getC (pc' := 97) rfl fc_63_3 wd_472 dX9_enqueue_94 ?_
      refine sb_iload (pc' := 99) rfl rfl dX9_enqueue_97 ?_
      refine sb_iconst (pc' := 100) rfl dX9_enqueue_99 ?_
      refine sb_isub (pc' := 101) rfl dX9_enqueue_100 ?_
      refine sb_iald (pc' := 102) rfl aI_65 o3.1 o3.2 dX9_enqueue_101 ?_
      refine sb_iast (pc' := 103) rfl aI_65 o6.1 o6.2  dX9_enqueue_102 ?_
      refine sb_aload_n (pc' := 104) rfl rfl dX9_enqueue_103 ?_
      refine sb_getC (pc' := 107) rfl fc_63_4 wd_473 dX9_enqueue_104 ?_
      refine sb_iload (pc' := 109) rfl rfl dX9_enqueue_107 ?_
      refine sb_aload_n (pc' := 110) rfl rfl dX9_enqueue_109 ?_
      refine sb_getC (pc' := 113) rfl fc_63_4 wd_473 dX9_enqueue_110 ?_
      refine sb_iload (pc' := 115) rfl rfl dX9_enqueue_113 ?_
      refine sb_iconst (pc' := 116) rfl dX9_enqueue_115 ?_
      refine sb_isub (pc' := 117) rfl dX9_enqueue_116 ?_
      refine sb_iald (pc' := 118) rfl aI_66 o3.1 o3.2 dX9_enqueue_117 ?_
      refine sb_iast (pc' := 119) rfl aI_66 o6.1 o6.2  dX9_enqueue_118 ?_
      refine sb_aload_n (pc' := 120) rfl rfl dX9_enqueue_119 ?_
      refine sb_getC (pc' := 123) rfl fc_63_5 wd_474 dX9_enqueue_120 ?_
      refine sb_iload (pc' := 125) rfl rfl dX9_enqueue_123 ?_
      refine sb_aload_n (pc' := 126) rfl rfl dX9_enqueue_125 ?_
      refine sb_getC (pc' := 129) rfl fc_63_5 wd_474 dX9_enqueue_126 ?_
      refine sb_iload (pc' := 131) rfl rfl dX9_enqueue_129 ?_
      refine sb_iconst (pc' := 132) rfl dX9_enqueue_131 ?_
      refine sb_isub (pc' := 133) rfl dX9_enqueue_132 ?_
      refine sb_iald (pc' := 134) rfl aI_67 o3.1 o3.2 dX9_enqueue_133 ?_
      refine sb_iast (pc' := 135) rfl aI_67 o6.1 o6.2  dX9_enqueue_134 ?_
      refine sb_iinc (pc' := 138) rfl rfl (L' := [some (.ref (ad 63)), some (vl x1), none, some (vi x3), some (vi x4), some (vi x5), some (vi x6), some (vi (x7 + (-1)))]) rfl (by decide) dX9_enqueue_135 ?_
      refine sb_goto (tgt := 52) (by decide) dX9_enqueue_138 ?_
      obtain ⟨o7, H⟩ := H
      exact (H hx1 hx3 hx4 hx5 hx6 o7 (SR_setI (SR_setI (SR_setI (SR_setL hS (SR_la hS _ _)) (SR_ia (SR_setL hS (SR_la hS _ _)) _ _)) (SR_ia (SR_setI (SR_setL hS (SR_la hS _ _)) (SR_ia (SR_setL hS (SR_la hS _ _)) _ _)) _ _)) (SR_ia (SR_setI (SR_setI (SR_setL hS (SR_la hS _ _)) (SR_ia (SR_setL hS (SR_la hS _ _)) _ _)) (SR_ia (SR_setI (SR_setL hS (SR_la hS _ _)) (SR_ia (SR_setL hS (SR_la hS _ _)) _ _)) _ _)) _ _)))
theorem bX10_feed_0 {g : AG} {ad : Nat → Nat} {d : Nat} {Q : AO → SG → Prop} {rc rs : Nat} {σ : SG} {x1 x2 x3 x4 x5 : Int}  (hx1 : iR x1) (hx2 : iR x2) (hx3 : iR x3) (hx4 : iR x4) (hx5 : iR x5) (hS : SR σ) (H : iR ((sc σ 37 1) + 20) ∧ ((((sc σ 37 1) + 20) ≤ 400 → Cl g ad d mX6_append 0 0 [(.ref (ad 37)), (vi x1)] σ (Kv fun s2 => Cl g ad d mX6_append 0 0 [(.ref (ad 37)), (vi x2)] s2 (Kv fun s3 => Cl g ad d mX6_append 0 0 [(.ref (ad 37)), (vi x3)] s3 (Kv fun s4 => Cl g ad d mX6_append 0 0 [(.ref (ad 37)), (vi x4)] s4 (Kv fun s5 => Cl g ad d mX6_append 0 0 [(.ref (ad 37)), (vi x5)] s5 (Kv fun s6 => (iR (sc s6 37 1) → SR s6 → Q (.inl (some (vi (sc s6 37 1)))) s6))))))) ∧ (¬ ((sc σ 37 1) + 20) ≤ 400 → (iR ((-1)) → SR σ → Q (.inl (some (vi ((-1))))) σ)))) : Wb g ad d mX10_feed Q 0 [some (.ref (ad 0)), some (vi x1), some (vi x2), some (vi x3), some (vi x4), some (vi x5)] [] σ rc rs := by
  refine sb_aload_n (pc' := 1) rfl rfl dX10_feed_0 ?_
  refine sb_getC (pc' := 4) rfl fc_0_3 wd_645 dX10_feed_1 ?_
  refine sb_getIN (pc' := 7) rfl fi_37_1 wd_282 dX10_feed_4 ?_
  refine sb_bipush (pc' := 9) rfl (z := 20) (by decide) dX10_feed_7 ?_
  refine sb_iadd (pc' := 10) rfl dX10_feed_9 ?_
  refine sb_sipush (pc' := 13) rfl (z := 400) (by decide) dX10_feed_10 ?_
  obtain ⟨o1, H⟩ := H
  refine sb_icmp_le (pc' := 16) (tgt := 18) rfl (by decide) o1 (iR_lit rfl) dX10_feed_13 ?_ ?_
  · intro cc; have H := H.1 cc
    refine sb_aload_n (pc' := 19) rfl rfl dX10_feed_18 ?_
    refine sb_getC (pc' := 22) rfl fc_0_3 wd_645 dX10_feed_19 ?_
    refine sb_iload_n (pc' := 23) rfl rfl dX10_feed_22 ?_
    obtain ⟨d2, hd2, H⟩ := H
    refine sb_callVN (pc' := 26) rfl rfl (rc := rc) (rs := rs) (mc' := 0) (ms' := 0) (As := [(vi x1)]) (st := []) of_37 rfl rfl (Nat.le_of_ble_eq_true rfl) hd2 kX6_append ⟨wd_692, wd_694, wd_0⟩ dX10_feed_23 (Eb.mono H ?_)
    rintro o s2 ⟨rfl, hs2, H⟩
    show Wb g ad d mX10_feed Q 26 [some (.ref (ad 0)), some (vi x1), some (vi x2), some (vi x3), some (vi x4), some (vi x5)] [] s2 rc rs
    refine sb_aload_n (pc' := 27) rfl rfl dX10_feed_26 ?_
    refine sb_getC (pc' := 30) rfl fc_0_3 wd_645 dX10_feed_27 ?_
    refine sb_iload_n (pc' := 31) rfl rfl dX10_feed_30 ?_
    obtain ⟨d3, hd3, H⟩ := H
    refine sb_callVN (pc' := 34) rfl rfl (rc := rc) (rs := rs) (mc' := 0) (ms' := 0) (As := [(vi x2)]) (st := []) of_37 rfl rfl (Nat.le_of_ble_eq_true rfl) hd3 kX6_append ⟨wd_692, wd_694, wd_0⟩ dX10_feed_31 (Eb.mono H ?_)
    rintro o s3 ⟨rfl, hs3, H⟩
    show Wb g ad d mX10_feed Q 34 [some (.ref (ad 0)), some (vi x1), some (vi x2), some (vi x3), some (vi x4), some (vi x5)] [] s3 rc rs
    refine sb_aload_n (pc' := 35) rfl rfl dX10_feed_34 ?_
    refine sb_getC (pc' := 38) rfl fc_0_3 wd_645 dX10_feed_35 ?_
    refine sb_iload_n (pc' := 39) rfl rfl dX10_feed_38 ?_
    obtain ⟨d4, hd4, H⟩ := H
    refine sb_callVN (pc' := 42) rfl rfl (rc := rc) (rs := rs) (mc' := 0) (ms' := 0) (As := [(vi x3)]) (st := []) of_37 rfl rfl (Nat.le_of_ble_eq_true rfl) hd4 kX6_append ⟨wd_692, wd_694, wd_0⟩ dX10_feed_39 (Eb.mono H ?_)
    rintro o s4 ⟨rfl, hs4, H⟩
    show Wb g ad d mX10_feed Q 42 [some (.ref (ad 0)), some (vi x1), some (vi x2), some (vi x3), some (vi x4), some (vi x5)] [] s4 rc rs
    refine sb_aload_n (pc' := 43) rfl rfl dX10_feed_42 ?_
    refine sb_getC (pc' := 46) rfl fc_0_3 wd_645 dX10_feed_43 ?_
    refine sb_iload (pc' := 48) rfl rfl dX10_feed_46 ?_
    obtain ⟨d5, hd5, H⟩ := H
    refine sb_callVN (pc' := 51) rfl rfl (rc := rc) (rs := rs) (mc' := 0) (ms' := 0) (As := [(vi x4)]) (st := []) of_37 rfl rfl (Nat.le_of_ble_eq_true rfl) hd5 kX6_append ⟨wd_692, wd_694, wd_0⟩ dX10_feed_48 (Eb.mono H ?_)
    rintro o s5 ⟨rfl, hs5, H⟩
    show Wb g ad d mX10_feed Q 51 [some (.ref (ad 0)), some (vi x1), some (vi x2), some (vi x3), some (vi x4), some (vi x5)] [] s5 rc rs
    refine sb_aload_n (pc' := 52) rfl rfl dX10_feed_51 ?_
    refine sb_getC (pc' := 55) rfl fc_0_3 wd_645 dX10_feed_52 ?_
    refine sb_iload (pc' := 57) rfl rfl dX10_feed_55 ?_
    obtain ⟨d6, hd6, H⟩ := H
    refine sb_callVN (pc' := 60) rfl rfl (rc := rc) (rs := rs) (mc' := 0) (ms' := 0) (As := [(vi x5)]) (st := []) of_37 rfl rfl (Nat.le_of_ble_eq_true rfl) hd6 kX6_append ⟨wd_692, wd_694, wd_0⟩ dX10_feed_57 (Eb.mono H ?_)
    rintro o s6 ⟨rfl, hs6, H⟩
    show Wb g ad d mX10_feed Q 60 [some (.ref (ad 0)), some (vi x1), some (vi x2), some (vi x3), some (vi x4), some (vi x5)] [] s6 rc rs
    refine sb_aload_n (pc' := 61) rfl rfl dX10_feed_60 ?_
    refine sb_getC (pc' := 64) rfl fc_0_3 wd_645 dX10_feed_61 ?_
    refine sb_getIN (pc' := 67) rfl fi_37_1 wd_282 dX10_feed_64 ?_
    exact sb_iret rfl rfl dX10_feed_67 (H (SR_sc hs6 _ _) hs6)
  · intro cc; have H := H.2 cc
    refine sb_iconst (pc' := 17) rfl dX10_feed_16 ?_
    exact sb_iret rfl rfl dX10_feed_17 (H (iR_lit rfl) hS)
theorem bX10_end_0 {g : AG} {ad : Nat → Nat} {d : Nat} {Q : AO → SG → Prop} {rc rs : Nat} {σ : SG} {x1 : Int}  (hx1 : iR x1) (hS : SR σ) (H : ((x1 < 0 → (iR 0 → SR σ → Q (.inl (some (vi 0))) σ)) ∧ (¬ x1 < 0 → ((x1 ≤ (sc σ 37 1) → (iR 1 → SR (setS σ 37 1 x1) → Q (.inl (some (vi 1))) (setS σ 37 1 x1))) ∧ (¬ x1 ≤ (sc σ 37 1) → (iR 0 → SR σ → Q (.inl (some (vi 0))) σ)))))) : Wb g ad d mX10_end Q 0 [some (.ref (ad 0)), some (vi x1)] [] σ rc rs := by
  refine sb_iload_n (pc' := 1) rfl rfl dX10_end_0 ?_
  refine sb_if_lt (pc' := 4) (tgt := 15) rfl (by decide) hx1 dX10_end_1 ?_ ?_
  · intro cc; have H := H.1 cc
    refine sb_iconst (pc' := 16) rfl dX10_end_15 ?_
    exact sb_iret rfl (nar_z2 (Or.inl rfl)) dX10_end_16 (H (iR_lit rfl) hS)
  · intro cc; have H := H.2 cc
    refine sb_iload_n (pc' := 5) rfl rfl dX10_end_4 ?_
    refine sb_aload_n (pc' := 6) rfl rfl dX10_end_5 ?_
    refine sb_getC (pc' := 9) rfl fc_0_3 wd_645 dX10_end_6 ?_
    refine sb_getIN (pc' := 12) rfl fi_37_1 wd_282 dX10_end_9 ?_
    refine sb_icmp_le (pc' := 15) (tgt := 17) rfl (by decide) hx1 (SR_sc hS _ _) dX10_end_12 ?_ ?_
    · intro cc; have H := H.1 cc
      refine sb_aload_n (pc' := 18) rfl rfl dX10_end_17 ?_
      refine sb_getC (pc' := 21) rfl fc_0_3 wd_645 dX10_end_18 ?_
      refine sb_iload_n (pc' := 22) rfl rfl dX10_end_21 ?_
      refine sb_putIN (pc' := 25) rfl fi_37_1 (Or.inl rfl) wd_282 dX10_end_22 ?_
      refine sb_iconst (pc' := 26) rfl dX10_end_25 ?_
      exact sb_iret rfl (nar_z2 (Or.inr rfl)) dX10_end_26 (H (iR_lit rfl) (SR_setS hS hx1))
    · intro cc; have H := H.2 cc
      refine sb_iconst (pc' := 16) rfl dX10_end_15 ?_
      exact sb_iret rfl (nar_z2 (Or.inl rfl)) dX10_end_16 (H (iR_lit rfl) hS)
theorem bX10_book_0 {g : AG} {ad : Nat → Nat} {d : Nat} {Q : AO → SG → Prop} {rc rs : Nat} {σ : SG}    (hS : SR σ) (H : isK (rv σ 0 2) ∧ isK (rv σ 0 1) ∧ Cl g ad d mX2_copy 0 0 [(.ref (ad (rv σ 0 2))), (.ref (ad (rv σ 0 1)))] σ (Kv fun s3 => isK (rv s3 0 2) ∧ Cl g ad d mX6_readBook 0 0 [(.ref (ad 37)), (.ref (ad (rv s3 0 2)))] s3 (Kv fun s5 => isK (rv s5 0 2) ∧ Cl g ad d mX2_enterBook 0 0 [(.ref (ad (rv s5 0 2))), (.ref (ad 37))] s5 (Ki fun r7 s7 => Cl g ad d mX10_checkText 1 6 [(.ref (ad 0))] (setS s7 37 1 0) (Kx (Kv fun s8 => Cl g ad d mX10_keepDraft 0 0 [(.ref (ad 0))] s8 (Kv fun s9 => (iR r7 → SR s9 → Q (.inl (some (vi r7))) s9))) (fun E s8 => SR s8 → Q (.inr E) s8)))))) : Wb g ad d mX10_book Q 0 [some (.ref (ad 0)), none] [] σ (rc + 1) (rs + 6) := by
  refine sb_aload_n (pc' := 1) rfl rfl dX10_book_0 ?_
  obtain ⟨o1, H⟩ := H
  refine sb_getR (pc' := 4) rfl fr_0_2 wd_644 dX10_book_1 ?_
  refine sb_aload_n (pc' := 5) rfl rfl dX10_book_4 ?_
  obtain ⟨o2, H⟩ := H
  refine sb_getR (pc' := 8) rfl fr_0_1 wd_643 dX10_book_5 ?_
  obtain ⟨d3, hd3, H⟩ := H
  refine sb_callVN (pc' := 11) rfl rfl (rc := (rc + 1)) (rs := (rs + 6)) (mc' := 0) (ms' := 0) (As := [(.ref (ad (rv σ 0 1)))]) (st := []) (ofK o1) rfl rfl (Nat.le_of_ble_eq_true rfl) hd3 kX2_copy ⟨wd_970, wd_972, wd_46⟩ dX10_book_8 (Eb.mono H ?_)
  rintro o s3 ⟨rfl, hs3, H⟩
  show Wb g ad d mX10_book Q 11 [some (.ref (ad 0)), none] [] s3 (rc + 1) (rs + 6)
  refine sb_aload_n (pc' := 12) rfl rfl dX10_book_11 ?_
  refine sb_getC (pc' := 15) rfl fc_0_3 wd_645 dX10_book_12 ?_
  refine sb_aload_n (pc' := 16) rfl rfl dX10_book_15 ?_
  obtain ⟨o4, H⟩ := H
  refine sb_getR (pc' := 19) rfl fr_0_2 wd_644 dX10_book_16 ?_
  obtain ⟨d5, hd5, H⟩ := H
  refine sb_callVN (pc' := 22) rfl rfl (rc := (rc + 1)) (rs := (rs + 6)) (mc' := 0) (ms' := 0) (As := [(.ref (ad (rv s3 0 2)))]) (st := []) of_37 rfl rfl (Nat.le_of_ble_eq_true rfl) hd5 kX6_readBook ⟨wd_1003, wd_1005, wd_50⟩ dX10_book_19 (Eb.mono H ?_)
  rintro o s5 ⟨rfl, hs5, H⟩
  show Wb g ad d mX10_book Q 22 [some (.ref (ad 0)), none] [] s5 (rc + 1) (rs + 6)
  refine sb_aload_n (pc' := 23) rfl rfl dX10_book_22 ?_
  obtain ⟨o6, H⟩ := H
  refine sb_getR (pc' := 26) rfl fr_0_2 wd_644 dX10_book_23 ?_
  refine sb_aload_n (pc' := 27) rfl rfl dX10_book_26 ?_
  refine sb_getC (pc' := 30) rfl fc_0_3 wd_645 dX10_book_27 ?_
  obtain ⟨d7, hd7, H⟩ := H
  refine sb_callVN (pc' := 33) rfl rfl (rc := (rc + 1)) (rs := (rs + 6)) (mc' := 0) (ms' := 0) (As := [(.ref (ad 37))]) (st := []) (ofK o6) rfl rfl (Nat.le_of_ble_eq_true rfl) hd7 kX2_enterBook ⟨wd_1067, wd_1069, wd_66⟩ dX10_book_30 (Eb.mono H ?_)
  rintro o s7 ⟨r7, rfl, hr7, hs7, H⟩
  show Wb g ad d mX10_book Q 33 [some (.ref (ad 0)), none] [(vi r7)] s7 (rc + 1) (rs + 6)
  refine sb_istore_n (pc' := 34) rfl (L' := [some (.ref (ad 0)), some (vi r7)]) rfl (by decide) dX10_book_33 ?_
  refine sb_aload_n (pc' := 35) rfl rfl dX10_book_34 ?_
  refine sb_getC (pc' := 38) rfl fc_0_3 wd_645 dX10_book_35 ?_
  refine sb_iconst (pc' := 39) rfl dX10_book_38 ?_
  refine sb_putIN (pc' := 42) rfl fi_37_1 (Or.inl rfl) wd_282 dX10_book_39 ?_
  refine sb_aload_n (pc' := 43) rfl rfl dX10_book_42 ?_
  obtain ⟨d8, hd8, H⟩ := H
  refine sb_callV (pc' := 46) rfl rfl (rc := rc) (rs := rs) (mc' := 1) (ms' := 6) (As := []) (st := []) of_0 rfl rfl (Nat.le_of_ble_eq_true rfl) hd8 kX10_checkText ⟨wd_1081, wd_1083, wd_69⟩ dX10_book_43 (Eb.mono H ?_)
  rintro o s8 (⟨rfl, hs8, H⟩ | ⟨E, rfl, hs8, H⟩)
  case inr => exact H hs8
  show Wb g ad d mX10_book Q 46 [some (.ref (ad 0)), some (vi r7)] [] s8 rc rs
  refine sb_aload_n (pc' := 47) rfl rfl dX10_book_46 ?_
  obtain ⟨d9, hd9, H⟩ := H
  refine sb_callV (pc' := 50) rfl rfl (rc := rc) (rs := rs) (mc' := 0) (ms' := 0) (As := []) (st := []) of_0 rfl rfl (Nat.le_of_ble_eq_true rfl) hd9 kX10_keepDraft ⟨wd_1155, wd_1157, wd_71⟩ dX10_book_47 (Eb.mono H ?_)
  rintro o s9 ⟨rfl, hs9, H⟩
  show Wb g ad d mX10_book Q 50 [some (.ref (ad 0)), some (vi r7)] [] s9 rc rs
  refine sb_iload_n (pc' := 51) rfl rfl dX10_book_50 ?_
  exact sb_iret rfl rfl dX10_book_51 (H hr7 hs9)
theorem bX10_fluency_0 {g : AG} {ad : Nat → Nat} {d : Nat} {Q : AO → SG → Prop} {rc rs : Nat} {σ : SG}    (hS : SR σ) (H : isK (rv σ 0 2) ∧ isK (rv σ 0 1) ∧ Cl g ad d mX2_copy 0 0 [(.ref (ad (rv σ 0 2))), (.ref (ad (rv σ 0 1)))] σ (Kv fun s3 => isK (rv s3 0 2) ∧ Cl g ad d mX6_readFluency 0 0 [(.ref (ad 37)), (.ref (ad (rv s3 0 2)))] s3 (Kv fun s5 => isK (rv s5 0 2) ∧ Cl g ad d mX2_enterFluency 0 0 [(.ref (ad (rv s5 0 2))), (.ref (ad 37))] s5 (Kv fun s7 => Cl g ad d mX10_checkText 1 6 [(.ref (ad 0))] (setS s7 37 1 0) (Kx (Kv fun s8 => Cl g ad d mX10_keepDraft 0 0 [(.ref (ad 0))] s8 (Kv fun s9 => isK (rv s9 0 1) ∧ (iR (sc s9 (rv s9 0 1) 11) → SR s9 → Q (.inl (some (vi (sc s9 (rv s9 0 1) 11)))) s9))) (fun E s8 => SR s8 → Q (.inr E) s8)))))) : Wb g ad d mX10_fluency Q 0 [some (.ref (ad 0))] [] σ (rc + 1) (rs + 6) := by
  refine sb_aload_n (pc' := 1) rfl rfl dX10_fluency_0 ?_
  obtain ⟨o1, H⟩ := H
  refine sb_getR (pc' := 4) rfl fr_0_2 wd_644 dX10_fluency_1 ?_
  refine sb_aload_n (pc' := 5) rfl rfl dX10_fluency_4 ?_
  obtain ⟨o2, H⟩ := H
  refine sb_getR (pc' := 8) rfl fr_0_1 wd_643 dX10_fluency_5 ?_
  obtain ⟨d3, hd3, H⟩ := H
  refine sb_callVN (pc' := 11) rfl rfl (rc := (rc + 1)) (rs := (rs + 6)) (mc' := 0) (ms' := 0) (As := [(.ref (ad (rv σ 0 1)))]) (st := []) (ofK o1) rfl rfl (Nat.le_of_ble_eq_true rfl) hd3 kX2_copy ⟨wd_970, wd_972, wd_46⟩ dX10_fluency_8 (Eb.mono H ?_)
  rintro o s3 ⟨rfl, hs3, H⟩
  show Wb g ad d mX10_fluency Q 11 [some (.ref (ad 0))] [] s3 (rc + 1) (rs + 6)
  refine sb_aload_n (pc' := 12) rfl rfl dX10_fluency_11 ?_
  refine sb_getC (pc' := 15) rfl fc_0_3 wd_645 dX10_fluency_12 ?_
  refine sb_aload_n (pc' := 16) rfl rfl dX10_fluency_15 ?_
  obtain ⟨o4, H⟩ := H
  refine sb_getR (pc' := 19) rfl fr_0_2 wd_644 dX10_fluency_16 ?_
  obtain ⟨d5, hd5, H⟩ := H
  refine sb_callVN (pc' := 22) rfl rfl (rc := (rc + 1)) (rs := (rs + 6)) (mc' := 0) (ms' := 0) (As := [(.ref (ad (rv s3 0 2)))]) (st := []) of_37 rfl rfl (Nat.le_of_ble_eq_true rfl) hd5 kX6_readFluency ⟨wd_1166, wd_1168, wd_72⟩ dX10_fluency_19 (Eb.mono H ?_)
  rintro o s5 ⟨rfl, hs5, H⟩
  show Wb g ad d mX10_fluency Q 22 [some (.ref (ad 0))] [] s5 (rc + 1) (rs + 6)
  refine sb_aload_n (pc' := 23) rfl rfl dX10_fluency_22 ?_
  obtain ⟨o6, H⟩ := H
  refine sb_getR (pc' := 26) rfl fr_0_2 wd_644 dX10_fluency_23 ?_
  refine sb_aload_n (pc' := 27) rfl rfl dX10_fluency_26 ?_
  refine sb_getC (pc' := 30) rfl fc_0_3 wd_645 dX10_fluency_27 ?_
  obtain ⟨d7, hd7, H⟩ := H
  refine sb_callVN (pc' := 33) rfl rfl (rc := (rc + 1)) (rs := (rs + 6)) (mc' := 0) (ms' := 0) (As := [(.ref (ad 37))]) (st := []) (ofK o6) rfl rfl (Nat.le_of_ble_eq_true rfl) hd7 kX2_enterFluency ⟨wd_1174, wd_1176, wd_74⟩ dX10_fluency_30 (Eb.mono H ?_)
  rintro o s7 ⟨rfl, hs7, H⟩
  show Wb g ad d mX10_fluency Q 33 [some (.ref (ad 0))] [] s7 (rc + 1) (rs + 6)
  refine sb_aload_n (pc' := 34) rfl rfl dX10_fluency_33 ?_
  refine sb_getC (pc' := 37) rfl fc_0_3 wd_645 dX10_fluency_34 ?_
  refine sb_iconst (pc' := 38) rfl dX10_fluency_37 ?_
  refine sb_putIN (pc' := 41) rfl fi_37_1 (Or.inl rfl) wd_282 dX10_fluency_38 ?_
  refine sb_aload_n (pc' := 42) rfl rfl dX10_fluency_41 ?_
  obtain ⟨d8, hd8, H⟩ := H
  refine sb_callV (pc' := 45) rfl rfl (rc := rc) (rs := rs) (mc' := 1) (ms' := 6) (As := []) (st := []) of_0 rfl rfl (Nat.le_of_ble_eq_true rfl) hd8 kX10_checkText ⟨wd_1081, wd_1083, wd_69⟩ dX10_fluency_42 (Eb.mono H ?_)
  rintro o s8 (⟨rfl, hs8, H⟩ | ⟨E, rfl, hs8, H⟩)
  case inr => exact H hs8
  show Wb g ad d mX10_fluency Q 45 [some (.ref (ad 0))] [] s8 rc rs
  refine sb_aload_n (pc' := 46) rfl rfl dX10_fluency_45 ?_
  obtain ⟨d9, hd9, H⟩ := H
  refine sb_callV (pc' := 49) rfl rfl (rc := rc) (rs := rs) (mc' := 0) (ms' := 0) (As := []) (st := []) of_0 rfl rfl (Nat.le_of_ble_eq_true rfl) hd9 kX10_keepDraft ⟨wd_1155, wd_1157, wd_71⟩ dX10_fluency_46 (Eb.mono H ?_)
  rintro o s9 ⟨rfl, hs9, H⟩
  show Wb g ad d mX10_fluency Q 49 [some (.ref (ad 0))] [] s9 rc rs
  refine sb_aload_n (pc' := 50) rfl rfl dX10_fluency_49 ?_
  obtain ⟨o10, H⟩ := H
  refine sb_getR (pc' := 53) rfl fr_0_1 wd_643 dX10_fluency_50 ?_
  refine sb_getIN (pc' := 56) rfl (fiK_11 o10) wd_232 dX10_fluency_53 ?_
  exact sb_iret rfl rfl dX10_fluency_56 (H (SR_sc hs9 _ _) hs9)
theorem bX10_sentence_0 {g : AG} {ad : Nat → Nat} {d : Nat} {Q : AO → SG → Prop} {rc rs : Nat} {σ : SG}    (hS : SR σ) (H : isK (rv σ 0 2) ∧ isK (rv σ 0 1) ∧ Cl g ad d mX2_copy 0 0 [(.ref (ad (rv σ 0 2))), (.ref (ad (rv σ 0 1)))] σ (Kv fun s3 => isK (rv s3 0 2) ∧ Cl g ad d mX6_readRow 0 0 [(.ref (ad 37)), (.ref (ad (rv s3 0 2))), (vi 1), (vi 6)] s3 (Kv fun s5 => isK (rv s5 0 2) ∧ Cl g ad d mX2_enterSentence 0 0 [(.ref (ad (rv s5 0 2))), (.ref (ad 37))] s5 (Kv fun s7 => Cl g ad d mX10_checkText 1 6 [(.ref (ad 0))] (setS s7 37 1 0) (Kx (Kv fun s8 => Cl g ad d mX10_keepDraft 0 0 [(.ref (ad 0))] s8 (Kv fun s9 => isK (rv s9 0 1) ∧ (iR (sc s9 (rv s9 0 1) 13) → SR s9 → Q (.inl (some (vi (sc s9 (rv s9 0 1) 13)))) s9))) (fun E s8 => SR s8 → Q (.inr E) s8)))))) : Wb g ad d mX10_sentence Q 0 [some (.ref (ad 0))] [] σ (rc + 1) (rs + 6) := by
  refine sb_aload_n (pc' := 1) rfl rfl dX10_sentence_0 ?_
  obtain ⟨o1, H⟩ := H
  refine sb_getR (pc' := 4) rfl fr_0_2 wd_644 dX10_sentence_1 ?_
  refine sb_aload_n (pc' := 5) rfl rfl dX10_sentence_4 ?_
  obtain ⟨o2, H⟩ := H
  refine sb_getR (pc' := 8) rfl fr_0_1 wd_643 dX10_sentence_5 ?_
  obtain ⟨d3, hd3, H⟩ := H
  refine sb_callVN (pc' := 11) rfl rfl (rc := (rc + 1)) (rs := (rs + 6)) (mc' := 0) (ms' := 0) (As := [(.ref (ad (rv σ 0 1)))]) (st := []) (ofK o1) rfl rfl (Nat.le_of_ble_eq_true rfl) hd3 kX2_copy ⟨wd_970, wd_972, wd_46⟩ dX10_sentence_8 (Eb.mono H ?_)
  rintro o s3 ⟨rfl, hs3, H⟩
  show Wb g ad d mX10_sentence Q 11 [some (.ref (ad 0))] [] s3 (rc + 1) (rs + 6)
  refine sb_aload_n (pc' := 12) rfl rfl dX10_sentence_11 ?_
  refine sb_getC (pc' := 15) rfl fc_0_3 wd_645 dX10_sentence_12 ?_
  refine sb_aload_n (pc' := 16) rfl rfl dX10_sentence_15 ?_
  obtain ⟨o4, H⟩ := H
  refine sb_getR (pc' := 19) rfl fr_0_2 wd_644 dX10_sentence_16 ?_
  refine sb_iconst (pc' := 20) rfl dX10_sentence_19 ?_
  refine sb_bipush (pc' := 22) rfl (z := 6) (by decide) dX10_sentence_20 ?_
  obtain ⟨d5, hd5, H⟩ := H
  refine sb_callVN (pc' := 25) rfl rfl (rc := (rc + 1)) (rs := (rs + 6)) (mc' := 0) (ms' := 0) (As := [(.ref (ad (rv s3 0 2))), (vi 1), (vi 6)]) (st := []) of_37 rfl rfl (Nat.le_of_ble_eq_true rfl) hd5 kX6_readRow ⟨wd_1185, wd_1187, wd_75⟩ dX10_sentence_22 (Eb.mono H ?_)
  rintro o s5 ⟨rfl, hs5, H⟩
  show Wb g ad d mX10_sentence Q 25 [some (.ref (ad 0))] [] s5 (rc + 1) (rs + 6)
  refine sb_aload_n (pc' := 26) rfl rfl dX10_sentence_25 ?_
  obtain ⟨o6, H⟩ := H
  refine sb_getR (pc' := 29) rfl fr_0_2 wd_644 dX10_sentence_26 ?_
  refine sb_aload_n (pc' := 30) rfl rfl dX10_sentence_29 ?_
  refine sb_getC (pc' := 33) rfl fc_0_3 wd_645 dX10_sentence_30 ?_
  obtain ⟨d7, hd7, H⟩ := H
  refine sb_callVN (pc' := 36) rfl rfl (rc := (rc + 1)) (rs := (rs + 6)) (mc' := 0) (ms' := 0) (As := [(.ref (ad 37))]) (st := []) (ofK o6) rfl rfl (Nat.le_of_ble_eq_true rfl) hd7 kX2_enterSentence ⟨wd_1189, wd_1191, wd_76⟩ dX10_sentence_33 (Eb.mono H ?_)
  rintro o s7 ⟨rfl, hs7, H⟩
  show Wb g ad d mX10_sentence Q 36 [some (.ref (ad 0))] [] s7 (rc + 1) (rs + 6)
  refine sb_aload_n (pc' := 37) rfl rfl dX10_sentence_36 ?_
  refine sb_getC (pc' := 40) rfl fc_0_3 wd_645 dX10_sentence_37 ?_
  refine sb_iconst (pc' := 41) rfl dX10_sentence_40 ?_
  refine sb_putIN (pc' := 44) rfl fi_37_1 (Or.inl rfl) wd_282 dX10_sentence_41 ?_
  refine sb_aload_n (pc' := 45) rfl rfl dX10_sentence_44 ?_
  obtain ⟨d8, hd8, H⟩ := H
  refine sb_callV (pc' := 48) rfl rfl (rc := rc) (rs := rs) (mc' := 1) (ms' := 6) (As := []) (st := []) of_0 rfl rfl (Nat.le_of_ble_eq_true rfl) hd8 kX10_checkText ⟨wd_1081, wd_1083, wd_69⟩ dX10_sentence_45 (Eb.mono H ?_)
  rintro o s8 (⟨rfl, hs8, H⟩ | ⟨E, rfl, hs8, H⟩)
  case inr => exact H hs8
  show Wb g ad d mX10_sentence Q 48 [some (.ref (ad 0))] [] s8 rc rs
  refine sb_aload_n (pc' := 49) rfl rfl dX10_sentence_48 ?_
  obtain ⟨d9, hd9, H⟩ := H
  refine sb_callV (pc' := 52) rfl rfl (rc := rc) (rs := rs) (mc' := 0) (ms' := 0) (As := []) (st := []) of_0 rfl rfl (Nat.le_of_ble_eq_true rfl) hd9 kX10_keepDraft ⟨wd_1155, wd_1157, wd_71⟩ dX10_sentence_49 (Eb.mono H ?_)
  rintro o s9 ⟨rfl, hs9, H⟩
  show Wb g ad d mX10_sentence Q 52 [some (.ref (ad 0))] [] s9 rc rs
  refine sb_aload_n (pc' := 53) rfl rfl dX10_sentence_52 ?_
  obtain ⟨o10, H⟩ := H
  refine sb_getR (pc' := 56) rfl fr_0_1 wd_643 dX10_sentence_53 ?_
  refine sb_getIN (pc' := 59) rfl (fiK_13 o10) wd_238 dX10_sentence_56 ?_
  exact sb_iret rfl rfl dX10_sentence_59 (H (SR_sc hs9 _ _) hs9)
theorem bX10_learn_0 {g : AG} {ad : Nat → Nat} {d : Nat} {Q : AO → SG → Prop} {rc rs : Nat} {σ : SG}    (hS : SR σ) (H : isK (rv σ 0 2) ∧ isK (rv σ 0 1) ∧ Cl g ad d mX2_copy 0 0 [(.ref (ad (rv σ 0 2))), (.ref (ad (rv σ 0 1)))] σ (Kv fun s3 => isK (rv s3 0 2) ∧ Cl g ad d mX6_readLesson 0 0 [(.ref (ad 37)), (.ref (ad (rv s3 0 2)))] s3 (Kv fun s5 => Cl g ad d mX6_isRight 0 0 [(.ref (ad 37))] s5 (Ki fun r6 s6 => ((r6 = 0 → Cl g ad d mX10_checkText 1 6 [(.ref (ad 0))] (setS s6 37 1 0) (Kx (Kv fun s7 => Cl g ad d mX10_keepDraft 0 0 [(.ref (ad 0))] s7 (Kv fun s8 => (iR 0 → SR s8 → Q (.inl (some (vi 0))) s8))) (fun E s7 => SR s7 → Q (.inr E) s7))) ∧ (¬ r6 = 0 → isK (rv s6 0 2) ∧ Cl g ad d mX3_enter 0 0 [(.ref (ad (rv s6 0 2))), (.ref (ad 37))] s6 (Ki fun r10 s10 => Cl g ad d mX10_checkText 1 6 [(.ref (ad 0))] (setS s10 37 1 0) (Kx (Kv fun s11 => ((¬ r10 = ((-1)) → Cl g ad d mX10_keepDraft 0 0 [(.ref (ad 0))] s11 (Kv fun s12 => (iR r10 → SR s12 → Q (.inl (some (vi r10))) s12))) ∧ (r10 = ((-1)) → 8 ≤ d ∧ (SR s11 → Q (.inr "java/lang/UnsupportedOperationException") s11)))) (fun E s11 => SR s11 → Q (.inr E) s11))))))))) : Wb g ad d mX10_learn Q 0 [some (.ref (ad 0)), none] [] σ (rc + 2) (rs + 12) := by
  refine sb_aload_n (pc' := 1) rfl rfl dX10_learn_0 ?_
  obtain ⟨o1, H⟩ := H
  refine sb_getR (pc' := 4) rfl fr_0_2 wd_644 dX10_learn_1 ?_
  refine sb_aload_n (pc' := 5) rfl rfl dX10_learn_4 ?_
  obtain ⟨o2, H⟩ := H
  refine sb_getR (pc' := 8) rfl fr_0_1 wd_643 dX10_learn_5 ?_
  obtain ⟨d3, hd3, H⟩ := H
  refine sb_callVN (pc' := 11) rfl rfl (rc := (rc + 2)) (rs := (rs + 12)) (mc' := 0) (ms' := 0) (As := [(.ref (ad (rv σ 0 1)))]) (st := []) (ofK o1) rfl rfl (Nat.le_of_ble_eq_true rfl) hd3 kX2_copy ⟨wd_970, wd_972, wd_46⟩ dX10_learn_8 (Eb.mono H ?_)
  rintro o s3 ⟨rfl, hs3, H⟩
  show Wb g ad d mX10_learn Q 11 [some (.ref (ad 0)), none] [] s3 (rc + 2) (rs + 12)
  refine sb_aload_n (pc' := 12) rfl rfl dX10_learn_11 ?_
  refine sb_getC (pc' := 15) rfl fc_0_3 wd_645 dX10_learn_12 ?_
  refine sb_aload_n (pc' := 16) rfl rfl dX10_learn_15 ?_
  obtain ⟨o4, H⟩ := H
  refine sb_getR (pc' := 19) rfl fr_0_2 wd_644 dX10_learn_16 ?_
  obtain ⟨d5, hd5, H⟩ := H
  refine sb_callVN (pc' := 22) rfl rfl (rc := (rc + 2)) (rs := (rs + 12)) (mc' := 0) (ms' := 0) (As := [(.ref (ad (rv s3 0 2)))]) (st := []) of_37 rfl rfl (Nat.le_of_ble_eq_true rfl) hd5 kX6_readLesson ⟨wd_1201, wd_1203, wd_77⟩ dX10_learn_19 (Eb.mono H ?_)
  rintro o s5 ⟨rfl, hs5, H⟩
  show Wb g ad d mX10_learn Q 22 [some (.ref (ad 0)), none] [] s5 (rc + 2) (rs + 12)
  refine sb_aload_n (pc' := 23) rfl rfl dX10_learn_22 ?_
  refine sb_getC (pc' := 26) rfl fc_0_3 wd_645 dX10_learn_23 ?_
  obtain ⟨d6, hd6, H⟩ := H
  refine sb_callVN (pc' := 29) rfl rfl (rc := (rc + 2)) (rs := (rs + 12)) (mc' := 0) (ms' := 0) (As := []) (st := []) of_37 rfl rfl (Nat.le_of_ble_eq_true rfl) hd6 kX6_isRight ⟨wd_1085, wd_1025, wd_55⟩ dX10_learn_26 (Eb.mono H ?_)
  rintro o s6 ⟨r6, rfl, hr6, hs6, H⟩
  show Wb g ad d mX10_learn Q 29 [some (.ref (ad 0)), none] [(vi r6)] s6 (rc + 2) (rs + 12)
  refine sb_if_eq (pc' := 32) (tgt := 46) rfl (by decide) hr6 dX10_learn_29 ?_ ?_
  · intro cc; have H := H.1 cc
    refine sb_iconst (pc' := 47) rfl dX10_learn_46 ?_
    refine sb_istore_n (pc' := 48) rfl (L' := [some (.ref (ad 0)), some (vi 0)]) rfl (by decide) dX10_learn_47 ?_
    refine sb_aload_n (pc' := 49) rfl rfl dX10_learn_48 ?_
    refine sb_getC (pc' := 52) rfl fc_0_3 wd_645 dX10_learn_49 ?_
    refine sb_iconst (pc' := 53) rfl dX10_learn_52 ?_
    refine sb_putIN (pc' := 56) rfl fi_37_1 (Or.inl rfl) wd_282 dX10_learn_53 ?_
    refine sb_aload_n (pc' := 57) rfl rfl dX10_learn_56 ?_
    obtain ⟨d7, hd7, H⟩ := H
    refine sb_callV (pc' := 60) rfl rfl (rc := (rc + 1)) (rs := (rs + 6)) (mc' := 1) (ms' := 6) (As := []) (st := []) of_0 rfl rfl (Nat.le_of_ble_eq_true rfl) hd7 kX10_checkText ⟨wd_1081, wd_1083, wd_69⟩ dX10_learn_57 (Eb.mono H ?_)
    rintro o s7 (⟨rfl, hs7, H⟩ | ⟨E, rfl, hs7, H⟩)
    case inr => exact H hs7
    show Wb g ad d mX10_learn Q 60 [some (.ref (ad 0)), some (vi 0)] [] s7 (rc + 1) (rs + 6)
    refine sb_iload_n (pc' := 61) rfl rfl dX10_learn_60 ?_
    refine sb_iconst (pc' := 62) rfl dX10_learn_61 ?_
    refine sb_icmp_ne (pc' := 65) (tgt := 75) rfl (by decide) (iR_lit rfl) (iR_lit rfl) dX10_learn_62 ?_ ?_
    · intro cc
      refine sb_aload_n (pc' := 76) rfl rfl dX10_learn_75 ?_
      obtain ⟨d8, hd8, H⟩ := H
      refine sb_callV (pc' := 79) rfl rfl (rc := (rc + 1)) (rs := (rs + 6)) (mc' := 0) (ms' := 0) (As := []) (st := []) of_0 rfl rfl (Nat.le_of_ble_eq_true rfl) hd8 kX10_keepDraft ⟨wd_1155, wd_1157, wd_71⟩ dX10_learn_76 (Eb.mono H ?_)
      rintro o s8 ⟨rfl, hs8, H⟩
      show Wb g ad d mX10_learn Q 79 [some (.ref (ad 0)), some (vi 0)] [] s8 (rc + 1) (rs + 6)
      refine sb_iload_n (pc' := 80) rfl rfl dX10_learn_79 ?_
      exact sb_iret rfl rfl dX10_learn_80 (H (iR_lit rfl) hs8)
    · intro cc; exact absurd cc (by decide)
  · intro cc; have H := H.2 cc
    refine sb_aload_n (pc' := 33) rfl rfl dX10_learn_32 ?_
    obtain ⟨o9, H⟩ := H
    refine sb_getR (pc' := 36) rfl fr_0_2 wd_644 dX10_learn_33 ?_
    refine sb_aload_n (pc' := 37) rfl rfl dX10_learn_36 ?_
    refine sb_getC (pc' := 40) rfl fc_0_3 wd_645 dX10_learn_37 ?_
    obtain ⟨d10, hd10, H⟩ := H
    refine sb_callSN (pc' := 43) rfl rfl (rc := (rc + 2)) (rs := (rs + 12)) (mc' := 0) (ms' := 0) (As := [(.ref (ad (rv s6 0 2))), (.ref (ad 37))]) (st := [])  rfl rfl (Nat.le_of_ble_eq_true rfl) hd10 kX3_enter ⟨wd_1210, wd_1211⟩ dX10_learn_40 (Eb.mono H ?_)
    rintro o s10 ⟨r10, rfl, hr10, hs10, H⟩
    show Wb g ad d mX10_learn Q 43 [some (.ref (ad 0)), none] [(vi r10)] s10 (rc + 2) (rs + 12)
    refine sb_goto (tgt := 47) (by decide) dX10_learn_43 ?_
    refine sb_istore_n (pc' := 48) rfl (L' := [some (.ref (ad 0)), some (vi r10)]) rfl (by decide) dX10_learn_47 ?_
    refine sb_aload_n (pc' := 49) rfl rfl dX10_learn_48 ?_
    refine sb_getC (pc' := 52) rfl fc_0_3 wd_645 dX10_learn_49 ?_
    refine sb_iconst (pc' := 53) rfl dX10_learn_52 ?_
    refine sb_putIN (pc' := 56) rfl fi_37_1 (Or.inl rfl) wd_282 dX10_learn_53 ?_
    refine sb_aload_n (pc' := 57) rfl rfl dX10_learn_56 ?_
    obtain ⟨d11, hd11, H⟩ := H
    refine sb_callV (pc' := 60) rfl rfl (rc := (rc + 1)) (rs := (rs + 6)) (mc' := 1) (ms' := 6) (As := []) (st := []) of_0 rfl rfl (Nat.le_of_ble_eq_true rfl) hd11 kX10_checkText ⟨wd_1081, wd_1083, wd_69⟩ dX10_learn_57 (Eb.mono H ?_)
    rintro o s11 (⟨rfl, hs11, H⟩ | ⟨E, rfl, hs11, H⟩)
    case inr => exact H hs11
    show Wb g ad d mX10_learn Q 60 [some (.ref (ad 0)), some (vi r10)] [] s11 (rc + 1) (rs + 6)
    refine sb_iload_n (pc' := 61) rfl rfl dX10_learn_60 ?_
    refine sb_iconst (pc' := 62) rfl dX10_learn_61 ?_
    refine sb_icmp_ne (pc' := 65) (tgt := 75) rfl (by decide) hr10 (iR_lit rfl) dX10_learn_62 ?_ ?_
    · intro cc; have H := H.1 cc
      refine sb_aload_n (pc' := 76) rfl rfl dX10_learn_75 ?_
      obtain ⟨d12, hd12, H⟩ := H
      refine sb_callV (pc' := 79) rfl rfl (rc := (rc + 1)) (rs := (rs + 6)) (mc' := 0) (ms' := 0) (As := []) (st := []) of_0 rfl rfl (Nat.le_of_ble_eq_true rfl) hd12 kX10_keepDraft ⟨wd_1155, wd_1157, wd_71⟩ dX10_learn_76 (Eb.mono H ?_)
      rintro o s12 ⟨rfl, hs12, H⟩
      show Wb g ad d mX10_learn Q 79 [some (.ref (ad 0)), some (vi r10)] [] s12 (rc + 1) (rs + 6)
      refine sb_iload_n (pc' := 80) rfl rfl dX10_learn_79 ?_
      exact sb_iret rfl rfl dX10_learn_80 (H hr10 hs12)
    · intro cc; have H := H.2 cc
      obtain ⟨o13, H⟩ := H
      exact sb_throw rfl (thr_UnsupportedOperationException_147) (cls := "java/lang/UnsupportedOperationException") (text := "there would be too many phrases") (rc := rc) (rs := rs) o13 (Nat.le_of_ble_eq_true rfl) wd_1231 wd_185 ⟨rfl, by decide +kernel⟩ dX10_learn_65 dX10_learn_68 dX10_learn_69 dX10_learn_71 dX10_learn_74 (H hs11)
theorem bX10_fault_0 {g : AG} {ad : Nat → Nat} {d : Nat} {Q : AO → SG → Prop} {rc rs : Nat} {σ : SG}    (hS : SR σ) (H : (iR (sc σ 37 2) → SR σ → Q (.inl (some (vi (sc σ 37 2)))) σ)) : Wb g ad d mX10_fault Q 0 [some (.ref (ad 0))] [] σ rc rs := by
  refine sb_aload_n (pc' := 1) rfl rfl dX10_fault_0 ?_
  refine sb_getC (pc' := 4) rfl fc_0_3 wd_645 dX10_fault_1 ?_
  refine sb_getIN (pc' := 7) rfl fi_37_2 wd_285 dX10_fault_4 ?_
  exact sb_iret rfl rfl dX10_fault_7 (H (SR_sc hS _ _) hS)
theorem bX10_letter_0 {g : AG} {ad : Nat → Nat} {d : Nat} {Q : AO → SG → Prop} {rc rs : Nat} {σ : SG} {x1 x2 : Int}  (hx1 : iR x1) (hx2 : iR x2) (hS : SR σ) (H : Cl g ad d mX10_checkWord 1 6 [(.ref (ad 0)), (vi x1)] σ (Kx (Kv fun s1 => ((x2 < 0 → (iR ((-1)) → SR s1 → Q (.inl (some (vi ((-1))))) s1)) ∧ (¬ x2 < 0 → isK (rv s1 0 1) ∧ (0 ≤ x1 ∧ x1 < 40) ∧ ((x2 < (ia s1 (rv s1 0 1 + 2) x1) → (0 ≤ (x1 * 8) + x2 ∧ (x1 * 8) + x2 < 320) ∧ iR ((ia s1 (rv s1 0 1 + 1) ((x1 * 8) + x2)) - 97) ∧ (iR ((ia s1 (rv s1 0 1 + 1) ((x1 * 8) + x2)) - 97) → SR s1 → Q (.inl (some (vi ((ia s1 (rv s1 0 1 + 1) ((x1 * 8) + x2)) - 97)))) s1)) ∧ (¬ x2 < (ia s1 (rv s1 0 1 + 2) x1) → (iR ((-1)) → SR s1 → Q (.inl (some (vi ((-1))))) s1)))))) (fun E s1 => SR s1 → Q (.inr E) s1))) : Wb g ad d mX10_letter Q 0 [some (.ref (ad 0)), some (vi x1), some (vi x2)] [] σ (rc + 1) (rs + 6) := by
  refine sb_aload_n (pc' := 1) rfl rfl dX10_letter_0 ?_
  refine sb_iload_n (pc' := 2) rfl rfl dX10_letter_1 ?_
  obtain ⟨d1, hd1, H⟩ := H
  refine sb_callV (pc' := 5) rfl rfl (rc := rc) (rs := rs) (mc' := 1) (ms' := 6) (As := [(vi x1)]) (st := []) of_0 rfl rfl (Nat.le_of_ble_eq_true rfl) hd1 kX10_checkWord ⟨wd_1255, wd_1257, wd_79⟩ dX10_letter_2 (Eb.mono H ?_)
  rintro o s1 (⟨rfl, hs1, H⟩ | ⟨E, rfl, hs1, H⟩)
  case inr => exact H hs1
  show Wb g ad d mX10_letter Q 5 [some (.ref (ad 0)), some (vi x1), some (vi x2)] [] s1 rc rs
  refine sb_iload_n (pc' := 6) rfl rfl dX10_letter_5 ?_
  refine sb_if_lt (pc' := 9) (tgt := 22) rfl (by decide) hx2 dX10_letter_6 ?_ ?_
  · intro cc; have H := H.1 cc
    refine sb_iconst (pc' := 23) rfl dX10_letter_22 ?_
    exact sb_iret rfl rfl dX10_letter_23 (H (iR_lit rfl) hs1)
  · intro cc; have H := H.2 cc
    refine sb_iload_n (pc' := 10) rfl rfl dX10_letter_9 ?_
    refine sb_aload_n (pc' := 11) rfl rfl dX10_letter_10 ?_
    obtain ⟨o2, H⟩ := H
    refine sb_getR (pc' := 14) rfl fr_0_1 wd_643 dX10_letter_11 ?_
    refine sb_getCN (pc' := 17) rfl (fcK_1 o2) wd_205 dX10_letter_14 ?_
    refine sb_iload_n (pc' := 18) rfl rfl dX10_letter_17 ?_
    obtain ⟨o3, H⟩ := H
    refine sb_iald (pc' := 19) rfl (aIK_2 o2) o3.1 o3.2 dX10_letter_18 ?_
    refine sb_icmp_lt (pc' := 22) (tgt := 24) rfl (by decide) hx2 (SR_ia hs1 _ _) dX10_letter_19 ?_ ?_
    · intro cc; have H := H.1 cc
      refine sb_aload_n (pc' := 25) rfl rfl dX10_letter_24 ?_
      refine sb_getR (pc' := 28) rfl fr_0_1 wd_643 dX10_letter_25 ?_
      refine sb_getCN (pc' := 31) rfl (fcK_0 o2) wd_203 dX10_letter_28 ?_
      refine sb_iload_n (pc' := 32) rfl rfl dX10_letter_31 ?_
      refine sb_bipush (pc' := 34) rfl (z := 8) (by decide) dX10_letter_32 ?_
      refine sb_imul (pc' := 35) rfl dX10_letter_34 ?_
      refine sb_iload_n (pc' := 36) rfl rfl dX10_letter_35 ?_
      refine sb_iadd (pc' := 37) rfl dX10_letter_36 ?_
      obtain ⟨o4, H⟩ := H
      refine sb_iald (pc' := 38) rfl (aIK_1 o2) o4.1 o4.2 dX10_letter_37 ?_
      refine sb_bipush (pc' := 40) rfl (z := 97) (by decide) dX10_letter_38 ?_
      refine sb_isub (pc' := 41) rfl dX10_letter_40 ?_
      obtain ⟨o5, H⟩ := H
      exact sb_iret rfl rfl dX10_letter_41 (H o5 hs1)
    · intro cc; have H := H.2 cc
      refine sb_iconst (pc' := 23) rfl dX10_letter_22 ?_
      exact sb_iret rfl rfl dX10_letter_23 (H (iR_lit rfl) hs1)
theorem bX10_phrase_0 {g : AG} {ad : Nat → Nat} {d : Nat} {Q : AO → SG → Prop} {rc rs : Nat} {σ : SG} {x1 x2 : Int}  (hx1 : iR x1) (hx2 : iR x2) (hS : SR σ) (H : Cl g ad d mX10_checkPhrase 1 6 [(.ref (ad 0)), (vi x1)] σ (Kx (Kv fun s1 => (((x2 < 0 ∨ 5 < x2) → 8 ≤ d ∧ (SR s1 → Q (.inr "java/util/NoSuchElementException") s1)) ∧ (x2 = 0 → isK (rv s1 0 1) ∧ (0 ≤ x1 ∧ x1 < 30) ∧ (iR (ia s1 (rv s1 0 1 + 4) x1) → SR s1 → Q (.inl (some (vi (ia s1 (rv s1 0 1 + 4) x1)))) s1)) ∧ (x2 = 1 → isK (rv s1 0 1) ∧ (0 ≤ x1 ∧ x1 < 30) ∧ (iR (ia s1 (rv s1 0 1 + 6) x1) → SR s1 → Q (.inl (some (vi (ia s1 (rv s1 0 1 + 6) x1)))) s1)) ∧ (x2 = 2 → isK (rv s1 0 1) ∧ (0 ≤ x1 ∧ x1 < 30) ∧ (iR (ia s1 (rv s1 0 1 + 7) x1) → SR s1 → Q (.inl (some (vi (ia s1 (rv s1 0 1 + 7) x1)))) s1)) ∧ (x2 = 3 → isK (rv s1 0 1) ∧ (0 ≤ x1 ∧ x1 < 30) ∧ (((ia s1 (rv s1 0 1 + 8) x1) = 0 → (iR 0 → SR s1 → Q (.inl (some (vi 0))) s1)) ∧ (¬ (ia s1 (rv s1 0 1 + 8) x1) = 0 → (iR 1 → SR s1 → Q (.inl (some (vi 1))) s1)))) ∧ (x2 = 4 → Cl g ad d mX10_prepareOptions 0 0 [(.ref (ad 0))] s1 (Kv fun s11 => Cl g ad d mX5_howOften 0 0 [(.ref (ad 48)), (vi x1)] s11 (Ki fun r12 s12 => (iR r12 → SR s12 → Q (.inl (some (vi r12))) s12)))) ∧ (x2 = 5 → Cl g ad d mX10_unfoldWay 0 0 [(.ref (ad 0)), (vi 0)] s1 (Ki fun r13 s13 => Cl g ad d mX10_worthOf 0 0 [(.ref (ad 0)), (vi x1)] s13 (Ki fun r14 s14 => (iR r14 → SR s14 → Q (.inl (some (vi r14))) s14)))))) (fun E s1 => SR s1 → Q (.inr E) s1))) : Wb g ad d mX10_phrase Q 0 [some (.ref (ad 0)), some (vi x1), some (vi x2)] [] σ (rc + 2) (rs + 12) := by
  refine sb_aload_n (pc' := 1) rfl rfl dX10_phrase_0 ?_
  refine sb_iload_n (pc' := 2) rfl rfl dX10_phrase_1 ?_
  obtain ⟨d1, hd1, H⟩ := H
  refine sb_callV (pc' := 5) rfl rfl (rc := (rc + 1)) (rs := (rs + 6)) (mc' := 1) (ms' := 6) (As := [(vi x1)]) (st := []) of_0 rfl rfl (Nat.le_of_ble_eq_true rfl) hd1 kX10_checkPhrase ⟨wd_1283, wd_1285, wd_80⟩ dX10_phrase_2 (Eb.mono H ?_)
  rintro o s1 (⟨rfl, hs1, H⟩ | ⟨E, rfl, hs1, H⟩)
  case inr => exact H hs1
  show Wb g ad d mX10_phrase Q 5 [some (.ref (ad 0)), some (vi x1), some (vi x2)] [] s1 (rc + 1) (rs + 6)
  refine sb_iload_n (pc' := 6) rfl rfl dX10_phrase_5 ?_
  by_cases cc : x2 < 0 ∨ 5 < x2
  · have H := H.1 cc
    refine sb_swOut (tgt := 117) hx2 cc (by decide) dX10_phrase_6 ?_
    obtain ⟨o2, H⟩ := H
    exact sb_throwN rfl (thr_NoSuchElementException_197) (cls := "java/util/NoSuchElementException") (text := "a phrase has no such number") (rc := rc) (rs := rs) o2 (Nat.le_of_ble_eq_true rfl) wd_1292 wd_187 ⟨rfl, by decide +kernel⟩ dX10_phrase_117 dX10_phrase_120 dX10_phrase_121 dX10_phrase_123 dX10_phrase_126 (H hs1)
  · have H := H.2
    rcases (show x2 = 0 ∨ x2 = 1 ∨ x2 = 2 ∨ x2 = 3 ∨ x2 = 4 ∨ x2 = 5 by omega) with cc | cc | cc | cc | cc | cc
    · have H := H.1 cc
      refine sb_swIn (tgt := 44) (off := 38) hx2 (by omega) (by omega) (by rw [cc]; rfl) (by decide) dX10_phrase_6 ?_
      refine sb_aload_n (pc' := 45) rfl rfl dX10_phrase_44 ?_
      obtain ⟨o3, H⟩ := H
      refine sb_getR (pc' := 48) rfl fr_0_1 wd_643 dX10_phrase_45 ?_
      refine sb_getCN (pc' := 51) rfl (fcK_4 o3) wd_213 dX10_phrase_48 ?_
      refine sb_iload_n (pc' := 52) rfl rfl dX10_phrase_51 ?_
      obtain ⟨o4, H⟩ := H
      refine sb_iald (pc' := 53) rfl (aIK_4 o3) o4.1 o4.2 dX10_phrase_52 ?_
      exact sb_iret rfl rfl dX10_phrase_53 (H (SR_ia hs1 _ _) hs1)
    · have H := H.2.1 cc
      refine sb_swIn (tgt := 54) (off := 48) hx2 (by omega) (by omega) (by rw [cc]; rfl) (by decide) dX10_phrase_6 ?_
      refine sb_aload_n (pc' := 55) rfl rfl dX10_phrase_54 ?_
      obtain ⟨o5, H⟩ := H
      refine sb_getR (pc' := 58) rfl fr_0_1 wd_643 dX10_phrase_55 ?_
      refine sb_getCN (pc' := 61) rfl (fcK_6 o5) wd_219 dX10_phrase_58 ?_
      refine sb_iload_n (pc' := 62) rfl rfl dX10_phrase_61 ?_
      obtain ⟨o6, H⟩ := H
      refine sb_iald (pc' := 63) rfl (aIK_6 o5) o6.1 o6.2 dX10_phrase_62 ?_
      exact sb_iret rfl rfl dX10_phrase_63 (H (SR_ia hs1 _ _) hs1)
    · have H := H.2.2.1 cc
      refine sb_swIn (tgt := 64) (off := 58) hx2 (by omega) (by omega) (by rw [cc]; rfl) (by decide) dX10_phrase_6 ?_
      refine sb_aload_n (pc' := 65) rfl rfl dX10_phrase_64 ?_
      obtain ⟨o7, H⟩ := H
      refine sb_getR (pc' := 68) rfl fr_0_1 wd_643 dX10_phrase_65 ?_
      refine sb_getCN (pc' := 71) rfl (fcK_7 o7) wd_223 dX10_phrase_68 ?_
      refine sb_iload_n (pc' := 72) rfl rfl dX10_phrase_71 ?_
      obtain ⟨o8, H⟩ := H
      refine sb_iald (pc' := 73) rfl (aIK_7 o7) o8.1 o8.2 dX10_phrase_72 ?_
      exact sb_iret rfl rfl dX10_phrase_73 (H (SR_ia hs1 _ _) hs1)
    · have H := H.2.2.2.1 cc
      refine sb_swIn (tgt := 74) (off := 68) hx2 (by omega) (by omega) (by rw [cc]; rfl) (by decide) dX10_phrase_6 ?_
      refine sb_aload_n (pc' := 75) rfl rfl dX10_phrase_74 ?_
      obtain ⟨o9, H⟩ := H
      refine sb_getR (pc' := 78) rfl fr_0_1 wd_643 dX10_phrase_75 ?_
      refine sb_getCN (pc' := 81) rfl (fcK_8 o9) wd_225 dX10_phrase_78 ?_
      refine sb_iload_n (pc' := 82) rfl rfl dX10_phrase_81 ?_
      obtain ⟨o10, H⟩ := H
      refine sb_zald (pc' := 83) rfl (aZK_8 o9) o10.1 o10.2 dX10_phrase_82 ?_
      refine sb_if_eq (pc' := 86) (tgt := 90) rfl (by decide) (SR_ia hs1 _ _) dX10_phrase_83 ?_ ?_
      · intro cc; have H := H.1 cc
        refine sb_iconst (pc' := 91) rfl dX10_phrase_90 ?_
        exact sb_iret rfl rfl dX10_phrase_91 (H (iR_lit rfl) hs1)
      · intro cc; have H := H.2 cc
        refine sb_iconst (pc' := 87) rfl dX10_phrase_86 ?_
        refine sb_goto (tgt := 91) (by decide) dX10_phrase_87 ?_
        exact sb_iret rfl rfl dX10_phrase_91 (H (iR_lit rfl) hs1)
    · have H := H.2.2.2.2.1 cc
      refine sb_swIn (tgt := 92) (off := 86) hx2 (by omega) (by omega) (by rw [cc]; rfl) (by decide) dX10_phrase_6 ?_
      refine sb_aload_n (pc' := 93) rfl rfl dX10_phrase_92 ?_
      obtain ⟨d11, hd11, H⟩ := H
      refine sb_callV (pc' := 96) rfl rfl (rc := (rc + 1)) (rs := (rs + 6)) (mc' := 0) (ms' := 0) (As := []) (st := []) of_0 rfl rfl (Nat.le_of_ble_eq_true rfl) hd11 kX10_prepareOptions ⟨wd_708, wd_710, wd_1⟩ dX10_phrase_93 (Eb.mono H ?_)
      rintro o s11 ⟨rfl, hs11, H⟩
      show Wb g ad d mX10_phrase Q 96 [some (.ref (ad 0)), some (vi x1), some (vi x2)] [] s11 (rc + 1) (rs + 6)
      refine sb_aload_n (pc' := 97) rfl rfl dX10_phrase_96 ?_
      refine sb_getC (pc' := 100) rfl fc_0_4 wd_646 dX10_phrase_97 ?_
      refine sb_iload_n (pc' := 101) rfl rfl dX10_phrase_100 ?_
      obtain ⟨d12, hd12, H⟩ := H
      refine sb_callVN (pc' := 104) rfl rfl (rc := (rc + 1)) (rs := (rs + 6)) (mc' := 0) (ms' := 0) (As := [(vi x1)]) (st := []) of_48 rfl rfl (Nat.le_of_ble_eq_true rfl) hd12 kX5_howOften ⟨wd_912, wd_914, wd_37⟩ dX10_phrase_101 (Eb.mono H ?_)
      rintro o s12 ⟨r12, rfl, hr12, hs12, H⟩
      show Wb g ad d mX10_phrase Q 104 [some (.ref (ad 0)), some (vi x1), some (vi x2)] [(vi r12)] s12 (rc + 1) (rs + 6)
      exact sb_iret rfl rfl dX10_phrase_104 (H hr12 hs12)
    · have H := H.2.2.2.2.2 cc
      refine sb_swIn (tgt := 105) (off := 99) hx2 (by omega) (by omega) (by rw [cc]; rfl) (by decide) dX10_phrase_6 ?_
      refine sb_aload_n (pc' := 106) rfl rfl dX10_phrase_105 ?_
      refine sb_iconst (pc' := 107) rfl dX10_phrase_106 ?_
      obtain ⟨d13, hd13, H⟩ := H
      refine sb_callV (pc' := 110) rfl rfl (rc := (rc + 1)) (rs := (rs + 6)) (mc' := 0) (ms' := 0) (As := [(vi 0)]) (st := []) of_0 rfl rfl (Nat.le_of_ble_eq_true rfl) hd13 kX10_unfoldWay ⟨wd_866, wd_868, wd_30⟩ dX10_phrase_107 (Eb.mono H ?_)
      rintro o s13 ⟨r13, rfl, hr13, hs13, H⟩
      show Wb g ad d mX10_phrase Q 110 [some (.ref (ad 0)), some (vi x1), some (vi x2)] [(vi r13)] s13 (rc + 1) (rs + 6)
      refine sb_pop (pc' := 111) rfl rfl dX10_phrase_110 ?_
      refine sb_aload_n (pc' := 112) rfl rfl dX10_phrase_111 ?_
      refine sb_iload_n (pc' := 113) rfl rfl dX10_phrase_112 ?_
      obtain ⟨d14, hd14, H⟩ := H
      refine sb_callV (pc' := 116) rfl rfl (rc := (rc + 1)) (rs := (rs + 6)) (mc' := 0) (ms' := 0) (As := [(vi x1)]) (st := []) of_0 rfl rfl (Nat.le_of_ble_eq_true rfl) hd14 kX10_worthOf ⟨wd_1288, wd_1290, wd_81⟩ dX10_phrase_113 (Eb.mono H ?_)
      rintro o s14 ⟨r14, rfl, hr14, hs14, H⟩
      show Wb g ad d mX10_phrase Q 116 [some (.ref (ad 0)), some (vi x1), some (vi x2)] [(vi r14)] s14 (rc + 1) (rs + 6)
      exact sb_iret rfl rfl dX10_phrase_116 (H hr14 hs14)
theorem bX10_part_0 {g : AG} {ad : Nat → Nat} {d : Nat} {Q : AO → SG → Prop} {rc rs : Nat} {σ : SG} {x1 x2 x3 : Int}  (hx1 : iR x1) (hx2 : iR x2) (hx3 : iR x3) (hS : SR σ) (H : Cl g ad d mX10_checkPhrase 1 6 [(.ref (ad 0)), (vi x1)] σ (Kx (Kv fun s1 => ((x2 = 0 → isK (rv s1 0 1) ∧ (0 ≤ x1 ∧ x1 < 30) ∧ ((x3 < 0 → (iR ((-1)) → SR s1 → Q (.inl (some (vi ((-1))))) s1)) ∧ (¬ x3 < 0 → ((x3 < (ia s1 (rv s1 0 1 + 4) x1) → ((x2 = 0 → (0 ≤ (x1 * 3) + x3 ∧ (x1 * 3) + x3 < 90) ∧ (iR (ia s1 (rv s1 0 1 + 3) ((x1 * 3) + x3)) → SR s1 → Q (.inl (some (vi (ia s1 (rv s1 0 1 + 3) ((x1 * 3) + x3))))) s1)) ∧ (¬ x2 = 0 → (0 ≤ (x1 * 3) + x3 ∧ (x1 * 3) + x3 < 90) ∧ (iR (ia s1 (rv s1 0 1 + 5) ((x1 * 3) + x3)) → SR s1 → Q (.inl (some (vi (ia s1 (rv s1 0 1 + 5) ((x1 * 3) + x3))))) s1)))) ∧ (¬ x3 < (ia s1 (rv s1 0 1 + 4) x1) → (iR ((-1)) → SR s1 → Q (.inl (some (vi ((-1))))) s1)))))) ∧ (¬ x2 = 0 → isK (rv s1 0 1) ∧ (0 ≤ x1 ∧ x1 < 30) ∧ ((x3 < 0 → (iR ((-1)) → SR s1 → Q (.inl (some (vi ((-1))))) s1)) ∧ (¬ x3 < 0 → ((x3 < (ia s1 (rv s1 0 1 + 6) x1) → ((x2 = 0 → (0 ≤ (x1 * 3) + x3 ∧ (x1 * 3) + x3 < 90) ∧ (iR (ia s1 (rv s1 0 1 + 3) ((x1 * 3) + x3)) → SR s1 → Q (.inl (some (vi (ia s1 (rv s1 0 1 + 3) ((x1 * 3) + x3))))) s1)) ∧ (¬ x2 = 0 → (0 ≤ (x1 * 3) + x3 ∧ (x1 * 3) + x3 < 90) ∧ (iR (ia s1 (rv s1 0 1 + 5) ((x1 * 3) + x3)) → SR s1 → Q (.inl (some (vi (ia s1 (rv s1 0 1 + 5) ((x1 * 3) + x3))))) s1)))) ∧ (¬ x3 < (ia s1 (rv s1 0 1 + 6) x1) → (iR ((-1)) → SR s1 → Q (.inl (some (vi ((-1))))) s1)))))))) (fun E s1 => SR s1 → Q (.inr E) s1))) : Wb g ad d mX10_part Q 0 [some (.ref (ad 0)), some (vi x1), some (vi x2), some (vi x3), none, none] [] σ (rc + 1) (rs + 6) := by
  refine sb_aload_n (pc' := 1) rfl rfl dX10_part_0 ?_
  refine sb_iload_n (pc' := 2) rfl rfl dX10_part_1 ?_
  obtain ⟨d1, hd1, H⟩ := H
  refine sb_callV (pc' := 5) rfl rfl (rc := rc) (rs := rs) (mc' := 1) (ms' := 6) (As := [(vi x1)]) (st := []) of_0 rfl rfl (Nat.le_of_ble_eq_true rfl) hd1 kX10_checkPhrase ⟨wd_1283, wd_1285, wd_80⟩ dX10_part_2 (Eb.mono H ?_)
  rintro o s1 (⟨rfl, hs1, H⟩ | ⟨E, rfl, hs1, H⟩)
  case inr => exact H hs1
  show Wb g ad d mX10_part Q 5 [some (.ref (ad 0)), some (vi x1), some (vi x2), some (vi x3), none, none] [] s1 rc rs
  refine sb_iload_n (pc' := 6) rfl rfl dX10_part_5 ?_
  refine sb_if_eq (pc' := 9) (tgt := 21) rfl (by decide) hx2 dX10_part_6 ?_ ?_
  · intro cc; have H := H.1 cc
    refine sb_aload_n (pc' := 22) rfl rfl dX10_part_21 ?_
    obtain ⟨o2, H⟩ := H
    refine sb_getR (pc' := 25) rfl fr_0_1 wd_643 dX10_part_22 ?_
    refine sb_getCN (pc' := 28) rfl (fcK_4 o2) wd_213 dX10_part_25 ?_
    refine sb_iload_n (pc' := 29) rfl rfl dX10_part_28 ?_
    obtain ⟨o3, H⟩ := H
    refine sb_iald (pc' := 30) rfl (aIK_4 o2) o3.1 o3.2 dX10_part_29 ?_
    refine sb_istore (pc' := 32) rfl (L' := [some (.ref (ad 0)), some (vi x1), some (vi x2), some (vi x3), some (vi (ia s1 (rv s1 0 1 + 4) x1)), none]) rfl (by decide) dX10_part_30 ?_
    refine sb_iload_n (pc' := 33) rfl rfl dX10_part_32 ?_
    refine sb_if_lt (pc' := 36) (tgt := 42) rfl (by decide) hx3 dX10_part_33 ?_ ?_
    · intro cc; have H := H.1 cc
      refine sb_iconst (pc' := 43) rfl dX10_part_42 ?_
      exact sb_iret rfl rfl dX10_part_43 (H (iR_lit rfl) hs1)
    · intro cc; have H := H.2 cc
      refine sb_iload_n (pc' := 37) rfl rfl dX10_part_36 ?_
      refine sb_iload (pc' := 39) rfl rfl dX10_part_37 ?_
      refine sb_icmp_lt (pc' := 42) (tgt := 44) rfl (by decide) hx3 (SR_ia hs1 _ _) dX10_part_39 ?_ ?_
      · intro cc; have H := H.1 cc
        refine sb_iload_n (pc' := 45) rfl rfl dX10_part_44 ?_
        refine sb_iconst (pc' := 46) rfl dX10_part_45 ?_
        refine sb_imul (pc' := 47) rfl dX10_part_46 ?_
        refine sb_iload_n (pc' := 48) rfl rfl dX10_part_47 ?_
        refine sb_iadd (pc' := 49) rfl dX10_part_48 ?_
        refine sb_istore (pc' := 51) rfl (L' := [some (.ref (ad 0)), some (vi x1), some (vi x2), some (vi x3), some (vi (ia s1 (rv s1 0 1 + 4) x1)), some (vi ((x1 * 3) + x3))]) rfl (by decide) dX10_part_49 ?_
        refine sb_iload_n (pc' := 52) rfl rfl dX10_part_51 ?_
        refine sb_if_eq (pc' := 55) (tgt := 68) rfl (by decide) hx2 dX10_part_52 ?_ ?_
        · intro cc; have H := H.1 cc
          refine sb_aload_n (pc' := 69) rfl rfl dX10_part_68 ?_
          refine sb_getR (pc' := 72) rfl fr_0_1 wd_643 dX10_part_69 ?_
          refine sb_getCN (pc' := 75) rfl (fcK_3 o2) wd_210 dX10_part_72 ?_
          refine sb_iload (pc' := 77) rfl rfl dX10_part_75 ?_
          obtain ⟨o4, H⟩ := H
          refine sb_iald (pc' := 78) rfl (aIK_3 o2) o4.1 o4.2 dX10_part_77 ?_
          exact sb_iret rfl rfl dX10_part_78 (H (SR_ia hs1 _ _) hs1)
        · intro cc; have H := H.2 cc
          refine sb_aload_n (pc' := 56) rfl rfl dX10_part_55 ?_
          refine sb_getR (pc' := 59) rfl fr_0_1 wd_643 dX10_part_56 ?_
          refine sb_getCN (pc' := 62) rfl (fcK_5 o2) wd_216 dX10_part_59 ?_
          refine sb_iload (pc' := 64) rfl rfl dX10_part_62 ?_
          obtain ⟨o5, H⟩ := H
          refine sb_iald (pc' := 65) rfl (aIK_5 o2) o5.1 o5.2 dX10_part_64 ?_
          refine sb_goto (tgt := 78) (by decide) dX10_part_65 ?_
          exact sb_iret rfl rfl dX10_part_78 (H (SR_ia hs1 _ _) hs1)
      · intro cc; have H := H.2 cc
        refine sb_iconst (pc' := 43) rfl dX10_part_42 ?_
        exact sb_iret rfl rfl dX10_part_43 (H (iR_lit rfl) hs1)
  · intro cc; have H := H.2 cc
    refine sb_aload_n (pc' := 10) rfl rfl dX10_part_9 ?_
    obtain ⟨o6, H⟩ := H
    refine sb_getR (pc' := 13) rfl fr_0_1 wd_643 dX10_part_10 ?_
    refine sb_getCN (pc' := 16) rfl (fcK_6 o6) wd_219 dX10_part_13 ?_
    refine sb_iload_n (pc' := 17) rfl rfl dX10_part_16 ?_
    obtain ⟨o7, H⟩ := H
    refine sb_iald (pc' := 18) rfl (aIK_6 o6) o7.1 o7.2 dX10_part_17 ?_
    refine sb_goto (tgt := 30) (by decide) dX10_part_18 ?_
    refine sb_istore (pc' := 32) rfl (L' := [some (.ref (ad 0)), some (vi x1), some (vi x2), some (vi x3), some (vi (ia s1 (rv s1 0 1 + 6) x1)), none]) rfl (by decide) dX10_part_30 ?_
    refine sb_iload_n (pc' := 33) rfl rfl dX10_part_32 ?_
    refine sb_if_lt (pc' := 36) (tgt := 42) rfl (by decide) hx3 dX10_part_33 ?_ ?_
    · intro cc; have H := H.1 cc
      refine sb_iconst (pc' := 43) rfl dX10_part_42 ?_
      exact sb_iret rfl rfl dX10_part_43 (H (iR_lit rfl) hs1)
    · intro cc; have H := H.2 cc
      refine sb_iload_n (pc' := 37) rfl rfl dX10_part_36 ?_
      refine sb_iload (pc' := 39) rfl rfl dX10_part_37 ?_
      refine sb_icmp_lt (pc' := 42) (tgt := 44) rfl (by decide) hx3 (SR_ia hs1 _ _) dX10_part_39 ?_ ?_
      · intro cc; have H := H.1 cc
        refine sb_iload_n (pc' := 45) rfl rfl dX10_part_44 ?_
        refine sb_iconst (pc' := 46) rfl dX10_part_45 ?_
        refine sb_imul (pc' := 47) rfl dX10_part_46 ?_
        refine sb_iload_n (pc' := 48) rfl rfl dX10_part_47 ?_
        refine sb_iadd (pc' := 49) rfl dX10_part_48 ?_
        refine sb_istore (pc' := 51) rfl (L' := [some (.ref (ad 0)), some (vi x1), some (vi x2), some (vi x3), some (vi (ia s1 (rv s1 0 1 + 6) x1)), some (vi ((x1 * 3) + x3))]) rfl (by decide) dX10_part_49 ?_
        refine sb_iload_n (pc' := 52) rfl rfl dX10_part_51 ?_
        refine sb_if_eq (pc' := 55) (tgt := 68) rfl (by decide) hx2 dX10_part_52 ?_ ?_
        · intro cc; have H := H.1 cc
          refine sb_aload_n (pc' := 69) rfl rfl dX10_part_68 ?_
          refine sb_getR (pc' := 72) rfl fr_0_1 wd_643 dX10_part_69 ?_
          refine sb_getCN (pc' := 75) rfl (fcK_3 o6) wd_210 dX10_part_72 ?_
          refine sb_iload (pc' := 77) rfl rfl dX10_part_75 ?_
          obtain ⟨o8, H⟩ := H
          refine sb_iald (pc' := 78) rfl (aIK_3 o6) o8.1 o8.2 dX10_part_77 ?_
          exact sb_iret rfl rfl dX10_part_78 (H (SR_ia hs1 _ _) hs1)
        · intro cc; have H := H.2 cc
          refine sb_aload_n (pc' := 56) rfl rfl dX10_part_55 ?_
          refine sb_getR (pc' := 59) rfl fr_0_1 wd_643 dX10_part_56 ?_
          refine sb_getCN (pc' := 62) rfl (fcK_5 o6) wd_216 dX10_part_59 ?_
          refine sb_iload (pc' := 64) rfl rfl dX10_part_62 ?_
          obtain ⟨o9, H⟩ := H
          refine sb_iald (pc' := 65) rfl (aIK_5 o6) o9.1 o9.2 dX10_part_64 ?_
          refine sb_goto (tgt := 78) (by decide) dX10_part_65 ?_
          exact sb_iret rfl rfl dX10_part_78 (H (SR_ia hs1 _ _) hs1)
      · intro cc; have H := H.2 cc
        refine sb_iconst (pc' := 43) rfl dX10_part_42 ?_
        exact sb_iret rfl rfl dX10_part_43 (H (iR_lit rfl) hs1)
theorem bX10_after_0 {g : AG} {ad : Nat → Nat} {d : Nat} {Q : AO → SG → Prop} {rc rs : Nat} {σ : SG} {x1 x2 : Int}  (hx1 : iR x1) (hx2 : iR x2) (hS : SR σ) (H : ((x1 = ((-1)) → (iR x1 → iR x2 → SR σ → Wb g ad d mX10_after Q 10 [some (.ref (ad 0)), some (vi x1), some (vi x2)] [] σ (rc + 2) (rs + 12))) ∧ (¬ x1 = ((-1)) → Cl g ad d mX10_checkWord 1 6 [(.ref (ad 0)), (vi x1)] σ (Kx (Kv fun s1 => (iR x1 → iR x2 → SR s1 → Wb g ad d mX10_after Q 10 [some (.ref (ad 0)), some (vi x1), some (vi x2)] [] s1 (rc + 1) (rs + 6))) (fun E s1 => SR s1 → Q (.inr E) s1))))) : Wb g ad d mX10_after Q 0 [some (.ref (ad 0)), some (vi x1), some (vi x2)] [] σ (rc + 2) (rs + 12) := by
  refine sb_iload_n (pc' := 1) rfl rfl dX10_after_0 ?_
  refine sb_iconst (pc' := 2) rfl dX10_after_1 ?_
  refine sb_icmp_eq (pc' := 5) (tgt := 10) rfl (by decide) hx1 (iR_lit rfl) dX10_after_2 ?_ ?_
  · intro cc; have H := H.1 cc
    exact (H hx1 hx2 hS)
  · intro cc; have H := H.2 cc
    refine sb_aload_n (pc' := 6) rfl rfl dX10_after_5 ?_
    refine sb_iload_n (pc' := 7) rfl rfl dX10_after_6 ?_
    obtain ⟨d1, hd1, H⟩ := H
    refine sb_callV (pc' := 10) rfl rfl (rc := (rc + 1)) (rs := (rs + 6)) (mc' := 1) (ms' := 6) (As := [(vi x1)]) (st := []) of_0 rfl rfl (Nat.le_of_ble_eq_true rfl) hd1 kX10_checkWord ⟨wd_1255, wd_1257, wd_79⟩ dX10_after_7 (Eb.mono H ?_)
    rintro o s1 (⟨rfl, hs1, H⟩ | ⟨E, rfl, hs1, H⟩)
    case inr => exact H hs1
    show Wb g ad d mX10_after Q 10 [some (.ref (ad 0)), some (vi x1), some (vi x2)] [] s1 (rc + 1) (rs + 6)
    exact (H hx1 hx2 hs1)
theorem bX10_after_10 {g : AG} {ad : Nat → Nat} {d : Nat} {Q : AO → SG → Prop} {rc rs : Nat} {σ : SG} {x1 x2 : Int}  (hx1 : iR x1) (hx2 : iR x2) (hS : SR σ) (H : ((x2 = ((-1)) → (iR x1 → iR x2 → SR σ → Wb g ad d mX10_after Q 20 [some (.ref (ad 0)), some (vi x1), some (vi x2)] [] σ (rc + 1) (rs + 6))) ∧ (¬ x2 = ((-1)) → Cl g ad d mX10_checkWord 1 6 [(.ref (ad 0)), (vi x2)] σ (Kx (Kv fun s1 => (iR x1 → iR x2 → SR s1 → Wb g ad d mX10_after Q 20 [some (.ref (ad 0)), some (vi x1), some (vi x2)] [] s1 rc rs)) (fun E s1 => SR s1 → Q (.inr E) s1))))) : Wb g ad d mX10_after Q 10 [some (.ref (ad 0)), some (vi x1), some (vi x2)] [] σ (rc + 1) (rs + 6) := by
  refine sb_iload_n (pc' := 11) rfl rfl dX10_after_10 ?_
  refine sb_iconst (pc' := 12) rfl dX10_after_11 ?_
  refine sb_icmp_eq (pc' := 15) (tgt := 20) rfl (by decide) hx2 (iR_lit rfl) dX10_after_12 ?_ ?_
  · intro cc; have H := H.1 cc
    exact (H hx1 hx2 hS)
  · intro cc; have H := H.2 cc
    refine sb_aload_n (pc' := 16) rfl rfl dX10_after_15 ?_
    refine sb_iload_n (pc' := 17) rfl rfl dX10_after_16 ?_
    obtain ⟨d1, hd1, H⟩ := H
    refine sb_callV (pc' := 20) rfl rfl (rc := rc) (rs := rs) (mc' := 1) (ms' := 6) (As := [(vi x2)]) (st := []) of_0 rfl rfl (Nat.le_of_ble_eq_true rfl) hd1 kX10_checkWord ⟨wd_1255, wd_1257, wd_79⟩ dX10_after_17 (Eb.mono H ?_)
    rintro o s1 (⟨rfl, hs1, H⟩ | ⟨E, rfl, hs1, H⟩)
    case inr => exact H hs1
    show Wb g ad d mX10_after Q 20 [some (.ref (ad 0)), some (vi x1), some (vi x2)] [] s1 rc rs
    exact (H hx1 hx2 hs1)
theorem bX10_after_20 {g : AG} {ad : Nat → Nat} {d : Nat} {Q : AO → SG → Prop} {rc rs : Nat} {σ : SG} {x1 x2 : Int}  (hx1 : iR x1) (hx2 : iR x2) (hS : SR σ) (H : isK (rv σ 0 1) ∧ ((¬ x1 = ((-1)) → ((¬ x2 = ((-1)) → Cl g ad d mX2_flow 0 0 [(.ref (ad (rv σ 0 1))), (vi x1), (vi x2)] σ (Ki fun r2 s2 => (iR r2 → SR s2 → Q (.inl (some (vi r2))) s2))) ∧ (x2 = ((-1)) → Cl g ad d mX2_flow 0 0 [(.ref (ad (rv σ 0 1))), (vi x1), (vi 40)] σ (Ki fun r3 s3 => (iR r3 → SR s3 → Q (.inl (some (vi r3))) s3))))) ∧ (x1 = ((-1)) → ((¬ x2 = ((-1)) → Cl g ad d mX2_flow 0 0 [(.ref (ad (rv σ 0 1))), (vi 40), (vi x2)] σ (Ki fun r4 s4 => (iR r4 → SR s4 → Q (.inl (some (vi r4))) s4))) ∧ (x2 = ((-1)) → Cl g ad d mX2_flow 0 0 [(.ref (ad (rv σ 0 1))), (vi 40), (vi 40)] σ (Ki fun r5 s5 => (iR r5 → SR s5 → Q (.inl (some (vi r5))) s5))))))) : Wb g ad d mX10_after Q 20 [some (.ref (ad 0)), some (vi x1), some (vi x2)] [] σ rc rs := by
  refine sb_aload_n (pc' := 21) rfl rfl dX10_after_20 ?_
  obtain ⟨o1, H⟩ := H
  refine sb_getR (pc' := 24) rfl fr_0_1 wd_643 dX10_after_21 ?_
  refine sb_iload_n (pc' := 25) rfl rfl dX10_after_24 ?_
  refine sb_iconst (pc' := 26) rfl dX10_after_25 ?_
  refine sb_icmp_ne (pc' := 29) (tgt := 34) rfl (by decide) hx1 (iR_lit rfl) dX10_after_26 ?_ ?_
  · intro cc; have H := H.1 cc
    refine sb_iload_n (pc' := 35) rfl rfl dX10_after_34 ?_
    refine sb_iload_n (pc' := 36) rfl rfl dX10_after_35 ?_
    refine sb_iconst (pc' := 37) rfl dX10_after_36 ?_
    refine sb_icmp_ne (pc' := 40) (tgt := 45) rfl (by decide) hx2 (iR_lit rfl) dX10_after_37 ?_ ?_
    · intro cc; have H := H.1 cc
      refine sb_iload_n (pc' := 46) rfl rfl dX10_after_45 ?_
      obtain ⟨d2, hd2, H⟩ := H
      refine sb_callVN (pc' := 49) rfl rfl (rc := rc) (rs := rs) (mc' := 0) (ms' := 0) (As := [(vi x1), (vi x2)]) (st := []) (ofK o1) rfl rfl (Nat.le_of_ble_eq_true rfl) hd2 kX2_flow ⟨wd_1322, wd_736, wd_6⟩ dX10_after_46 (Eb.mono H ?_)
      rintro o s2 ⟨r2, rfl, hr2, hs2, H⟩
      show Wb g ad d mX10_after Q 49 [some (.ref (ad 0)), some (vi x1), some (vi x2)] [(vi r2)] s2 rc rs
      exact sb_iret rfl rfl dX10_after_49 (H hr2 hs2)
    · intro cc; have H := H.2 cc
      refine sb_bipush (pc' := 42) rfl (z := 40) (by decide) dX10_after_40 ?_
      refine sb_goto (tgt := 46) (by decide) dX10_after_42 ?_
      obtain ⟨d3, hd3, H⟩ := H
      refine sb_callVN (pc' := 49) rfl rfl (rc := rc) (rs := rs) (mc' := 0) (ms' := 0) (As := [(vi x1), (vi 40)]) (st := []) (ofK o1) rfl rfl (Nat.le_of_ble_eq_true rfl) hd3 kX2_flow ⟨wd_1322, wd_736, wd_6⟩ dX10_after_46 (Eb.mono H ?_)
      rintro o s3 ⟨r3, rfl, hr3, hs3, H⟩
      show Wb g ad d mX10_after Q 49 [some (.ref (ad 0)), some (vi x1), some (vi x2)] [(vi r3)] s3 rc rs
      exact sb_iret rfl rfl dX10_after_49 (H hr3 hs3)
  · intro cc; have H := H.2 cc
    refine sb_bipush (pc' := 31) rfl (z := 40) (by decide) dX10_after_29 ?_
    refine sb_goto (tgt := 35) (by decide) dX10_after_31 ?_
    refine sb_iload_n (pc' := 36) rfl rfl dX10_after_35 ?_
    refine sb_iconst (pc' := 37) rfl dX10_after_36 ?_
    refine sb_icmp_ne (pc' := 40) (tgt := 45) rfl (by decide) hx2 (iR_lit rfl) dX10_after_37 ?_ ?_
    · intro cc; have H := H.1 cc
      refine sb_iload_n (pc' := 46) rfl rfl dX10_after_45 ?_
      obtain ⟨d4, hd4, H⟩ := H
      refine sb_callVN (pc' := 49) rfl rfl (rc := rc) (rs := rs) (mc' := 0) (ms' := 0) (As := [(vi 40), (vi x2)]) (st := []) (ofK o1) rfl rfl (Nat.le_of_ble_eq_true rfl) hd4 kX2_flow ⟨wd_1322, wd_736, wd_6⟩ dX10_after_46 (Eb.mono H ?_)
      rintro o s4 ⟨r4, rfl, hr4, hs4, H⟩
      show Wb g ad d mX10_after Q 49 [some (.ref (ad 0)), some (vi x1), some (vi x2)] [(vi r4)] s4 rc rs
      exact sb_iret rfl rfl dX10_after_49 (H hr4 hs4)
    · intro cc; have H := H.2 cc
      refine sb_bipush (pc' := 42) rfl (z := 40) (by decide) dX10_after_40 ?_
      refine sb_goto (tgt := 46) (by decide) dX10_after_42 ?_
      obtain ⟨d5, hd5, H⟩ := H
      refine sb_callVN (pc' := 49) rfl rfl (rc := rc) (rs := rs) (mc' := 0) (ms' := 0) (As := [(vi 40), (vi 40)]) (st := []) (ofK o1) rfl rfl (Nat.le_of_ble_eq_true rfl) hd5 kX2_flow ⟨wd_1322, wd_736, wd_6⟩ dX10_after_46 (Eb.mono H ?_)
      rintro o s5 ⟨r5, rfl, hr5, hs5, H⟩
      show Wb g ad d mX10_after Q 49 [some (.ref (ad 0)), some (vi x1), some (vi x2)] [(vi r5)] s5 rc rs
      exact sb_iret rfl rfl dX10_after_49 (H hr5 hs5)
theorem bX10_place_0 {g : AG} {ad : Nat → Nat} {d : Nat} {Q : AO → SG → Prop} {rc rs : Nat} {σ : SG} {x1 : Int}  (hx1 : iR x1) (hS : SR σ) (H : Cl g ad d mX10_checkPlace 1 6 [(.ref (ad 0)), (vi x1)] σ (Kx (Kv fun s1 => isK (rv s1 0 1) ∧ (0 ≤ x1 ∧ x1 < 6) ∧ (iR (ia s1 (rv s1 0 1 + 10) x1) → SR s1 → Q (.inl (some (vi (ia s1 (rv s1 0 1 + 10) x1)))) s1)) (fun E s1 => SR s1 → Q (.inr E) s1))) : Wb g ad d mX10_place Q 0 [some (.ref (ad 0)), some (vi x1)] [] σ (rc + 1) (rs + 6) := by
  refine sb_aload_n (pc' := 1) rfl rfl dX10_place_0 ?_
  refine sb_iload_n (pc' := 2) rfl rfl dX10_place_1 ?_
  obtain ⟨d1, hd1, H⟩ := H
  refine sb_callV (pc' := 5) rfl rfl (rc := rc) (rs := rs) (mc' := 1) (ms' := 6) (As := [(vi x1)]) (st := []) of_0 rfl rfl (Nat.le_of_ble_eq_true rfl) hd1 kX10_checkPlace ⟨wd_1330, wd_1332, wd_82⟩ dX10_place_2 (Eb.mono H ?_)
  rintro o s1 (⟨rfl, hs1, H⟩ | ⟨E, rfl, hs1, H⟩)
  case inr => exact H hs1
  show Wb g ad d mX10_place Q 5 [some (.ref (ad 0)), some (vi x1)] [] s1 rc rs
  refine sb_aload_n (pc' := 6) rfl rfl dX10_place_5 ?_
  obtain ⟨o2, H⟩ := H
  refine sb_getR (pc' := 9) rfl fr_0_1 wd_643 dX10_place_6 ?_
  refine sb_getCN (pc' := 12) rfl (fcK_12 o2) wd_235 dX10_place_9 ?_
  refine sb_iload_n (pc' := 13) rfl rfl dX10_place_12 ?_
  obtain ⟨o3, H⟩ := H
  refine sb_iald (pc' := 14) rfl (aIK_10 o2) o3.1 o3.2 dX10_place_13 ?_
  exact sb_iret rfl rfl dX10_place_14 (H (SR_ia hs1 _ _) hs1)
theorem bX10_put_0 {g : AG} {ad : Nat → Nat} {d : Nat} {Q : AO → SG → Prop} {rc rs : Nat} {σ : SG} {x1 x2 : Int}  (hx1 : iR x1) (hx2 : iR x2) (hS : SR σ) (H : Cl g ad d mX10_checkPlace 1 6 [(.ref (ad 0)), (vi x1)] σ (Kx (Kv fun s1 => Cl g ad d mX10_checkWord 1 6 [(.ref (ad 0)), (vi x2)] s1 (Kx (Kv fun s2 => isK (rv s2 0 1) ∧ (0 ≤ x1 ∧ x1 < 6) ∧ Cl g ad d mX10_forgetOptions 0 0 [(.ref (ad 0))] (setI s2 (rv s2 0 1 + 10) x1 x2) (Kv fun s5 => (iR (ia s2 (rv s2 0 1 + 10) x1) → SR s5 → Q (.inl (some (vi (ia s2 (rv s2 0 1 + 10) x1)))) s5))) (fun E s2 => SR s2 → Q (.inr E) s2))) (fun E s1 => SR s1 → Q (.inr E) s1))) : Wb g ad d mX10_put Q 0 [some (.ref (ad 0)), some (vi x1), some (vi x2), none] [] σ (rc + 2) (rs + 12) := by
  refine sb_aload_n (pc' := 1) rfl rfl dX10_put_0 ?_
  refine sb_iload_n (pc' := 2) rfl rfl dX10_put_1 ?_
  obtain ⟨d1, hd1, H⟩ := H
  refine sb_callV (pc' := 5) rfl rfl (rc := (rc + 1)) (rs := (rs + 6)) (mc' := 1) (ms' := 6) (As := [(vi x1)]) (st := []) of_0 rfl rfl (Nat.le_of_ble_eq_true rfl) hd1 kX10_checkPlace ⟨wd_1330, wd_1332, wd_82⟩ dX10_put_2 (Eb.mono H ?_)
  rintro o s1 (⟨rfl, hs1, H⟩ | ⟨E, rfl, hs1, H⟩)
  case inr => exact H hs1
  show Wb g ad d mX10_put Q 5 [some (.ref (ad 0)), some (vi x1), some (vi x2), none] [] s1 (rc + 1) (rs + 6)
  refine sb_aload_n (pc' := 6) rfl rfl dX10_put_5 ?_
  refine sb_iload_n (pc' := 7) rfl rfl dX10_put_6 ?_
  obtain ⟨d2, hd2, H⟩ := H
  refine sb_callV (pc' := 10) rfl rfl (rc := rc) (rs := rs) (mc' := 1) (ms' := 6) (As := [(vi x2)]) (st := []) of_0 rfl rfl (Nat.le_of_ble_eq_true rfl) hd2 kX10_checkWord ⟨wd_1255, wd_1257, wd_79⟩ dX10_put_7 (Eb.mono H ?_)
  rintro o s2 (⟨rfl, hs2, H⟩ | ⟨E, rfl, hs2, H⟩)
  case inr => exact H hs2
  show Wb g ad d mX10_put Q 10 [some (.ref (ad 0)), some (vi x1), some (vi x2), none] [] s2 rc rs
  refine sb_aload_n (pc' := 11) rfl rfl dX10_put_10 ?_
  obtain ⟨o3, H⟩ := H
  refine sb_getR (pc' := 14) rfl fr_0_1 wd_643 dX10_put_11 ?_
  refine sb_getCN (pc' := 17) rfl (fcK_12 o3) wd_235 dX10_put_14 ?_
  refine sb_iload_n (pc' := 18) rfl rfl dX10_put_17 ?_
  obtain ⟨o4, H⟩ := H
  refine sb_iald (pc' := 19) rfl (aIK_10 o3) o4.1 o4.2 dX10_put_18 ?_
  refine sb_istore_n (pc' := 20) rfl (L' := [some (.ref (ad 0)), some (vi x1), some (vi x2), some (vi (ia s2 (rv s2 0 1 + 10) x1))]) rfl (by decide) dX10_put_19 ?_
  refine sb_aload_n (pc' := 21) rfl rfl dX10_put_20 ?_
  refine sb_getR (pc' := 24) rfl fr_0_1 wd_643 dX10_put_21 ?_
  refine sb_getCN (pc' := 27) rfl (fcK_12 o3) wd_235 dX10_put_24 ?_
  refine sb_iload_n (pc' := 28) rfl rfl dX10_put_27 ?_
  refine sb_iload_n (pc' := 29) rfl rfl dX10_put_28 ?_
  refine sb_iast (pc' := 30) rfl (aIK_10 o3) o4.1 o4.2  dX10_put_29 ?_
  refine sb_aload_n (pc' := 31) rfl rfl dX10_put_30 ?_
  obtain ⟨d5, hd5, H⟩ := H
  refine sb_callV (pc' := 34) rfl rfl (rc := rc) (rs := rs) (mc' := 0) (ms' := 0) (As := []) (st := []) of_0 rfl rfl (Nat.le_of_ble_eq_true rfl) hd5 kX10_forgetOptions ⟨wd_979, wd_981, wd_47⟩ dX10_put_31 (Eb.mono H ?_)
  rintro o s5 ⟨rfl, hs5, H⟩
  show Wb g ad d mX10_put Q 34 [some (.ref (ad 0)), some (vi x1), some (vi x2), some (vi (ia s2 (rv s2 0 1 + 10) x1))] [] s5 rc rs
  refine sb_iload_n (pc' := 35) rfl rfl dX10_put_34 ?_
  exact sb_iret rfl rfl dX10_put_35 (H (SR_ia hs2 _ _) hs5)
theorem bX10_price_0 {g : AG} {ad : Nat → Nat} {d : Nat} {Q : AO → SG → Prop} {rc rs : Nat} {σ : SG} {x1 x2 : Int}  (hx1 : iR x1) (hx2 : iR x2) (hS : SR σ) (H : Cl g ad d mX10_checkPhrase 1 6 [(.ref (ad 0)), (vi x1)] σ (Kx (Kv fun s1 => ((x2 < 0 → 8 ≤ d ∧ (SR s1 → Q (.inr "java/lang/IllegalArgumentException") s1)) ∧ (¬ x2 < 0 → ((x2 ≤ 99 → isK (rv s1 0 1) ∧ (0 ≤ x1 ∧ x1 < 30) ∧ Cl g ad d mX10_forgetOptions 0 0 [(.ref (ad 0))] (setI s1 (rv s1 0 1 + 7) x1 x2) (Kv fun s5 => (iR (ia s1 (rv s1 0 1 + 7) x1) → SR s5 → Q (.inl (some (vi (ia s1 (rv s1 0 1 + 7) x1)))) s5))) ∧ (¬ x2 ≤ 99 → 8 ≤ d ∧ (SR s1 → Q (.inr "java/lang/IllegalArgumentException") s1)))))) (fun E s1 => SR s1 → Q (.inr E) s1))) : Wb g ad d mX10_price Q 0 [some (.ref (ad 0)), some (vi x1), some (vi x2), none] [] σ (rc + 2) (rs + 12) := by
  refine sb_aload_n (pc' := 1) rfl rfl dX10_price_0 ?_
  refine sb_iload_n (pc' := 2) rfl rfl dX10_price_1 ?_
  obtain ⟨d1, hd1, H⟩ := H
  refine sb_callV (pc' := 5) rfl rfl (rc := (rc + 1)) (rs := (rs + 6)) (mc' := 1) (ms' := 6) (As := [(vi x1)]) (st := []) of_0 rfl rfl (Nat.le_of_ble_eq_true rfl) hd1 kX10_checkPhrase ⟨wd_1283, wd_1285, wd_80⟩ dX10_price_2 (Eb.mono H ?_)
  rintro o s1 (⟨rfl, hs1, H⟩ | ⟨E, rfl, hs1, H⟩)
  case inr => exact H hs1
  show Wb g ad d mX10_price Q 5 [some (.ref (ad 0)), some (vi x1), some (vi x2), none] [] s1 (rc + 1) (rs + 6)
  refine sb_iload_n (pc' := 6) rfl rfl dX10_price_5 ?_
  refine sb_if_lt (pc' := 9) (tgt := 15) rfl (by decide) hx2 dX10_price_6 ?_ ?_
  · intro cc; have H := H.1 cc
    obtain ⟨o2, H⟩ := H
    exact sb_throw rfl (thr_IllegalArgumentException_221) (cls := "java/lang/IllegalArgumentException") (text := "no such cost") (rc := rc) (rs := rs) o2 (Nat.le_of_ble_eq_true rfl) wd_1086 wd_180 ⟨rfl, by decide +kernel⟩ dX10_price_15 dX10_price_18 dX10_price_19 dX10_price_21 dX10_price_24 (H hs1)
  · intro cc; have H := H.2 cc
    refine sb_iload_n (pc' := 10) rfl rfl dX10_price_9 ?_
    refine sb_bipush (pc' := 12) rfl (z := 99) (by decide) dX10_price_10 ?_
    refine sb_icmp_le (pc' := 15) (tgt := 25) rfl (by decide) hx2 (iR_lit rfl) dX10_price_12 ?_ ?_
    · intro cc; have H := H.1 cc
      refine sb_aload_n (pc' := 26) rfl rfl dX10_price_25 ?_
      obtain ⟨o3, H⟩ := H
      refine sb_getR (pc' := 29) rfl fr_0_1 wd_643 dX10_price_26 ?_
      refine sb_getCN (pc' := 32) rfl (fcK_7 o3) wd_223 dX10_price_29 ?_
      refine sb_iload_n (pc' := 33) rfl rfl dX10_price_32 ?_
      obtain ⟨o4, H⟩ := H
      refine sb_iald (pc' := 34) rfl (aIK_7 o3) o4.1 o4.2 dX10_price_33 ?_
      refine sb_istore_n (pc' := 35) rfl (L' := [some (.ref (ad 0)), some (vi x1), some (vi x2), some (vi (ia s1 (rv s1 0 1 + 7) x1))]) rfl (by decide) dX10_price_34 ?_
      refine sb_aload_n (pc' := 36) rfl rfl dX10_price_35 ?_
      refine sb_getR (pc' := 39) rfl fr_0_1 wd_643 dX10_price_36 ?_
      refine sb_getCN (pc' := 42) rfl (fcK_7 o3) wd_223 dX10_price_39 ?_
      refine sb_iload_n (pc' := 43) rfl rfl dX10_price_42 ?_
      refine sb_iload_n (pc' := 44) rfl rfl dX10_price_43 ?_
      refine sb_iast (pc' := 45) rfl (aIK_7 o3) o4.1 o4.2  dX10_price_44 ?_
      refine sb_aload_n (pc' := 46) rfl rfl dX10_price_45 ?_
      obtain ⟨d5, hd5, H⟩ := H
      refine sb_callV (pc' := 49) rfl rfl (rc := (rc + 1)) (rs := (rs + 6)) (mc' := 0) (ms' := 0) (As := []) (st := []) of_0 rfl rfl (Nat.le_of_ble_eq_true rfl) hd5 kX10_forgetOptions ⟨wd_979, wd_981, wd_47⟩ dX10_price_46 (Eb.mono H ?_)
      rintro o s5 ⟨rfl, hs5, H⟩
      show Wb g ad d mX10_price Q 49 [some (.ref (ad 0)), some (vi x1), some (vi x2), some (vi (ia s1 (rv s1 0 1 + 7) x1))] [] s5 (rc + 1) (rs + 6)
      refine sb_iload_n (pc' := 50) rfl rfl dX10_price_49 ?_
      exact sb_iret rfl rfl dX10_price_50 (H (SR_ia hs1 _ _) hs5)
    · intro cc; have H := H.2 cc
      obtain ⟨o6, H⟩ := H
      exact sb_throw rfl (thr_IllegalArgumentException_221) (cls := "java/lang/IllegalArgumentException") (text := "no such cost") (rc := rc) (rs := rs) o6 (Nat.le_of_ble_eq_true rfl) wd_1086 wd_180 ⟨rfl, by decide +kernel⟩ dX10_price_15 dX10_price_18 dX10_price_19 dX10_price_21 dX10_price_24 (H hs1)
theorem bX10_drop_0 {g : AG} {ad : Nat → Nat} {d : Nat} {Q : AO → SG → Prop} {rc rs : Nat} {σ : SG} {x1 x2 : Int}  (hx1 : iR x1) (hx2 : iR x2) (hS : SR σ) (H : Cl g ad d mX10_checkPhrase 1 6 [(.ref (ad 0)), (vi x1)] σ (Kx (Kv fun s1 => isK (rv s1 0 1) ∧ (0 ≤ x1 ∧ x1 < 30) ∧ ((¬ (ia s1 (rv s1 0 1 + 8) x1) = x2 → ((¬ x2 = 0 → (x2 = 0 ∨ x2 = 1) ∧ Cl g ad d mX10_forgetOptions 0 0 [(.ref (ad 0))] (setI s1 (rv s1 0 1 + 8) x1 x2) (Kv fun s5 => (iR 1 → SR s5 → Q (.inl (some (vi 1))) s5))) ∧ (x2 = 0 → Cl g ad d mX2_hasTwin 0 0 [(.ref (ad (rv s1 0 1))), (vi x1)] s1 (Ki fun r6 s6 => ((r6 = 0 → isK (rv s6 0 1) ∧ (x2 = 0 ∨ x2 = 1) ∧ Cl g ad d mX10_forgetOptions 0 0 [(.ref (ad 0))] (setI s6 (rv s6 0 1 + 8) x1 x2) (Kv fun s9 => (iR 1 → SR s9 → Q (.inl (some (vi 1))) s9))) ∧ (¬ r6 = 0 → 8 ≤ d ∧ (SR s6 → Q (.inr "java/lang/IllegalArgumentException") s6))))))) ∧ ((ia s1 (rv s1 0 1 + 8) x1) = x2 → (iR 0 → SR s1 → Q (.inl (some (vi 0))) s1)))) (fun E s1 => SR s1 → Q (.inr E) s1))) : Wb g ad d mX10_drop Q 0 [some (.ref (ad 0)), some (vi x1), some (vi x2)] [] σ (rc + 2) (rs + 12) := by
  refine sb_aload_n (pc' := 1) rfl rfl dX10_drop_0 ?_
  refine sb_iload_n (pc' := 2) rfl rfl dX10_drop_1 ?_
  obtain ⟨d1, hd1, H⟩ := H
  refine sb_callV (pc' := 5) rfl rfl (rc := (rc + 1)) (rs := (rs + 6)) (mc' := 1) (ms' := 6) (As := [(vi x1)]) (st := []) of_0 rfl rfl (Nat.le_of_ble_eq_true rfl) hd1 kX10_checkPhrase ⟨wd_1283, wd_1285, wd_80⟩ dX10_drop_2 (Eb.mono H ?_)
  rintro o s1 (⟨rfl, hs1, H⟩ | ⟨E, rfl, hs1, H⟩)
  case inr => exact H hs1
  show Wb g ad d mX10_drop Q 5 [some (.ref (ad 0)), some (vi x1), some (vi x2)] [] s1 (rc + 1) (rs + 6)
  refine sb_aload_n (pc' := 6) rfl rfl dX10_drop_5 ?_
  obtain ⟨o2, H⟩ := H
  refine sb_getR (pc' := 9) rfl fr_0_1 wd_643 dX10_drop_6 ?_
  refine sb_getCN (pc' := 12) rfl (fcK_8 o2) wd_225 dX10_drop_9 ?_
  refine sb_iload_n (pc' := 13) rfl rfl dX10_drop_12 ?_
  obtain ⟨o3, H⟩ := H
  refine sb_zald (pc' := 14) rfl (aZK_8 o2) o3.1 o3.2 dX10_drop_13 ?_
  refine sb_iload_n (pc' := 15) rfl rfl dX10_drop_14 ?_
  refine sb_icmp_ne (pc' := 18) (tgt := 20) rfl (by decide) (SR_ia hs1 _ _) hx2 dX10_drop_15 ?_ ?_
  · intro cc; have H := H.1 cc
    refine sb_iload_n (pc' := 21) rfl rfl dX10_drop_20 ?_
    refine sb_if_ne (pc' := 24) (tgt := 45) rfl (by decide) hx2 dX10_drop_21 ?_ ?_
    · intro cc; have H := H.1 cc
      refine sb_aload_n (pc' := 46) rfl rfl dX10_drop_45 ?_
      refine sb_getR (pc' := 49) rfl fr_0_1 wd_643 dX10_drop_46 ?_
      refine sb_getCN (pc' := 52) rfl (fcK_8 o2) wd_225 dX10_drop_49 ?_
      refine sb_iload_n (pc' := 53) rfl rfl dX10_drop_52 ?_
      refine sb_iload_n (pc' := 54) rfl rfl dX10_drop_53 ?_
      obtain ⟨o4, H⟩ := H
      refine sb_zast (pc' := 55) rfl (aZK_8 o2) o3.1 o3.2 o4 dX10_drop_54 ?_
      refine sb_aload_n (pc' := 56) rfl rfl dX10_drop_55 ?_
      obtain ⟨d5, hd5, H⟩ := H
      refine sb_callV (pc' := 59) rfl rfl (rc := (rc + 1)) (rs := (rs + 6)) (mc' := 0) (ms' := 0) (As := []) (st := []) of_0 rfl rfl (Nat.le_of_ble_eq_true rfl) hd5 kX10_forgetOptions ⟨wd_979, wd_981, wd_47⟩ dX10_drop_56 (Eb.mono H ?_)
      rintro o s5 ⟨rfl, hs5, H⟩
      show Wb g ad d mX10_drop Q 59 [some (.ref (ad 0)), some (vi x1), some (vi x2)] [] s5 (rc + 1) (rs + 6)
      refine sb_iconst (pc' := 60) rfl dX10_drop_59 ?_
      exact sb_iret rfl (nar_z2 (Or.inr rfl)) dX10_drop_60 (H (iR_lit rfl) hs5)
    · intro cc; have H := H.2 cc
      refine sb_aload_n (pc' := 25) rfl rfl dX10_drop_24 ?_
      refine sb_getR (pc' := 28) rfl fr_0_1 wd_643 dX10_drop_25 ?_
      refine sb_iload_n (pc' := 29) rfl rfl dX10_drop_28 ?_
      obtain ⟨d6, hd6, H⟩ := H
      refine sb_callVN (pc' := 32) rfl rfl (rc := (rc + 1)) (rs := (rs + 6)) (mc' := 0) (ms' := 0) (As := [(vi x1)]) (st := []) (ofK o2) rfl rfl (Nat.le_of_ble_eq_true rfl) hd6 kX2_hasTwin ⟨wd_1357, wd_1359, wd_83⟩ dX10_drop_29 (Eb.mono H ?_)
      rintro o s6 ⟨r6, rfl, hr6, hs6, H⟩
      show Wb g ad d mX10_drop Q 32 [some (.ref (ad 0)), some (vi x1), some (vi x2)] [(vi r6)] s6 (rc + 1) (rs + 6)
      refine sb_if_eq (pc' := 35) (tgt := 45) rfl (by decide) hr6 dX10_drop_32 ?_ ?_
      · intro cc; have H := H.1 cc
        refine sb_aload_n (pc' := 46) rfl rfl dX10_drop_45 ?_
        obtain ⟨o7, H⟩ := H
        refine sb_getR (pc' := 49) rfl fr_0_1 wd_643 dX10_drop_46 ?_
        refine sb_getCN (pc' := 52) rfl (fcK_8 o7) wd_225 dX10_drop_49 ?_
        refine sb_iload_n (pc' := 53) rfl rfl dX10_drop_52 ?_
        refine sb_iload_n (pc' := 54) rfl rfl dX10_drop_53 ?_
        obtain ⟨o8, H⟩ := H
        refine sb_zast (pc' := 55) rfl (aZK_8 o7) o3.1 o3.2 o8 dX10_drop_54 ?_
        refine sb_aload_n (pc' := 56) rfl rfl dX10_drop_55 ?_
        obtain ⟨d9, hd9, H⟩ := H
        refine sb_callV (pc' := 59) rfl rfl (rc := (rc + 1)) (rs := (rs + 6)) (mc' := 0) (ms' := 0) (As := []) (st := []) of_0 rfl rfl (Nat.le_of_ble_eq_true rfl) hd9 kX10_forgetOptions ⟨wd_979, wd_981, wd_47⟩ dX10_drop_56 (Eb.mono H ?_)
        rintro o s9 ⟨rfl, hs9, H⟩
        show Wb g ad d mX10_drop Q 59 [some (.ref (ad 0)), some (vi x1), some (vi x2)] [] s9 (rc + 1) (rs + 6)
        refine sb_iconst (pc' := 60) rfl dX10_drop_59 ?_
        exact sb_iret rfl (nar_z2 (Or.inr rfl)) dX10_drop_60 (H (iR_lit rfl) hs9)
      · intro cc; have H := H.2 cc
        obtain ⟨o10, H⟩ := H
        exact sb_throw rfl (thr_IllegalArgumentException_221) (cls := "java/lang/IllegalArgumentException") (text := "another phrase of the same words is there") (rc := rc) (rs := rs) o10 (Nat.le_of_ble_eq_true rfl) wd_1086 wd_180 ⟨rfl, by decide +kernel⟩ dX10_drop_35 dX10_drop_38 dX10_drop_39 dX10_drop_41 dX10_drop_44 (H hs6)
  · intro cc; have H := H.2 cc
    refine sb_iconst (pc' := 19) rfl dX10_drop_18 ?_
    exact sb_iret rfl (nar_z2 (Or.inl rfl)) dX10_drop_19 (H (iR_lit rfl) hs1)
theorem bX10_tune_0 {g : AG} {ad : Nat → Nat} {d : Nat} {Q : AO → SG → Prop} {rc rs : Nat} {σ : SG} {x1 x2 : Int}  (hx1 : iR x1) (hx2 : iR x2) (hS : SR σ) (H : ((x1 < 0 → 8 ≤ d ∧ (SR σ → Q (.inr "java/util/NoSuchElementException") σ)) ∧ (¬ x1 < 0 → ((x1 < 5 → (0 ≤ x1 ∧ x1 < 5) ∧ iR (lst x1) ∧ ((x2 < (lst x1) → 8 ≤ d ∧ (SR σ → Q (.inr "java/lang/IllegalArgumentException") σ)) ∧ (¬ x2 < (lst x1) → iR (mst x1) ∧ ((x2 ≤ (mst x1) → isK (rv σ 0 1) ∧ ((x1 = 0 → Cl g ad d mX10_forgetOptions 0 0 [(.ref (ad 0))] (setI σ (rv σ 0 1 + 11) x1 x2) (Kv fun s7 => (iR (ia σ (rv σ 0 1 + 11) x1) → SR s7 → Q (.inl (some (vi (ia σ (rv σ 0 1 + 11) x1)))) s7))) ∧ (¬ x1 = 0 → ((¬ x1 = 1 → Cl g ad d mX10_forgetWays 0 0 [(.ref (ad 0))] (setI σ (rv σ 0 1 + 11) x1 x2) (Kv fun s8 => (iR (ia σ (rv σ 0 1 + 11) x1) → SR s8 → Q (.inl (some (vi (ia σ (rv σ 0 1 + 11) x1)))) s8))) ∧ (x1 = 1 → Cl g ad d mX10_forgetOptions 0 0 [(.ref (ad 0))] (setI σ (rv σ 0 1 + 11) x1 x2) (Kv fun s9 => (iR (ia σ (rv σ 0 1 + 11) x1) → SR s9 → Q (.inl (some (vi (ia σ (rv σ 0 1 + 11) x1)))) s9))))))) ∧ (¬ x2 ≤ (mst x1) → 8 ≤ d ∧ (SR σ → Q (.inr "java/lang/IllegalArgumentException") σ)))))) ∧ (¬ x1 < 5 → 8 ≤ d ∧ (SR σ → Q (.inr "java/util/NoSuchElementException") σ)))))) : Wb g ad d mX10_tune Q 0 [some (.ref (ad 0)), some (vi x1), some (vi x2), none] [] σ (rc + 1) (rs + 6) := by
  refine sb_iload_n (pc' := 1) rfl rfl dX10_tune_0 ?_
  refine sb_if_lt (pc' := 4) (tgt := 9) rfl (by decide) hx1 dX10_tune_1 ?_ ?_
  · intro cc; have H := H.1 cc
    obtain ⟨o1, H⟩ := H
    exact sb_throwN rfl (thr_NoSuchElementException_197) (cls := "java/util/NoSuchElementException") (text := "no such thing to tune") (rc := rc) (rs := rs) o1 (Nat.le_of_ble_eq_true rfl) wd_1292 wd_187 ⟨rfl, by decide +kernel⟩ dX10_tune_9 dX10_tune_12 dX10_tune_13 dX10_tune_15 dX10_tune_18 (H hS)
  · intro cc; have H := H.2 cc
    refine sb_iload_n (pc' := 5) rfl rfl dX10_tune_4 ?_
    refine sb_iconst (pc' := 6) rfl dX10_tune_5 ?_
    refine sb_icmp_lt (pc' := 9) (tgt := 19) rfl (by decide) hx1 (iR_lit rfl) dX10_tune_6 ?_ ?_
    · intro cc; have H := H.1 cc
      refine sb_iload_n (pc' := 20) rfl rfl dX10_tune_19 ?_
      refine sb_gets0 (pc' := 23) rfl wd_1370 dX10_tune_20 ?_
      refine sb_iload_n (pc' := 24) rfl rfl dX10_tune_23 ?_
      obtain ⟨o2, H⟩ := H
      refine sb_tlst (pc' := 25) rfl o2.1 o2.2 dX10_tune_24 ?_
      obtain ⟨o3, H⟩ := H
      refine sb_icmp_lt (pc' := 28) (tgt := 37) rfl (by decide) hx2 o3 dX10_tune_25 ?_ ?_
      · intro cc; have H := H.1 cc
        obtain ⟨o4, H⟩ := H
        exact sb_throw rfl (thr_IllegalArgumentException_221) (cls := "java/lang/IllegalArgumentException") (text := "out of its bounds") (rc := rc) (rs := rs) o4 (Nat.le_of_ble_eq_true rfl) wd_1086 wd_180 ⟨rfl, by decide +kernel⟩ dX10_tune_37 dX10_tune_40 dX10_tune_41 dX10_tune_43 dX10_tune_46 (H hS)
      · intro cc; have H := H.2 cc
        refine sb_iload_n (pc' := 29) rfl rfl dX10_tune_28 ?_
        refine sb_gets1 (pc' := 32) rfl wd_1372 dX10_tune_29 ?_
        refine sb_iload_n (pc' := 33) rfl rfl dX10_tune_32 ?_
        refine sb_tmst (pc' := 34) rfl o2.1 o2.2 dX10_tune_33 ?_
        obtain ⟨o5, H⟩ := H
        refine sb_icmp_le (pc' := 37) (tgt := 47) rfl (by decide) hx2 o5 dX10_tune_34 ?_ ?_
        · intro cc; have H := H.1 cc
          refine sb_aload_n (pc' := 48) rfl rfl dX10_tune_47 ?_
          obtain ⟨o6, H⟩ := H
          refine sb_getR (pc' := 51) rfl fr_0_1 wd_643 dX10_tune_48 ?_
          refine sb_getCN (pc' := 54) rfl (fcK_14 o6) wd_241 dX10_tune_51 ?_
          refine sb_iload_n (pc' := 55) rfl rfl dX10_tune_54 ?_
          refine sb_iald (pc' := 56) rfl (aIK_11 o6) o2.1 o2.2 dX10_tune_55 ?_
          refine sb_istore_n (pc' := 57) rfl (L' := [some (.ref (ad 0)), some (vi x1), some (vi x2), some (vi (ia σ (rv σ 0 1 + 11) x1))]) rfl (by decide) dX10_tune_56 ?_
          refine sb_aload_n (pc' := 58) rfl rfl dX10_tune_57 ?_
          refine sb_getR (pc' := 61) rfl fr_0_1 wd_643 dX10_tune_58 ?_
          refine sb_getCN (pc' := 64) rfl (fcK_14 o6) wd_241 dX10_tune_61 ?_
          refine sb_iload_n (pc' := 65) rfl rfl dX10_tune_64 ?_
          refine sb_iload_n (pc' := 66) rfl rfl dX10_tune_65 ?_
          refine sb_iast (pc' := 67) rfl (aIK_11 o6) o2.1 o2.2  dX10_tune_66 ?_
          refine sb_iload_n (pc' := 68) rfl rfl dX10_tune_67 ?_
          refine sb_if_eq (pc' := 71) (tgt := 76) rfl (by decide) hx1 dX10_tune_68 ?_ ?_
          · intro cc; have H := H.1 cc
            refine sb_aload_n (pc' := 77) rfl rfl dX10_tune_76 ?_
            obtain ⟨d7, hd7, H⟩ := H
            refine sb_callV (pc' := 80) rfl rfl (rc := (rc + 1)) (rs := (rs + 6)) (mc' := 0) (ms' := 0) (As := []) (st := []) of_0 rfl rfl (Nat.le_of_ble_eq_true rfl) hd7 kX10_forgetOptions ⟨wd_979, wd_981, wd_47⟩ dX10_tune_77 (Eb.mono H ?_)
            rintro o s7 ⟨rfl, hs7, H⟩
            show Wb g ad d mX10_tune Q 80 [some (.ref (ad 0)), some (vi x1), some (vi x2), some (vi (ia σ (rv σ 0 1 + 11) x1))] [] s7 (rc + 1) (rs + 6)
            refine sb_goto (tgt := 87) (by decide) dX10_tune_80 ?_
            refine sb_iload_n (pc' := 88) rfl rfl dX10_tune_87 ?_
            exact sb_iret rfl rfl dX10_tune_88 (H (SR_ia hS _ _) hs7)
          · intro cc; have H := H.2 cc
            refine sb_iload_n (pc' := 72) rfl rfl dX10_tune_71 ?_
            refine sb_iconst (pc' := 73) rfl dX10_tune_72 ?_
            refine sb_icmp_ne (pc' := 76) (tgt := 83) rfl (by decide) hx1 (iR_lit rfl) dX10_tune_73 ?_ ?_
            · intro cc; have H := H.1 cc
              refine sb_aload_n (pc' := 84) rfl rfl dX10_tune_83 ?_
              obtain ⟨d8, hd8, H⟩ := H
              refine sb_callV (pc' := 87) rfl rfl (rc := (rc + 1)) (rs := (rs + 6)) (mc' := 0) (ms' := 0) (As := []) (st := []) of_0 rfl rfl (Nat.le_of_ble_eq_true rfl) hd8 kX10_forgetWays ⟨wd_983, wd_985, wd_48⟩ dX10_tune_84 (Eb.mono H ?_)
              rintro o s8 ⟨rfl, hs8, H⟩
              show Wb g ad d mX10_tune Q 87 [some (.ref (ad 0)), some (vi x1), some (vi x2), some (vi (ia σ (rv σ 0 1 + 11) x1))] [] s8 (rc + 1) (rs + 6)
              refine sb_iload_n (pc' := 88) rfl rfl dX10_tune_87 ?_
              exact sb_iret rfl rfl dX10_tune_88 (H (SR_ia hS _ _) hs8)
            · intro cc; have H := H.2 cc
              refine sb_aload_n (pc' := 77) rfl rfl dX10_tune_76 ?_
              obtain ⟨d9, hd9, H⟩ := H
              refine sb_callV (pc' := 80) rfl rfl (rc := (rc + 1)) (rs := (rs + 6)) (mc' := 0) (ms' := 0) (As := []) (st := []) of_0 rfl rfl (Nat.le_of_ble_eq_true rfl) hd9 kX10_forgetOptions ⟨wd_979, wd_981, wd_47⟩ dX10_tune_77 (Eb.mono H ?_)
              rintro o s9 ⟨rfl, hs9, H⟩
              show Wb g ad d mX10_tune Q 80 [some (.ref (ad 0)), some (vi x1), some (vi x2), some (vi (ia σ (rv σ 0 1 + 11) x1))] [] s9 (rc + 1) (rs + 6)
              refine sb_goto (tgt := 87) (by decide) dX10_tune_80 ?_
              refine sb_iload_n (pc' := 88) rfl rfl dX10_tune_87 ?_
              exact sb_iret rfl rfl dX10_tune_88 (H (SR_ia hS _ _) hs9)
        · intro cc; have H := H.2 cc
          obtain ⟨o10, H⟩ := H
          exact sb_throw rfl (thr_IllegalArgumentException_221) (cls := "java/lang/IllegalArgumentException") (text := "out of its bounds") (rc := rc) (rs := rs) o10 (Nat.le_of_ble_eq_true rfl) wd_1086 wd_180 ⟨rfl, by decide +kernel⟩ dX10_tune_37 dX10_tune_40 dX10_tune_41 dX10_tune_43 dX10_tune_46 (H hS)
    · intro cc; have H := H.2 cc
      obtain ⟨o11, H⟩ := H
      exact sb_throwN rfl (thr_NoSuchElementException_197) (cls := "java/util/NoSuchElementException") (text := "no such thing to tune") (rc := rc) (rs := rs) o11 (Nat.le_of_ble_eq_true rfl) wd_1292 wd_187 ⟨rfl, by decide +kernel⟩ dX10_tune_9 dX10_tune_12 dX10_tune_13 dX10_tune_15 dX10_tune_18 (H hS)
theorem bX10_option_0 {g : AG} {ad : Nat → Nat} {d : Nat} {Q : AO → SG → Prop} {rc rs : Nat} {σ : SG} {x1 x2 : Int}  (hx1 : iR x1) (hx2 : iR x2) (hS : SR σ) (H : Cl g ad d mX10_checkPlace 1 6 [(.ref (ad 0)), (vi x1)] σ (Kx (Kv fun s1 => Cl g ad d mX10_prepareOptions 0 0 [(.ref (ad 0))] s1 (Kv fun s2 => Cl g ad d mX5_numberAt 0 0 [(.ref (ad 48)), (vi x1), (vi x2)] s2 (Ki fun r3 s3 => (iR r3 → SR s3 → Q (.inl (some (vi r3))) s3)))) (fun E s1 => SR s1 → Q (.inr E) s1))) : Wb g ad d mX10_option Q 0 [some (.ref (ad 0)), some (vi x1), some (vi x2)] [] σ (rc + 1) (rs + 6) := by
  refine sb_aload_n (pc' := 1) rfl rfl dX10_option_0 ?_
  refine sb_iload_n (pc' := 2) rfl rfl dX10_option_1 ?_
  obtain ⟨d1, hd1, H⟩ := H
  refine sb_callV (pc' := 5) rfl rfl (rc := rc) (rs := rs) (mc' := 1) (ms' := 6) (As := [(vi x1)]) (st := []) of_0 rfl rfl (Nat.le_of_ble_eq_true rfl) hd1 kX10_checkPlace ⟨wd_1330, wd_1332, wd_82⟩ dX10_option_2 (Eb.mono H ?_)
  rintro o s1 (⟨rfl, hs1, H⟩ | ⟨E, rfl, hs1, H⟩)
  case inr => exact H hs1
  show Wb g ad d mX10_option Q 5 [some (.ref (ad 0)), some (vi x1), some (vi x2)] [] s1 rc rs
  refine sb_aload_n (pc' := 6) rfl rfl dX10_option_5 ?_
  obtain ⟨d2, hd2, H⟩ := H
  refine sb_callV (pc' := 9) rfl rfl (rc := rc) (rs := rs) (mc' := 0) (ms' := 0) (As := []) (st := []) of_0 rfl rfl (Nat.le_of_ble_eq_true rfl) hd2 kX10_prepareOptions ⟨wd_708, wd_710, wd_1⟩ dX10_option_6 (Eb.mono H ?_)
  rintro o s2 ⟨rfl, hs2, H⟩
  show Wb g ad d mX10_option Q 9 [some (.ref (ad 0)), some (vi x1), some (vi x2)] [] s2 rc rs
  refine sb_aload_n (pc' := 10) rfl rfl dX10_option_9 ?_
  refine sb_getC (pc' := 13) rfl fc_0_4 wd_646 dX10_option_10 ?_
  refine sb_iload_n (pc' := 14) rfl rfl dX10_option_13 ?_
  refine sb_iload_n (pc' := 15) rfl rfl dX10_option_14 ?_
  obtain ⟨d3, hd3, H⟩ := H
  refine sb_callVN (pc' := 18) rfl rfl (rc := rc) (rs := rs) (mc' := 0) (ms' := 0) (As := [(vi x1), (vi x2)]) (st := []) of_48 rfl rfl (Nat.le_of_ble_eq_true rfl) hd3 kX5_numberAt ⟨wd_1382, wd_1384, wd_84⟩ dX10_option_15 (Eb.mono H ?_)
  rintro o s3 ⟨r3, rfl, hr3, hs3, H⟩
  show Wb g ad d mX10_option Q 18 [some (.ref (ad 0)), some (vi x1), some (vi x2)] [(vi r3)] s3 rc rs
  exact sb_iret rfl rfl dX10_option_18 (H hr3 hs3)
theorem bX10_stretch_0 {g : AG} {ad : Nat → Nat} {d : Nat} {Q : AO → SG → Prop} {rc rs : Nat} {σ : SG} {x1 x2 : Int}  (hx1 : iR x1) (hx2 : iR x2) (hS : SR σ) (H : Cl g ad d mX10_checkPlace 1 6 [(.ref (ad 0)), (vi x1)] σ (Kx (Kv fun s1 => Cl g ad d mX10_checkPlace 1 6 [(.ref (ad 0)), (vi x2)] s1 (Kx (Kv fun s2 => ((x1 ≤ x2 → Cl g ad d mX10_prepareOptions 0 0 [(.ref (ad 0))] s2 (Kv fun s3 => (0 ≤ (x1 * 6) + x2 ∧ (x1 * 6) + x2 < 36) ∧ (iR (ia s3 73 ((x1 * 6) + x2)) → SR s3 → Q (.inl (some (vi (ia s3 73 ((x1 * 6) + x2))))) s3))) ∧ (¬ x1 ≤ x2 → 8 ≤ d ∧ (SR s2 → Q (.inr "java/lang/IllegalArgumentException") s2)))) (fun E s2 => SR s2 → Q (.inr E) s2))) (fun E s1 => SR s1 → Q (.inr E) s1))) : Wb g ad d mX10_stretch Q 0 [some (.ref (ad 0)), some (vi x1), some (vi x2)] [] σ (rc + 3) (rs + 18) := by
  refine sb_aload_n (pc' := 1) rfl rfl dX10_stretch_0 ?_
  refine sb_iload_n (pc' := 2) rfl rfl dX10_stretch_1 ?_
  obtain ⟨d1, hd1, H⟩ := H
  refine sb_callV (pc' := 5) rfl rfl (rc := (rc + 2)) (rs := (rs + 12)) (mc' := 1) (ms' := 6) (As := [(vi x1)]) (st := []) of_0 rfl rfl (Nat.le_of_ble_eq_true rfl) hd1 kX10_checkPlace ⟨wd_1330, wd_1332, wd_82⟩ dX10_stretch_2 (Eb.mono H ?_)
  rintro o s1 (⟨rfl, hs1, H⟩ | ⟨E, rfl, hs1, H⟩)
  case inr => exact H hs1
  show Wb g ad d mX10_stretch Q 5 [some (.ref (ad 0)), some (vi x1), some (vi x2)] [] s1 (rc + 2) (rs + 12)
  refine sb_aload_n (pc' := 6) rfl rfl dX10_stretch_5 ?_
  refine sb_iload_n (pc' := 7) rfl rfl dX10_stretch_6 ?_
  obtain ⟨d2, hd2, H⟩ := H
  refine sb_callV (pc' := 10) rfl rfl (rc := (rc + 1)) (rs := (rs + 6)) (mc' := 1) (ms' := 6) (As := [(vi x2)]) (st := []) of_0 rfl rfl (Nat.le_of_ble_eq_true rfl) hd2 kX10_checkPlace ⟨wd_1330, wd_1332, wd_82⟩ dX10_stretch_7 (Eb.mono H ?_)
  rintro o s2 (⟨rfl, hs2, H⟩ | ⟨E, rfl, hs2, H⟩)
  case inr => exact H hs2
  show Wb g ad d mX10_stretch Q 10 [some (.ref (ad 0)), some (vi x1), some (vi x2)] [] s2 (rc + 1) (rs + 6)
  refine sb_iload_n (pc' := 11) rfl rfl dX10_stretch_10 ?_
  refine sb_iload_n (pc' := 12) rfl rfl dX10_stretch_11 ?_
  refine sb_icmp_ge (pc' := 15) (tgt := 25) rfl (by decide) hx2 hx1 dX10_stretch_12 ?_ ?_
  · intro cc; have H := H.1 cc
    refine sb_aload_n (pc' := 26) rfl rfl dX10_stretch_25 ?_
    obtain ⟨d3, hd3, H⟩ := H
    refine sb_callV (pc' := 29) rfl rfl (rc := (rc + 1)) (rs := (rs + 6)) (mc' := 0) (ms' := 0) (As := []) (st := []) of_0 rfl rfl (Nat.le_of_ble_eq_true rfl) hd3 kX10_prepareOptions ⟨wd_708, wd_710, wd_1⟩ dX10_stretch_26 (Eb.mono H ?_)
    rintro o s3 ⟨rfl, hs3, H⟩
    show Wb g ad d mX10_stretch Q 29 [some (.ref (ad 0)), some (vi x1), some (vi x2)] [] s3 (rc + 1) (rs + 6)
    refine sb_aload_n (pc' := 30) rfl rfl dX10_stretch_29 ?_
    refine sb_getC (pc' := 33) rfl fc_0_7 wd_649 dX10_stretch_30 ?_
    refine sb_getCN (pc' := 36) rfl fc_72_1 wd_526 dX10_stretch_33 ?_
    refine sb_iload_n (pc' := 37) rfl rfl dX10_stretch_36 ?_
    refine sb_bipush (pc' := 39) rfl (z := 6) (by decide) dX10_stretch_37 ?_
    refine sb_imul (pc' := 40) rfl dX10_stretch_39 ?_
    refine sb_iload_n (pc' := 41) rfl rfl dX10_stretch_40 ?_
    refine sb_iadd (pc' := 42) rfl dX10_stretch_41 ?_
    obtain ⟨o4, H⟩ := H
    refine sb_iald (pc' := 43) rfl aI_73 o4.1 o4.2 dX10_stretch_42 ?_
    exact sb_iret rfl rfl dX10_stretch_43 (H (SR_ia hs3 _ _) hs3)
  · intro cc; have H := H.2 cc
    obtain ⟨o5, H⟩ := H
    exact sb_throw rfl (thr_IllegalArgumentException_221) (cls := "java/lang/IllegalArgumentException") (text := "the second place is less") (rc := rc) (rs := rs) o5 (Nat.le_of_ble_eq_true rfl) wd_1086 wd_180 ⟨rfl, by decide +kernel⟩ dX10_stretch_15 dX10_stretch_18 dX10_stretch_19 dX10_stretch_21 dX10_stretch_24 (H hs2)
theorem bX10_exact_0 {g : AG} {ad : Nat → Nat} {d : Nat} {Q : AO → SG → Prop} {rc rs : Nat} {σ : SG}    (hS : SR σ) (H : Cl g ad d mX10_prepareOptions 0 0 [(.ref (ad 0))] σ (Kv fun s1 => Cl g ad d mX10_prepareWays 0 0 [(.ref (ad 0))] s1 (Kv fun s2 => Cl g ad d mX1_cheapest 0 0 [(.ref (ad 58))] s2 (Ki fun r3 s3 => (iR r3 → SR s3 → Q (.inl (some (vi r3))) s3))))) : Wb g ad d mX10_exact Q 0 [some (.ref (ad 0))] [] σ rc rs := by
  refine sb_aload_n (pc' := 1) rfl rfl dX10_exact_0 ?_
  obtain ⟨d1, hd1, H⟩ := H
  refine sb_callV (pc' := 4) rfl rfl (rc := rc) (rs := rs) (mc' := 0) (ms' := 0) (As := []) (st := []) of_0 rfl rfl (Nat.le_of_ble_eq_true rfl) hd1 kX10_prepareOptions ⟨wd_708, wd_710, wd_1⟩ dX10_exact_1 (Eb.mono H ?_)
  rintro o s1 ⟨rfl, hs1, H⟩
  show Wb g ad d mX10_exact Q 4 [some (.ref (ad 0))] [] s1 rc rs
  refine sb_aload_n (pc' := 5) rfl rfl dX10_exact_4 ?_
  obtain ⟨d2, hd2, H⟩ := H
  refine sb_callV (pc' := 8) rfl rfl (rc := rc) (rs := rs) (mc' := 0) (ms' := 0) (As := []) (st := []) of_0 rfl rfl (Nat.le_of_ble_eq_true rfl) hd2 kX10_prepareWays ⟨wd_787, wd_789, wd_15⟩ dX10_exact_5 (Eb.mono H ?_)
  rintro o s2 ⟨rfl, hs2, H⟩
  show Wb g ad d mX10_exact Q 8 [some (.ref (ad 0))] [] s2 rc rs
  refine sb_aload_n (pc' := 9) rfl rfl dX10_exact_8 ?_
  refine sb_getC (pc' := 12) rfl fc_0_5 wd_647 dX10_exact_9 ?_
  obtain ⟨d3, hd3, H⟩ := H
  refine sb_callVN (pc' := 15) rfl rfl (rc := rc) (rs := rs) (mc' := 0) (ms' := 0) (As := []) (st := []) of_58 rfl rfl (Nat.le_of_ble_eq_true rfl) hd3 kX1_cheapest ⟨wd_844, wd_838, wd_26⟩ dX10_exact_12 (Eb.mono H ?_)
  rintro o s3 ⟨r3, rfl, hr3, hs3, H⟩
  show Wb g ad d mX10_exact Q 15 [some (.ref (ad 0))] [(vi r3)] s3 rc rs
  exact sb_iret rfl rfl dX10_exact_15 (H hr3 hs3)
theorem bX10_many_0 {g : AG} {ad : Nat → Nat} {d : Nat} {Q : AO → SG → Prop} {rc rs : Nat} {σ : SG}    (hS : SR σ) (H : Cl g ad d mX10_prepareOptions 0 0 [(.ref (ad 0))] σ (Kv fun s1 => isK (rv s1 0 1) ∧ Cl g ad d mX0_countWays 0 0 [(.ref (ad 85)), (vi (ia s1 (rv s1 0 1 + 11) 3))] s1 (Ki fun r3 s3 => (iR r3 → SR s3 → Q (.inl (some (vi r3))) s3)))) : Wb g ad d mX10_many Q 0 [some (.ref (ad 0))] [] σ rc rs := by
  refine sb_aload_n (pc' := 1) rfl rfl dX10_many_0 ?_
  obtain ⟨d1, hd1, H⟩ := H
  refine sb_callV (pc' := 4) rfl rfl (rc := rc) (rs := rs) (mc' := 0) (ms' := 0) (As := []) (st := []) of_0 rfl rfl (Nat.le_of_ble_eq_true rfl) hd1 kX10_prepareOptions ⟨wd_708, wd_710, wd_1⟩ dX10_many_1 (Eb.mono H ?_)
  rintro o s1 ⟨rfl, hs1, H⟩
  show Wb g ad d mX10_many Q 4 [some (.ref (ad 0))] [] s1 rc rs
  refine sb_aload_n (pc' := 5) rfl rfl dX10_many_4 ?_
  refine sb_getC (pc' := 8) rfl fc_0_9 wd_651 dX10_many_5 ?_
  refine sb_aload_n (pc' := 9) rfl rfl dX10_many_8 ?_
  obtain ⟨o2, H⟩ := H
  refine sb_getR (pc' := 12) rfl fr_0_1 wd_643 dX10_many_9 ?_
  refine sb_getCN (pc' := 15) rfl (fcK_14 o2) wd_241 dX10_many_12 ?_
  refine sb_iconst (pc' := 16) rfl dX10_many_15 ?_
  refine sb_iald (pc' := 17) rfl (aIK_11 o2) (by decide) (by decide) dX10_many_16 ?_
  obtain ⟨d3, hd3, H⟩ := H
  refine sb_callVN (pc' := 20) rfl rfl (rc := rc) (rs := rs) (mc' := 0) (ms' := 0) (As := [(vi (ia s1 (rv s1 0 1 + 11) 3))]) (st := []) of_85 rfl rfl (Nat.le_of_ble_eq_true rfl) hd3 kX0_countWays ⟨wd_849, wd_851, wd_28⟩ dX10_many_17 (Eb.mono H ?_)
  rintro o s3 ⟨r3, rfl, hr3, hs3, H⟩
  show Wb g ad d mX10_many Q 20 [some (.ref (ad 0))] [(vi r3)] s3 rc rs
  exact sb_iret rfl rfl dX10_many_20 (H hr3 hs3)
theorem bX10_way_0 {g : AG} {ad : Nat → Nat} {d : Nat} {Q : AO → SG → Prop} {rc rs : Nat} {σ : SG} {x1 x2 : Int}  (hx1 : iR x1) (hx2 : iR x2) (hS : SR σ) (H : ((x2 < 0 → 8 ≤ d ∧ (SR σ → Q (.inr "java/util/NoSuchElementException") σ)) ∧ (¬ x2 < 0 → ((x2 ≤ 2 → Cl g ad d mX10_checkWay 1 6 [(.ref (ad 0)), (vi x1)] σ (Kx (Kv fun s2 => Cl g ad d mX10_unfoldWay 0 0 [(.ref (ad 0)), (vi x1)] s2 (Ki fun r3 s3 => ((¬ r3 = 0 → ((¬ x2 = 0 → ((¬ x2 = 1 → (iR (sc s3 63 13) → SR s3 → Q (.inl (some (vi (sc s3 63 13)))) s3)) ∧ (x2 = 1 → (iR (sc s3 63 11) → SR s3 → Q (.inl (some (vi (sc s3 63 11)))) s3)))) ∧ (x2 = 0 → Cl g ad d mX9_costOf 0 0 [(.ref (ad 63)), (vi x1)] s3 (Ki fun r4 s4 => (iR r4 → SR s4 → Q (.inl (some (vi r4))) s4))))) ∧ (r3 = 0 → (iR ((-1)) → SR s3 → Q (.inl (some (vi ((-1))))) s3))))) (fun E s2 => SR s2 → Q (.inr E) s2))) ∧ (¬ x2 ≤ 2 → 8 ≤ d ∧ (SR σ → Q (.inr "java/util/NoSuchElementException") σ)))))) : Wb g ad d mX10_way Q 0 [some (.ref (ad 0)), some (vi x1), some (vi x2)] [] σ (rc + 1) (rs + 6) := by
  refine sb_iload_n (pc' := 1) rfl rfl dX10_way_0 ?_
  refine sb_if_lt (pc' := 4) (tgt := 9) rfl (by decide) hx2 dX10_way_1 ?_ ?_
  · intro cc; have H := H.1 cc
    obtain ⟨o1, H⟩ := H
    exact sb_throwNW rfl (thr_NoSuchElementException_197) (cls := "java/util/NoSuchElementException") (text := "a way has no such number") (rc := rc) (rs := rs) o1 (Nat.le_of_ble_eq_true rfl) wd_1292 wd_187 ⟨rfl, by decide +kernel⟩ dX10_way_9 dX10_way_12 dX10_way_13 dX10_way_16 dX10_way_19 (H hS)
  · intro cc; have H := H.2 cc
    refine sb_iload_n (pc' := 5) rfl rfl dX10_way_4 ?_
    refine sb_iconst (pc' := 6) rfl dX10_way_5 ?_
    refine sb_icmp_le (pc' := 9) (tgt := 20) rfl (by decide) hx2 (iR_lit rfl) dX10_way_6 ?_ ?_
    · intro cc; have H := H.1 cc
      refine sb_aload_n (pc' := 21) rfl rfl dX10_way_20 ?_
      refine sb_iload_n (pc' := 22) rfl rfl dX10_way_21 ?_
      obtain ⟨d2, hd2, H⟩ := H
      refine sb_callV (pc' := 25) rfl rfl (rc := rc) (rs := rs) (mc' := 1) (ms' := 6) (As := [(vi x1)]) (st := []) of_0 rfl rfl (Nat.le_of_ble_eq_true rfl) hd2 kX10_checkWay ⟨wd_1402, wd_1404, wd_85⟩ dX10_way_22 (Eb.mono H ?_)
      rintro o s2 (⟨rfl, hs2, H⟩ | ⟨E, rfl, hs2, H⟩)
      case inr => exact H hs2
      show Wb g ad d mX10_way Q 25 [some (.ref (ad 0)), some (vi x1), some (vi x2)] [] s2 rc rs
      refine sb_aload_n (pc' := 26) rfl rfl dX10_way_25 ?_
      refine sb_iload_n (pc' := 27) rfl rfl dX10_way_26 ?_
      obtain ⟨d3, hd3, H⟩ := H
      refine sb_callV (pc' := 30) rfl rfl (rc := rc) (rs := rs) (mc' := 0) (ms' := 0) (As := [(vi x1)]) (st := []) of_0 rfl rfl (Nat.le_of_ble_eq_true rfl) hd3 kX10_unfoldWay ⟨wd_866, wd_868, wd_30⟩ dX10_way_27 (Eb.mono H ?_)
      rintro o s3 ⟨r3, rfl, hr3, hs3, H⟩
      show Wb g ad d mX10_way Q 30 [some (.ref (ad 0)), some (vi x1), some (vi x2)] [(vi r3)] s3 rc rs
      refine sb_if_ne (pc' := 33) (tgt := 35) rfl (by decide) hr3 dX10_way_30 ?_ ?_
      · intro cc; have H := H.1 cc
        refine sb_iload_n (pc' := 36) rfl rfl dX10_way_35 ?_
        refine sb_if_ne (pc' := 39) (tgt := 48) rfl (by decide) hx2 dX10_way_36 ?_ ?_
        · intro cc; have H := H.1 cc
          refine sb_iload_n (pc' := 49) rfl rfl dX10_way_48 ?_
          refine sb_iconst (pc' := 50) rfl dX10_way_49 ?_
          refine sb_icmp_ne (pc' := 53) (tgt := 63) rfl (by decide) hx2 (iR_lit rfl) dX10_way_50 ?_ ?_
          · intro cc; have H := H.1 cc
            refine sb_aload_n (pc' := 64) rfl rfl dX10_way_63 ?_
            refine sb_getC (pc' := 67) rfl fc_0_6 wd_648 dX10_way_64 ?_
            refine sb_getIN (pc' := 70) rfl fi_63_13 wd_487 dX10_way_67 ?_
            exact sb_iret rfl rfl dX10_way_70 (H (SR_sc hs3 _ _) hs3)
          · intro cc; have H := H.2 cc
            refine sb_aload_n (pc' := 54) rfl rfl dX10_way_53 ?_
            refine sb_getC (pc' := 57) rfl fc_0_6 wd_648 dX10_way_54 ?_
            refine sb_getIN (pc' := 60) rfl fi_63_11 wd_483 dX10_way_57 ?_
            refine sb_goto (tgt := 70) (by decide) dX10_way_60 ?_
            exact sb_iret rfl rfl dX10_way_70 (H (SR_sc hs3 _ _) hs3)
        · intro cc; have H := H.2 cc
          refine sb_aload_n (pc' := 40) rfl rfl dX10_way_39 ?_
          refine sb_getC (pc' := 43) rfl fc_0_6 wd_648 dX10_way_40 ?_
          refine sb_iload_n (pc' := 44) rfl rfl dX10_way_43 ?_
          obtain ⟨d4, hd4, H⟩ := H
          refine sb_callVN (pc' := 47) rfl rfl (rc := rc) (rs := rs) (mc' := 0) (ms' := 0) (As := [(vi x1)]) (st := []) of_63 rfl rfl (Nat.le_of_ble_eq_true rfl) hd4 kX9_costOf ⟨wd_1407, wd_1409, wd_86⟩ dX10_way_44 (Eb.mono H ?_)
          rintro o s4 ⟨r4, rfl, hr4, hs4, H⟩
          show Wb g ad d mX10_way Q 47 [some (.ref (ad 0)), some (vi x1), some (vi x2)] [(vi r4)] s4 rc rs
          exact sb_iret rfl rfl dX10_way_47 (H hr4 hs4)
      · intro cc; have H := H.2 cc
        refine sb_iconst (pc' := 34) rfl dX10_way_33 ?_
        exact sb_iret rfl rfl dX10_way_34 (H (iR_lit rfl) hs3)
    · intro cc; have H := H.2 cc
      obtain ⟨o5, H⟩ := H
      exact sb_throwNW rfl (thr_NoSuchElementException_197) (cls := "java/util/NoSuchElementException") (text := "a way has no such number") (rc := rc) (rs := rs) o5 (Nat.le_of_ble_eq_true rfl) wd_1292 wd_187 ⟨rfl, by decide +kernel⟩ dX10_way_9 dX10_way_12 dX10_way_13 dX10_way_16 dX10_way_19 (H hS)
theorem bX10_step_0 {g : AG} {ad : Nat → Nat} {d : Nat} {Q : AO → SG → Prop} {rc rs : Nat} {σ : SG} {x1 x2 x3 : Int}  (hx1 : iR x1) (hx2 : iR x2) (hx3 : iR x3) (hS : SR σ) (H : ((x3 < 0 → 8 ≤ d ∧ (SR σ → Q (.inr "java/util/NoSuchElementException") σ)) ∧ (¬ x3 < 0 → ((x3 ≤ 2 → Cl g ad d mX10_checkWay 1 6 [(.ref (ad 0)), (vi x1)] σ (Kx (Kv fun s2 => Cl g ad d mX10_unfoldWay 0 0 [(.ref (ad 0)), (vi x1)] s2 (Ki fun r3 s3 => ((r3 = 0 → (iR ((-1)) → SR s3 → Q (.inl (some (vi ((-1))))) s3)) ∧ (¬ r3 = 0 → ((x2 < 0 → (iR ((-1)) → SR s3 → Q (.inl (some (vi ((-1))))) s3)) ∧ (¬ x2 < 0 → ((x2 < (sc s3 63 11) → ((¬ x3 = 2 → (0 ≤ x2 ∧ x2 < 6) ∧ ((¬ x3 = 0 → (0 ≤ ia s3 69 x2 ∧ ia s3 69 x2 < 186) ∧ (iR (ia s3 52 (ia s3 69 x2)) → SR s3 → Q (.inl (some (vi (ia s3 52 (ia s3 69 x2))))) s3)) ∧ (x3 = 0 → (0 ≤ ia s3 69 x2 ∧ ia s3 69 x2 < 186) ∧ (iR (ia s3 49 (ia s3 69 x2)) → SR s3 → Q (.inl (some (vi (ia s3 49 (ia s3 69 x2))))) s3)))) ∧ (x3 = 2 → (0 ≤ x2 ∧ x2 < 6) ∧ (iR (ia s3 70 x2) → SR s3 → Q (.inl (some (vi (ia s3 70 x2)))) s3)))) ∧ (¬ x2 < (sc s3 63 11) → (iR ((-1)) → SR s3 → Q (.inl (some (vi ((-1))))) s3))))))))) (fun E s2 => SR s2 → Q (.inr E) s2))) ∧ (¬ x3 ≤ 2 → 8 ≤ d ∧ (SR σ → Q (.inr "java/util/NoSuchElementException") σ)))))) : Wb g ad d mX10_step Q 0 [some (.ref (ad 0)), some (vi x1), some (vi x2), some (vi x3), none] [] σ (rc + 1) (rs + 6) := by
  refine sb_iload_n (pc' := 1) rfl rfl dX10_step_0 ?_
  refine sb_if_lt (pc' := 4) (tgt := 9) rfl (by decide) hx3 dX10_step_1 ?_ ?_
  · intro cc; have H := H.1 cc
    obtain ⟨o1, H⟩ := H
    exact sb_throwNW rfl (thr_NoSuchElementException_197) (cls := "java/util/NoSuchElementException") (text := "a step has no such number") (rc := rc) (rs := rs) o1 (Nat.le_of_ble_eq_true rfl) wd_1292 wd_187 ⟨rfl, by decide +kernel⟩ dX10_step_9 dX10_step_12 dX10_step_13 dX10_step_16 dX10_step_19 (H hS)
  · intro cc; have H := H.2 cc
    refine sb_iload_n (pc' := 5) rfl rfl dX10_step_4 ?_
    refine sb_iconst (pc' := 6) rfl dX10_step_5 ?_
    refine sb_icmp_le (pc' := 9) (tgt := 20) rfl (by decide) hx3 (iR_lit rfl) dX10_step_6 ?_ ?_
    · intro cc; have H := H.1 cc
      refine sb_aload_n (pc' := 21) rfl rfl dX10_step_20 ?_
      refine sb_iload_n (pc' := 22) rfl rfl dX10_step_21 ?_
      obtain ⟨d2, hd2, H⟩ := H
      refine sb_callV (pc' := 25) rfl rfl (rc := rc) (rs := rs) (mc' := 1) (ms' := 6) (As := [(vi x1)]) (st := []) of_0 rfl rfl (Nat.le_of_ble_eq_true rfl) hd2 kX10_checkWay ⟨wd_1402, wd_1404, wd_85⟩ dX10_step_22 (Eb.mono H ?_)
      rintro o s2 (⟨rfl, hs2, H⟩ | ⟨E, rfl, hs2, H⟩)
      case inr => exact H hs2
      show Wb g ad d mX10_step Q 25 [some (.ref (ad 0)), some (vi x1), some (vi x2), some (vi x3), none] [] s2 rc rs
      refine sb_aload_n (pc' := 26) rfl rfl dX10_step_25 ?_
      refine sb_iload_n (pc' := 27) rfl rfl dX10_step_26 ?_
      obtain ⟨d3, hd3, H⟩ := H
      refine sb_callV (pc' := 30) rfl rfl (rc := rc) (rs := rs) (mc' := 0) (ms' := 0) (As := [(vi x1)]) (st := []) of_0 rfl rfl (Nat.le_of_ble_eq_true rfl) hd3 kX10_unfoldWay ⟨wd_866, wd_868, wd_30⟩ dX10_step_27 (Eb.mono H ?_)
      rintro o s3 ⟨r3, rfl, hr3, hs3, H⟩
      show Wb g ad d mX10_step Q 30 [some (.ref (ad 0)), some (vi x1), some (vi x2), some (vi x3), none] [(vi r3)] s3 rc rs
      refine sb_if_eq (pc' := 33) (tgt := 48) rfl (by decide) hr3 dX10_step_30 ?_ ?_
      · intro cc; have H := H.1 cc
        refine sb_iconst (pc' := 49) rfl dX10_step_48 ?_
        exact sb_iret rfl rfl dX10_step_49 (H (iR_lit rfl) hs3)
      · intro cc; have H := H.2 cc
        refine sb_iload_n (pc' := 34) rfl rfl dX10_step_33 ?_
        refine sb_if_lt (pc' := 37) (tgt := 48) rfl (by decide) hx2 dX10_step_34 ?_ ?_
        · intro cc; have H := H.1 cc
          refine sb_iconst (pc' := 49) rfl dX10_step_48 ?_
          exact sb_iret rfl rfl dX10_step_49 (H (iR_lit rfl) hs3)
        · intro cc; have H := H.2 cc
          refine sb_iload_n (pc' := 38) rfl rfl dX10_step_37 ?_
          refine sb_aload_n (pc' := 39) rfl rfl dX10_step_38 ?_
          refine sb_getC (pc' := 42) rfl fc_0_6 wd_648 dX10_step_39 ?_
          refine sb_getIN (pc' := 45) rfl fi_63_11 wd_483 dX10_step_42 ?_
          refine sb_icmp_lt (pc' := 48) (tgt := 50) rfl (by decide) hx2 (SR_sc hs3 _ _) dX10_step_45 ?_ ?_
          · intro cc; have H := H.1 cc
            refine sb_iload_n (pc' := 51) rfl rfl dX10_step_50 ?_
            refine sb_iconst (pc' := 52) rfl dX10_step_51 ?_
            refine sb_icmp_ne (pc' := 55) (tgt := 65) rfl (by decide) hx3 (iR_lit rfl) dX10_step_52 ?_ ?_
            · intro cc; have H := H.1 cc
              refine sb_aload_n (pc' := 66) rfl rfl dX10_step_65 ?_
              refine sb_getC (pc' := 69) rfl fc_0_6 wd_648 dX10_step_66 ?_
              refine sb_getCN (pc' := 72) rfl fc_63_9 wd_479 dX10_step_69 ?_
              refine sb_iload_n (pc' := 73) rfl rfl dX10_step_72 ?_
              obtain ⟨o4, H⟩ := H
              refine sb_iald (pc' := 74) rfl aI_69 o4.1 o4.2 dX10_step_73 ?_
              refine sb_istore (pc' := 76) rfl (L' := [some (.ref (ad 0)), some (vi x1), some (vi x2), some (vi x3), some (vi (ia s3 69 x2))]) rfl (by decide) dX10_step_74 ?_
              refine sb_iload_n (pc' := 77) rfl rfl dX10_step_76 ?_
              refine sb_if_ne (pc' := 80) (tgt := 93) rfl (by decide) hx3 dX10_step_77 ?_ ?_
              · intro cc; have H := H.1 cc
                refine sb_aload_n (pc' := 94) rfl rfl dX10_step_93 ?_
                refine sb_getC (pc' := 97) rfl fc_0_4 wd_646 dX10_step_94 ?_
                refine sb_getCN (pc' := 100) rfl fc_48_3 wd_375 dX10_step_97 ?_
                refine sb_iload (pc' := 102) rfl rfl dX10_step_100 ?_
                obtain ⟨o5, H⟩ := H
                refine sb_iald (pc' := 103) rfl aI_52 o5.1 o5.2 dX10_step_102 ?_
                exact sb_iret rfl rfl dX10_step_103 (H (SR_ia hs3 _ _) hs3)
              · intro cc; have H := H.2 cc
                refine sb_aload_n (pc' := 81) rfl rfl dX10_step_80 ?_
                refine sb_getC (pc' := 84) rfl fc_0_4 wd_646 dX10_step_81 ?_
                refine sb_getCN (pc' := 87) rfl fc_48_0 wd_362 dX10_step_84 ?_
                refine sb_iload (pc' := 89) rfl rfl dX10_step_87 ?_
                obtain ⟨o6, H⟩ := H
                refine sb_iald (pc' := 90) rfl aI_49 o6.1 o6.2 dX10_step_89 ?_
                refine sb_goto (tgt := 103) (by decide) dX10_step_90 ?_
                exact sb_iret rfl rfl dX10_step_103 (H (SR_ia hs3 _ _) hs3)
            · intro cc; have H := H.2 cc
              refine sb_aload_n (pc' := 56) rfl rfl dX10_step_55 ?_
              refine sb_getC (pc' := 59) rfl fc_0_6 wd_648 dX10_step_56 ?_
              refine sb_getCN (pc' := 62) rfl fc_63_10 wd_481 dX10_step_59 ?_
              refine sb_iload_n (pc' := 63) rfl rfl dX10_step_62 ?_
              obtain ⟨o7, H⟩ := H
              refine sb_iald (pc' := 64) rfl aI_70 o7.1 o7.2 dX10_step_63 ?_
              exact sb_iret rfl rfl dX10_step_64 (H (SR_ia hs3 _ _) hs3)
          · intro cc; have H := H.2 cc
            refine sb_iconst (pc' := 49) rfl dX10_step_48 ?_
            exact sb_iret rfl rfl dX10_step_49 (H (iR_lit rfl) hs3)
    · intro cc; have H := H.2 cc
      obtain ⟨o8, H⟩ := H
      exact sb_throwNW rfl (thr_NoSuchElementException_197) (cls := "java/util/NoSuchElementException") (text := "a step has no such number") (rc := rc) (rs := rs) o8 (Nat.le_of_ble_eq_true rfl) wd_1292 wd_187 ⟨rfl, by decide +kernel⟩ dX10_step_9 dX10_step_12 dX10_step_13 dX10_step_16 dX10_step_19 (H hS)
theorem bX10_word_0 {g : AG} {ad : Nat → Nat} {d : Nat} {Q : AO → SG → Prop} {rc rs : Nat} {σ : SG} {x1 x2 : Int}  (hx1 : iR x1) (hx2 : iR x2) (hS : SR σ) (H : Cl g ad d mX10_checkWay 1 6 [(.ref (ad 0)), (vi x1)] σ (Kx (Kv fun s1 => Cl g ad d mX10_unfoldWay 0 0 [(.ref (ad 0)), (vi x1)] s1 (Ki fun r2 s2 => ((r2 = 0 → (iR ((-1)) → SR s2 → Q (.inl (some (vi ((-1))))) s2)) ∧ (¬ r2 = 0 → ((x2 < 0 → (iR ((-1)) → SR s2 → Q (.inl (some (vi ((-1))))) s2)) ∧ (¬ x2 < 0 → ((x2 < (sc s2 63 13) → (0 ≤ x2 ∧ x2 < 18) ∧ (iR (ia s2 71 x2) → SR s2 → Q (.inl (some (vi (ia s2 71 x2)))) s2)) ∧ (¬ x2 < (sc s2 63 13) → (iR ((-1)) → SR s2 → Q (.inl (some (vi ((-1))))) s2))))))))) (fun E s1 => SR s1 → Q (.inr E) s1))) : Wb g ad d mX10_word Q 0 [some (.ref (ad 0)), some (vi x1), some (vi x2)] [] σ (rc + 1) (rs + 6) := by
  refine sb_aload_n (pc' := 1) rfl rfl dX10_word_0 ?_
  refine sb_iload_n (pc' := 2) rfl rfl dX10_word_1 ?_
  obtain ⟨d1, hd1, H⟩ := H
  refine sb_callV (pc' := 5) rfl rfl (rc := rc) (rs := rs) (mc' := 1) (ms' := 6) (As := [(vi x1)]) (st := []) of_0 rfl rfl (Nat.le_of_ble_eq_true rfl) hd1 kX10_checkWay ⟨wd_1402, wd_1404, wd_85⟩ dX10_word_2 (Eb.mono H ?_)
  rintro o s1 (⟨rfl, hs1, H⟩ | ⟨E, rfl, hs1, H⟩)
  case inr => exact H hs1
  show Wb g ad d mX10_word Q 5 [some (.ref (ad 0)), some (vi x1), some (vi x2)] [] s1 rc rs
  refine sb_aload_n (pc' := 6) rfl rfl dX10_word_5 ?_
  refine sb_iload_n (pc' := 7) rfl rfl dX10_word_6 ?_
  obtain ⟨d2, hd2, H⟩ := H
  refine sb_callV (pc' := 10) rfl rfl (rc := rc) (rs := rs) (mc' := 0) (ms' := 0) (As := [(vi x1)]) (st := []) of_0 rfl rfl (Nat.le_of_ble_eq_true rfl) hd2 kX10_unfoldWay ⟨wd_866, wd_868, wd_30⟩ dX10_word_7 (Eb.mono H ?_)
  rintro o s2 ⟨r2, rfl, hr2, hs2, H⟩
  show Wb g ad d mX10_word Q 10 [some (.ref (ad 0)), some (vi x1), some (vi x2)] [(vi r2)] s2 rc rs
  refine sb_if_eq (pc' := 13) (tgt := 28) rfl (by decide) hr2 dX10_word_10 ?_ ?_
  · intro cc; have H := H.1 cc
    refine sb_iconst (pc' := 29) rfl dX10_word_28 ?_
    exact sb_iret rfl rfl dX10_word_29 (H (iR_lit rfl) hs2)
  · intro cc; have H := H.2 cc
    refine sb_iload_n (pc' := 14) rfl rfl dX10_word_13 ?_
    refine sb_if_lt (pc' := 17) (tgt := 28) rfl (by decide) hx2 dX10_word_14 ?_ ?_
    · intro cc; have H := H.1 cc
      refine sb_iconst (pc' := 29) rfl dX10_word_28 ?_
      exact sb_iret rfl rfl dX10_word_29 (H (iR_lit rfl) hs2)
    · intro cc; have H := H.2 cc
      refine sb_iload_n (pc' := 18) rfl rfl dX10_word_17 ?_
      refine sb_aload_n (pc' := 19) rfl rfl dX10_word_18 ?_
      refine sb_getC (pc' := 22) rfl fc_0_6 wd_648 dX10_word_19 ?_
      refine sb_getIN (pc' := 25) rfl fi_63_13 wd_487 dX10_word_22 ?_
      refine sb_icmp_lt (pc' := 28) (tgt := 30) rfl (by decide) hx2 (SR_sc hs2 _ _) dX10_word_25 ?_ ?_
      · intro cc; have H := H.1 cc
        refine sb_aload_n (pc' := 31) rfl rfl dX10_word_30 ?_
        refine sb_getC (pc' := 34) rfl fc_0_6 wd_648 dX10_word_31 ?_
        refine sb_getCN (pc' := 37) rfl fc_63_12 wd_485 dX10_word_34 ?_
        refine sb_iload_n (pc' := 38) rfl rfl dX10_word_37 ?_
        obtain ⟨o3, H⟩ := H
        refine sb_iald (pc' := 39) rfl aI_71 o3.1 o3.2 dX10_word_38 ?_
        exact sb_iret rfl rfl dX10_word_39 (H (SR_ia hs2 _ _) hs2)
      · intro cc; have H := H.2 cc
        refine sb_iconst (pc' := 29) rfl dX10_word_28 ?_
        exact sb_iret rfl rfl dX10_word_29 (H (iR_lit rfl) hs2)
theorem bX10_found_0 {g : AG} {ad : Nat → Nat} {d : Nat} {Q : AO → SG → Prop} {rc rs : Nat} {σ : SG} {x1 : Int}  (hx1 : iR x1) (hS : SR σ) (H : ((x1 < 0 → 8 ≤ d ∧ (SR σ → Q (.inr "java/util/NoSuchElementException") σ)) ∧ (¬ x1 < 0 → ((x1 ≤ 4 → Cl g ad d mX10_prepareStacks 0 0 [(.ref (ad 0))] σ (Kv fun s2 => (((x1 < 0 ∨ 3 < x1) → (iR (sc s2 75 14) → SR s2 → Q (.inl (some (vi (sc s2 75 14)))) s2)) ∧ (x1 = 0 → (iR (sc s2 75 15) → SR s2 → Q (.inl (some (vi (sc s2 75 15)))) s2)) ∧ (x1 = 1 → ((¬ (sc s2 75 15) = ((-1)) → (iR (sc s2 75 17) → SR s2 → Q (.inl (some (vi (sc s2 75 17)))) s2)) ∧ ((sc s2 75 15) = ((-1)) → (iR ((-1)) → SR s2 → Q (.inl (some (vi ((-1))))) s2)))) ∧ (x1 = 2 → (iR (sc s2 75 12) → SR s2 → Q (.inl (some (vi (sc s2 75 12)))) s2)) ∧ (x1 = 3 → (iR (sc s2 75 13) → SR s2 → Q (.inl (some (vi (sc s2 75 13)))) s2))))) ∧ (¬ x1 ≤ 4 → 8 ≤ d ∧ (SR σ → Q (.inr "java/util/NoSuchElementException") σ)))))) : Wb g ad d mX10_found Q 0 [some (.ref (ad 0)), some (vi x1)] [] σ (rc + 1) (rs + 6) := by
  refine sb_iload_n (pc' := 1) rfl rfl dX10_found_0 ?_
  refine sb_if_lt (pc' := 4) (tgt := 9) rfl (by decide) hx1 dX10_found_1 ?_ ?_
  · intro cc; have H := H.1 cc
    obtain ⟨o1, H⟩ := H
    exact sb_throwNW rfl (thr_NoSuchElementException_197) (cls := "java/util/NoSuchElementException") (text := "the stacks have no such number") (rc := rc) (rs := rs) o1 (Nat.le_of_ble_eq_true rfl) wd_1292 wd_187 ⟨rfl, by decide +kernel⟩ dX10_found_9 dX10_found_12 dX10_found_13 dX10_found_16 dX10_found_19 (H hS)
  · intro cc; have H := H.2 cc
    refine sb_iload_n (pc' := 5) rfl rfl dX10_found_4 ?_
    refine sb_iconst (pc' := 6) rfl dX10_found_5 ?_
    refine sb_icmp_le (pc' := 9) (tgt := 20) rfl (by decide) hx1 (iR_lit rfl) dX10_found_6 ?_ ?_
    · intro cc; have H := H.1 cc
      refine sb_aload_n (pc' := 21) rfl rfl dX10_found_20 ?_
      obtain ⟨d2, hd2, H⟩ := H
      refine sb_callV (pc' := 24) rfl rfl (rc := (rc + 1)) (rs := (rs + 6)) (mc' := 0) (ms' := 0) (As := []) (st := []) of_0 rfl rfl (Nat.le_of_ble_eq_true rfl) hd2 kX10_prepareStacks ⟨wd_1434, wd_1436, wd_87⟩ dX10_found_21 (Eb.mono H ?_)
      rintro o s2 ⟨rfl, hs2, H⟩
      show Wb g ad d mX10_found Q 24 [some (.ref (ad 0)), some (vi x1)] [] s2 (rc + 1) (rs + 6)
      refine sb_iload_n (pc' := 25) rfl rfl dX10_found_24 ?_
      by_cases cc : x1 < 0 ∨ 3 < x1
      · have H := H.1 cc
        refine sb_swOut (tgt := 103) hx1 cc (by decide) dX10_found_25 ?_
        refine sb_aload_n (pc' := 104) rfl rfl dX10_found_103 ?_
        refine sb_getC (pc' := 107) rfl fc_0_8 wd_650 dX10_found_104 ?_
        refine sb_getIN (pc' := 110) rfl fi_75_14 wd_561 dX10_found_107 ?_
        exact sb_iret rfl rfl dX10_found_110 (H (SR_sc hs2 _ _) hs2)
      · have H := H.2
        rcases (show x1 = 0 ∨ x1 = 1 ∨ x1 = 2 ∨ x1 = 3 by omega) with cc | cc | cc | cc
        · have H := H.1 cc
          refine sb_swIn (tgt := 56) (off := 31) hx1 (by omega) (by omega) (by rw [cc]; rfl) (by decide) dX10_found_25 ?_
          refine sb_aload_n (pc' := 57) rfl rfl dX10_found_56 ?_
          refine sb_getC (pc' := 60) rfl fc_0_8 wd_650 dX10_found_57 ?_
          refine sb_getIN (pc' := 63) rfl fi_75_15 wd_563 dX10_found_60 ?_
          exact sb_iret rfl rfl dX10_found_63 (H (SR_sc hs2 _ _) hs2)
        · have H := H.2.1 cc
          refine sb_swIn (tgt := 64) (off := 39) hx1 (by omega) (by omega) (by rw [cc]; rfl) (by decide) dX10_found_25 ?_
          refine sb_aload_n (pc' := 65) rfl rfl dX10_found_64 ?_
          refine sb_getC (pc' := 68) rfl fc_0_8 wd_650 dX10_found_65 ?_
          refine sb_getIN (pc' := 71) rfl fi_75_15 wd_563 dX10_found_68 ?_
          refine sb_iconst (pc' := 72) rfl dX10_found_71 ?_
          refine sb_icmp_ne (pc' := 75) (tgt := 79) rfl (by decide) (SR_sc hs2 _ _) (iR_lit rfl) dX10_found_72 ?_ ?_
          · intro cc; have H := H.1 cc
            refine sb_aload_n (pc' := 80) rfl rfl dX10_found_79 ?_
            refine sb_getC (pc' := 83) rfl fc_0_8 wd_650 dX10_found_80 ?_
            refine sb_getIN (pc' := 86) rfl fi_75_17 wd_567 dX10_found_83 ?_
            exact sb_iret rfl rfl dX10_found_86 (H (SR_sc hs2 _ _) hs2)
          · intro cc; have H := H.2 cc
            refine sb_iconst (pc' := 76) rfl dX10_found_75 ?_
            refine sb_goto (tgt := 86) (by decide) dX10_found_76 ?_
            exact sb_iret rfl rfl dX10_found_86 (H (iR_lit rfl) hs2)
        · have H := H.2.2.1 cc
          refine sb_swIn (tgt := 87) (off := 62) hx1 (by omega) (by omega) (by rw [cc]; rfl) (by decide) dX10_found_25 ?_
          refine sb_aload_n (pc' := 88) rfl rfl dX10_found_87 ?_
          refine sb_getC (pc' := 91) rfl fc_0_8 wd_650 dX10_found_88 ?_
          refine sb_getIN (pc' := 94) rfl fi_75_12 wd_557 dX10_found_91 ?_
          exact sb_iret rfl rfl dX10_found_94 (H (SR_sc hs2 _ _) hs2)
        · have H := H.2.2.2 cc
          refine sb_swIn (tgt := 95) (off := 70) hx1 (by omega) (by omega) (by rw [cc]; rfl) (by decide) dX10_found_25 ?_
          refine sb_aload_n (pc' := 96) rfl rfl dX10_found_95 ?_
          refine sb_getC (pc' := 99) rfl fc_0_8 wd_650 dX10_found_96 ?_
          refine sb_getIN (pc' := 102) rfl fi_75_13 wd_559 dX10_found_99 ?_
          exact sb_iret rfl rfl dX10_found_102 (H (SR_sc hs2 _ _) hs2)
    · intro cc; have H := H.2 cc
      obtain ⟨o3, H⟩ := H
      exact sb_throwNW rfl (thr_NoSuchElementException_197) (cls := "java/util/NoSuchElementException") (text := "the stacks have no such number") (rc := rc) (rs := rs) o3 (Nat.le_of_ble_eq_true rfl) wd_1292 wd_187 ⟨rfl, by decide +kernel⟩ dX10_found_9 dX10_found_12 dX10_found_13 dX10_found_16 dX10_found_19 (H hS)
theorem bX10_halves_0 {g : AG} {ad : Nat → Nat} {d : Nat} {Q : AO → SG → Prop} {rc rs : Nat} {σ : SG} {x1 x2 : Int}  (hx1 : iR x1) (hx2 : iR x2) (hS : SR σ) (H : ((x2 < 0 → 8 ≤ d ∧ (SR σ → Q (.inr "java/util/NoSuchElementException") σ)) ∧ (¬ x2 < 0 → ((x2 ≤ 1 → Cl g ad d mX10_prepareStacks 0 0 [(.ref (ad 0))] σ (Kv fun s2 => ((x1 < 0 → (iR ((-1)) → SR s2 → Q (.inl (some (vi ((-1))))) s2)) ∧ (¬ x1 < 0 → ((x1 < (sc s2 75 17) → (0 ≤ x1 ∧ x1 < 6) ∧ ((¬ x2 = 0 → (0 ≤ ia s2 84 x1 ∧ ia s2 84 x1 < 186) ∧ (iR (ia s2 52 (ia s2 84 x1)) → SR s2 → Q (.inl (some (vi (ia s2 52 (ia s2 84 x1))))) s2)) ∧ (x2 = 0 → (0 ≤ ia s2 84 x1 ∧ ia s2 84 x1 < 186) ∧ (iR (ia s2 49 (ia s2 84 x1)) → SR s2 → Q (.inl (some (vi (ia s2 49 (ia s2 84 x1))))) s2)))) ∧ (¬ x1 < (sc s2 75 17) → (iR ((-1)) → SR s2 → Q (.inl (some (vi ((-1))))) s2))))))) ∧ (¬ x2 ≤ 1 → 8 ≤ d ∧ (SR σ → Q (.inr "java/util/NoSuchElementException") σ)))))) : Wb g ad d mX10_halves Q 0 [some (.ref (ad 0)), some (vi x1), some (vi x2), none] [] σ (rc + 1) (rs + 6) := by
  refine sb_iload_n (pc' := 1) rfl rfl dX10_halves_0 ?_
  refine sb_if_lt (pc' := 4) (tgt := 9) rfl (by decide) hx2 dX10_halves_1 ?_ ?_
  · intro cc; have H := H.1 cc
    obtain ⟨o1, H⟩ := H
    exact sb_throwNW rfl (thr_NoSuchElementException_197) (cls := "java/util/NoSuchElementException") (text := "a step has no such number") (rc := rc) (rs := rs) o1 (Nat.le_of_ble_eq_true rfl) wd_1292 wd_187 ⟨rfl, by decide +kernel⟩ dX10_halves_9 dX10_halves_12 dX10_halves_13 dX10_halves_16 dX10_halves_19 (H hS)
  · intro cc; have H := H.2 cc
    refine sb_iload_n (pc' := 5) rfl rfl dX10_halves_4 ?_
    refine sb_iconst (pc' := 6) rfl dX10_halves_5 ?_
    refine sb_icmp_le (pc' := 9) (tgt := 20) rfl (by decide) hx2 (iR_lit rfl) dX10_halves_6 ?_ ?_
    · intro cc; have H := H.1 cc
      refine sb_aload_n (pc' := 21) rfl rfl dX10_halves_20 ?_
      obtain ⟨d2, hd2, H⟩ := H
      refine sb_callV (pc' := 24) rfl rfl (rc := (rc + 1)) (rs := (rs + 6)) (mc' := 0) (ms' := 0) (As := []) (st := []) of_0 rfl rfl (Nat.le_of_ble_eq_true rfl) hd2 kX10_prepareStacks ⟨wd_1434, wd_1436, wd_87⟩ dX10_halves_21 (Eb.mono H ?_)
      rintro o s2 ⟨rfl, hs2, H⟩
      show Wb g ad d mX10_halves Q 24 [some (.ref (ad 0)), some (vi x1), some (vi x2), none] [] s2 (rc + 1) (rs + 6)
      refine sb_iload_n (pc' := 25) rfl rfl dX10_halves_24 ?_
      refine sb_if_lt (pc' := 28) (tgt := 39) rfl (by decide) hx1 dX10_halves_25 ?_ ?_
      · intro cc; have H := H.1 cc
        refine sb_iconst (pc' := 40) rfl dX10_halves_39 ?_
        exact sb_iret rfl rfl dX10_halves_40 (H (iR_lit rfl) hs2)
      · intro cc; have H := H.2 cc
        refine sb_iload_n (pc' := 29) rfl rfl dX10_halves_28 ?_
        refine sb_aload_n (pc' := 30) rfl rfl dX10_halves_29 ?_
        refine sb_getC (pc' := 33) rfl fc_0_8 wd_650 dX10_halves_30 ?_
        refine sb_getIN (pc' := 36) rfl fi_75_17 wd_567 dX10_halves_33 ?_
        refine sb_icmp_lt (pc' := 39) (tgt := 41) rfl (by decide) hx1 (SR_sc hs2 _ _) dX10_halves_36 ?_ ?_
        · intro cc; have H := H.1 cc
          refine sb_aload_n (pc' := 42) rfl rfl dX10_halves_41 ?_
          refine sb_getC (pc' := 45) rfl fc_0_8 wd_650 dX10_halves_42 ?_
          refine sb_getCN (pc' := 48) rfl fc_75_16 wd_565 dX10_halves_45 ?_
          refine sb_iload_n (pc' := 49) rfl rfl dX10_halves_48 ?_
          obtain ⟨o3, H⟩ := H
          refine sb_iald (pc' := 50) rfl aI_84 o3.1 o3.2 dX10_halves_49 ?_
          refine sb_istore_n (pc' := 51) rfl (L' := [some (.ref (ad 0)), some (vi x1), some (vi x2), some (vi (ia s2 84 x1))]) rfl (by decide) dX10_halves_50 ?_
          refine sb_iload_n (pc' := 52) rfl rfl dX10_halves_51 ?_
          refine sb_if_ne (pc' := 55) (tgt := 67) rfl (by decide) hx2 dX10_halves_52 ?_ ?_
          · intro cc; have H := H.1 cc
            refine sb_aload_n (pc' := 68) rfl rfl dX10_halves_67 ?_
            refine sb_getC (pc' := 71) rfl fc_0_4 wd_646 dX10_halves_68 ?_
            refine sb_getCN (pc' := 74) rfl fc_48_3 wd_375 dX10_halves_71 ?_
            refine sb_iload_n (pc' := 75) rfl rfl dX10_halves_74 ?_
            obtain ⟨o4, H⟩ := H
            refine sb_iald (pc' := 76) rfl aI_52 o4.1 o4.2 dX10_halves_75 ?_
            exact sb_iret rfl rfl dX10_halves_76 (H (SR_ia hs2 _ _) hs2)
          · intro cc; have H := H.2 cc
            refine sb_aload_n (pc' := 56) rfl rfl dX10_halves_55 ?_
            refine sb_getC (pc' := 59) rfl fc_0_4 wd_646 dX10_halves_56 ?_
            refine sb_getCN (pc' := 62) rfl fc_48_0 wd_362 dX10_halves_59 ?_
            refine sb_iload_n (pc' := 63) rfl rfl dX10_halves_62 ?_
            obtain ⟨o5, H⟩ := H
            refine sb_iald (pc' := 64) rfl aI_49 o5.1 o5.2 dX10_halves_63 ?_
            refine sb_goto (tgt := 76) (by decide) dX10_halves_64 ?_
            exact sb_iret rfl rfl dX10_halves_76 (H (SR_ia hs2 _ _) hs2)
        · intro cc; have H := H.2 cc
          refine sb_iconst (pc' := 40) rfl dX10_halves_39 ?_
          exact sb_iret rfl rfl dX10_halves_40 (H (iR_lit rfl) hs2)
    · intro cc; have H := H.2 cc
      obtain ⟨o6, H⟩ := H
      exact sb_throwNW rfl (thr_NoSuchElementException_197) (cls := "java/util/NoSuchElementException") (text := "a step has no such number") (rc := rc) (rs := rs) o6 (Nat.le_of_ble_eq_true rfl) wd_1292 wd_187 ⟨rfl, by decide +kernel⟩ dX10_halves_9 dX10_halves_12 dX10_halves_13 dX10_halves_16 dX10_halves_19 (H hS)
theorem bX10_stack_0 {g : AG} {ad : Nat → Nat} {d : Nat} {Q : AO → SG → Prop} {rc rs : Nat} {σ : SG} {x1 x2 : Int}  (hx1 : iR x1) (hx2 : iR x2) (hS : SR σ) (H : ((x1 < 0 → 8 ≤ d ∧ (SR σ → Q (.inr "java/lang/IndexOutOfBoundsException") σ)) ∧ (¬ x1 < 0 → isK (rv σ 0 1) ∧ ((x1 ≤ (sc σ (rv σ 0 1) 13) → ((x2 < 0 → 8 ≤ d ∧ (SR σ → Q (.inr "java/util/NoSuchElementException") σ)) ∧ (¬ x2 < 0 → ((x2 ≤ 1 → Cl g ad d mX10_prepareStacks 0 0 [(.ref (ad 0))] σ (Kv fun s4 => ((¬ x2 = 0 → (0 ≤ x1 ∧ x1 < 7) ∧ (iR (ia s4 81 x1) → SR s4 → Q (.inl (some (vi (ia s4 81 x1)))) s4)) ∧ (x2 = 0 → (0 ≤ x1 ∧ x1 < 7) ∧ (iR (ia s4 80 x1) → SR s4 → Q (.inl (some (vi (ia s4 80 x1)))) s4))))) ∧ (¬ x2 ≤ 1 → 8 ≤ d ∧ (SR σ → Q (.inr "java/util/NoSuchElementException") σ)))))) ∧ (¬ x1 ≤ (sc σ (rv σ 0 1) 13) → 8 ≤ d ∧ (SR σ → Q (.inr "java/lang/IndexOutOfBoundsException") σ)))))) : Wb g ad d mX10_stack Q 0 [some (.ref (ad 0)), some (vi x1), some (vi x2)] [] σ (rc + 1) (rs + 6) := by
  refine sb_iload_n (pc' := 1) rfl rfl dX10_stack_0 ?_
  refine sb_if_lt (pc' := 4) (tgt := 15) rfl (by decide) hx1 dX10_stack_1 ?_ ?_
  · intro cc; have H := H.1 cc
    obtain ⟨o1, H⟩ := H
    exact sb_throwW rfl (thr_IndexOutOfBoundsException_315) (cls := "java/lang/IndexOutOfBoundsException") (text := "there is no such stack") (rc := rc) (rs := rs) o1 (Nat.le_of_ble_eq_true rfl) wd_1259 wd_186 ⟨rfl, by decide +kernel⟩ dX10_stack_15 dX10_stack_18 dX10_stack_19 dX10_stack_22 dX10_stack_25 (H hS)
  · intro cc; have H := H.2 cc
    refine sb_iload_n (pc' := 5) rfl rfl dX10_stack_4 ?_
    refine sb_aload_n (pc' := 6) rfl rfl dX10_stack_5 ?_
    obtain ⟨o2, H⟩ := H
    refine sb_getR (pc' := 9) rfl fr_0_1 wd_643 dX10_stack_6 ?_
    refine sb_getIN (pc' := 12) rfl (fiK_13 o2) wd_238 dX10_stack_9 ?_
    refine sb_icmp_le (pc' := 15) (tgt := 26) rfl (by decide) hx1 (SR_sc hS _ _) dX10_stack_12 ?_ ?_
    · intro cc; have H := H.1 cc
      refine sb_iload_n (pc' := 27) rfl rfl dX10_stack_26 ?_
      refine sb_if_lt (pc' := 30) (tgt := 35) rfl (by decide) hx2 dX10_stack_27 ?_ ?_
      · intro cc; have H := H.1 cc
        obtain ⟨o3, H⟩ := H
        exact sb_throwNW rfl (thr_NoSuchElementException_197) (cls := "java/util/NoSuchElementException") (text := "a stack has no such number") (rc := rc) (rs := rs) o3 (Nat.le_of_ble_eq_true rfl) wd_1292 wd_187 ⟨rfl, by decide +kernel⟩ dX10_stack_35 dX10_stack_38 dX10_stack_39 dX10_stack_42 dX10_stack_45 (H hS)
      · intro cc; have H := H.2 cc
        refine sb_iload_n (pc' := 31) rfl rfl dX10_stack_30 ?_
        refine sb_iconst (pc' := 32) rfl dX10_stack_31 ?_
        refine sb_icmp_le (pc' := 35) (tgt := 46) rfl (by decide) hx2 (iR_lit rfl) dX10_stack_32 ?_ ?_
        · intro cc; have H := H.1 cc
          refine sb_aload_n (pc' := 47) rfl rfl dX10_stack_46 ?_
          obtain ⟨d4, hd4, H⟩ := H
          refine sb_callV (pc' := 50) rfl rfl (rc := (rc + 1)) (rs := (rs + 6)) (mc' := 0) (ms' := 0) (As := []) (st := []) of_0 rfl rfl (Nat.le_of_ble_eq_true rfl) hd4 kX10_prepareStacks ⟨wd_1434, wd_1436, wd_87⟩ dX10_stack_47 (Eb.mono H ?_)
          rintro o s4 ⟨rfl, hs4, H⟩
          show Wb g ad d mX10_stack Q 50 [some (.ref (ad 0)), some (vi x1), some (vi x2)] [] s4 (rc + 1) (rs + 6)
          refine sb_iload_n (pc' := 51) rfl rfl dX10_stack_50 ?_
          refine sb_if_ne (pc' := 54) (tgt := 66) rfl (by decide) hx2 dX10_stack_51 ?_ ?_
          · intro cc; have H := H.1 cc
            refine sb_aload_n (pc' := 67) rfl rfl dX10_stack_66 ?_
            refine sb_getC (pc' := 70) rfl fc_0_8 wd_650 dX10_stack_67 ?_
            refine sb_getCN (pc' := 73) rfl fc_75_8 wd_552 dX10_stack_70 ?_
            refine sb_iload_n (pc' := 74) rfl rfl dX10_stack_73 ?_
            obtain ⟨o5, H⟩ := H
            refine sb_iald (pc' := 75) rfl aI_81 o5.1 o5.2 dX10_stack_74 ?_
            exact sb_iret rfl rfl dX10_stack_75 (H (SR_ia hs4 _ _) hs4)
          · intro cc; have H := H.2 cc
            refine sb_aload_n (pc' := 55) rfl rfl dX10_stack_54 ?_
            refine sb_getC (pc' := 58) rfl fc_0_8 wd_650 dX10_stack_55 ?_
            refine sb_getCN (pc' := 61) rfl fc_75_7 wd_550 dX10_stack_58 ?_
            refine sb_iload_n (pc' := 62) rfl rfl dX10_stack_61 ?_
            obtain ⟨o6, H⟩ := H
            refine sb_iald (pc' := 63) rfl aI_80 o6.1 o6.2 dX10_stack_62 ?_
            refine sb_goto (tgt := 75) (by decide) dX10_stack_63 ?_
            exact sb_iret rfl rfl dX10_stack_75 (H (SR_ia hs4 _ _) hs4)
        · intro cc; have H := H.2 cc
          obtain ⟨o7, H⟩ := H
          exact sb_throwNW rfl (thr_NoSuchElementException_197) (cls := "java/util/NoSuchElementException") (text := "a stack has no such number") (rc := rc) (rs := rs) o7 (Nat.le_of_ble_eq_true rfl) wd_1292 wd_187 ⟨rfl, by decide +kernel⟩ dX10_stack_35 dX10_stack_38 dX10_stack_39 dX10_stack_42 dX10_stack_45 (H hS)
    · intro cc; have H := H.2 cc
      obtain ⟨o8, H⟩ := H
      exact sb_throwW rfl (thr_IndexOutOfBoundsException_315) (cls := "java/lang/IndexOutOfBoundsException") (text := "there is no such stack") (rc := rc) (rs := rs) o8 (Nat.le_of_ble_eq_true rfl) wd_1259 wd_186 ⟨rfl, by decide +kernel⟩ dX10_stack_15 dX10_stack_18 dX10_stack_19 dX10_stack_22 dX10_stack_25 (H hS)
theorem bX10_forced_0 {g : AG} {ad : Nat → Nat} {d : Nat} {Q : AO → SG → Prop} {rc rs : Nat} {σ : SG}    (hS : SR σ) (H : Cl g ad d mX10_readTold 1 6 [(.ref (ad 0))] σ (Kx (Kv fun s1 => Cl g ad d mX10_prepareOptions 0 0 [(.ref (ad 0))] s1 (Kv fun s2 => isK (rv s2 0 1) ∧ Cl g ad d mX0_cheapestTelling 0 0 [(.ref (ad 85)), (.ref (ad 45)), (vi (sc s2 37 11)), (vi (ia s2 (rv s2 0 1 + 11) 2)), (vi (ia s2 (rv s2 0 1 + 11) 3))] s2 (Ki fun r4 s4 => (iR r4 → SR s4 → Q (.inl (some (vi r4))) s4)))) (fun E s1 => SR s1 → Q (.inr E) s1))) : Wb g ad d mX10_forced Q 0 [some (.ref (ad 0))] [] σ (rc + 1) (rs + 6) := by
  refine sb_aload_n (pc' := 1) rfl rfl dX10_forced_0 ?_
  obtain ⟨d1, hd1, H⟩ := H
  refine sb_callV (pc' := 4) rfl rfl (rc := rc) (rs := rs) (mc' := 1) (ms' := 6) (As := []) (st := []) of_0 rfl rfl (Nat.le_of_ble_eq_true rfl) hd1 kX10_readTold ⟨wd_1461, wd_1463, wd_88⟩ dX10_forced_1 (Eb.mono H ?_)
  rintro o s1 (⟨rfl, hs1, H⟩ | ⟨E, rfl, hs1, H⟩)
  case inr => exact H hs1
  show Wb g ad d mX10_forced Q 4 [some (.ref (ad 0))] [] s1 rc rs
  refine sb_aload_n (pc' := 5) rfl rfl dX10_forced_4 ?_
  obtain ⟨d2, hd2, H⟩ := H
  refine sb_callV (pc' := 8) rfl rfl (rc := rc) (rs := rs) (mc' := 0) (ms' := 0) (As := []) (st := []) of_0 rfl rfl (Nat.le_of_ble_eq_true rfl) hd2 kX10_prepareOptions ⟨wd_708, wd_710, wd_1⟩ dX10_forced_5 (Eb.mono H ?_)
  rintro o s2 ⟨rfl, hs2, H⟩
  show Wb g ad d mX10_forced Q 8 [some (.ref (ad 0))] [] s2 rc rs
  refine sb_aload_n (pc' := 9) rfl rfl dX10_forced_8 ?_
  refine sb_getC (pc' := 12) rfl fc_0_9 wd_651 dX10_forced_9 ?_
  refine sb_aload_n (pc' := 13) rfl rfl dX10_forced_12 ?_
  refine sb_getC (pc' := 16) rfl fc_0_3 wd_645 dX10_forced_13 ?_
  refine sb_getCN (pc' := 19) rfl fc_37_10 wd_303 dX10_forced_16 ?_
  refine sb_aload_n (pc' := 20) rfl rfl dX10_forced_19 ?_
  refine sb_getC (pc' := 23) rfl fc_0_3 wd_645 dX10_forced_20 ?_
  refine sb_getIN (pc' := 26) rfl fi_37_11 wd_307 dX10_forced_23 ?_
  refine sb_aload_n (pc' := 27) rfl rfl dX10_forced_26 ?_
  obtain ⟨o3, H⟩ := H
  refine sb_getR (pc' := 30) rfl fr_0_1 wd_643 dX10_forced_27 ?_
  refine sb_getCN (pc' := 33) rfl (fcK_14 o3) wd_241 dX10_forced_30 ?_
  refine sb_iconst (pc' := 34) rfl dX10_forced_33 ?_
  refine sb_iald (pc' := 35) rfl (aIK_11 o3) (by decide) (by decide) dX10_forced_34 ?_
  refine sb_aload_n (pc' := 36) rfl rfl dX10_forced_35 ?_
  refine sb_getR (pc' := 39) rfl fr_0_1 wd_643 dX10_forced_36 ?_
  refine sb_getCN (pc' := 42) rfl (fcK_14 o3) wd_241 dX10_forced_39 ?_
  refine sb_iconst (pc' := 43) rfl dX10_forced_42 ?_
  refine sb_iald (pc' := 44) rfl (aIK_11 o3) (by decide) (by decide) dX10_forced_43 ?_
  obtain ⟨d4, hd4, H⟩ := H
  refine sb_callVN (pc' := 47) rfl rfl (rc := rc) (rs := rs) (mc' := 0) (ms' := 0) (As := [(.ref (ad 45)), (vi (sc s2 37 11)), (vi (ia s2 (rv s2 0 1 + 11) 2)), (vi (ia s2 (rv s2 0 1 + 11) 3))]) (st := []) of_85 rfl rfl (Nat.le_of_ble_eq_true rfl) hd4 kX0_cheapestTelling ⟨wd_1465, wd_1467, wd_89⟩ dX10_forced_44 (Eb.mono H ?_)
  rintro o s4 ⟨r4, rfl, hr4, hs4, H⟩
  show Wb g ad d mX10_forced Q 47 [some (.ref (ad 0))] [(vi r4)] s4 rc rs
  exact sb_iret rfl rfl dX10_forced_47 (H hr4 hs4)
theorem bX10_near_0 {g : AG} {ad : Nat → Nat} {d : Nat} {Q : AO → SG → Prop} {rc rs : Nat} {σ : SG}    (hS : SR σ) (H : Cl g ad d mX10_readTold 1 6 [(.ref (ad 0))] σ (Kx (Kv fun s1 => Cl g ad d mX10_unfoldWay 0 0 [(.ref (ad 0)), (vi 0)] s1 (Ki fun r2 s2 => Cl g ad d mX4_apart 0 0 [(.ref (ad 88)), (.ref (ad 71)), (vi (sc s2 63 13)), (.ref (ad 45)), (vi (sc s2 37 11))] s2 (Ki fun r3 s3 => (iR r3 → SR s3 → Q (.inl (some (vi r3))) s3)))) (fun E s1 => SR s1 → Q (.inr E) s1))) : Wb g ad d mX10_near Q 0 [some (.ref (ad 0))] [] σ (rc + 1) (rs + 6) := by
  refine sb_aload_n (pc' := 1) rfl rfl dX10_near_0 ?_
  obtain ⟨d1, hd1, H⟩ := H
  refine sb_callV (pc' := 4) rfl rfl (rc := rc) (rs := rs) (mc' := 1) (ms' := 6) (As := []) (st := []) of_0 rfl rfl (Nat.le_of_ble_eq_true rfl) hd1 kX10_readTold ⟨wd_1461, wd_1463, wd_88⟩ dX10_near_1 (Eb.mono H ?_)
  rintro o s1 (⟨rfl, hs1, H⟩ | ⟨E, rfl, hs1, H⟩)
  case inr => exact H hs1
  show Wb g ad d mX10_near Q 4 [some (.ref (ad 0))] [] s1 rc rs
  refine sb_aload_n (pc' := 5) rfl rfl dX10_near_4 ?_
  refine sb_iconst (pc' := 6) rfl dX10_near_5 ?_
  obtain ⟨d2, hd2, H⟩ := H
  refine sb_callV (pc' := 9) rfl rfl (rc := rc) (rs := rs) (mc' := 0) (ms' := 0) (As := [(vi 0)]) (st := []) of_0 rfl rfl (Nat.le_of_ble_eq_true rfl) hd2 kX10_unfoldWay ⟨wd_866, wd_868, wd_30⟩ dX10_near_6 (Eb.mono H ?_)
  rintro o s2 ⟨r2, rfl, hr2, hs2, H⟩
  show Wb g ad d mX10_near Q 9 [some (.ref (ad 0))] [(vi r2)] s2 rc rs
  refine sb_pop (pc' := 10) rfl rfl dX10_near_9 ?_
  refine sb_aload_n (pc' := 11) rfl rfl dX10_near_10 ?_
  refine sb_getC (pc' := 14) rfl fc_0_10 wd_652 dX10_near_11 ?_
  refine sb_aload_n (pc' := 15) rfl rfl dX10_near_14 ?_
  refine sb_getC (pc' := 18) rfl fc_0_6 wd_648 dX10_near_15 ?_
  refine sb_getCN (pc' := 21) rfl fc_63_12 wd_485 dX10_near_18 ?_
  refine sb_aload_n (pc' := 22) rfl rfl dX10_near_21 ?_
  refine sb_getC (pc' := 25) rfl fc_0_6 wd_648 dX10_near_22 ?_
  refine sb_getIN (pc' := 28) rfl fi_63_13 wd_487 dX10_near_25 ?_
  refine sb_aload_n (pc' := 29) rfl rfl dX10_near_28 ?_
  refine sb_getC (pc' := 32) rfl fc_0_3 wd_645 dX10_near_29 ?_
  refine sb_getCN (pc' := 35) rfl fc_37_10 wd_303 dX10_near_32 ?_
  refine sb_aload_n (pc' := 36) rfl rfl dX10_near_35 ?_
  refine sb_getC (pc' := 39) rfl fc_0_3 wd_645 dX10_near_36 ?_
  refine sb_getIN (pc' := 42) rfl fi_37_11 wd_307 dX10_near_39 ?_
  obtain ⟨d3, hd3, H⟩ := H
  refine sb_callVN (pc' := 45) rfl rfl (rc := rc) (rs := rs) (mc' := 0) (ms' := 0) (As := [(.ref (ad 71)), (vi (sc s2 63 13)), (.ref (ad 45)), (vi (sc s2 37 11))]) (st := []) of_88 rfl rfl (Nat.le_of_ble_eq_true rfl) hd3 kX4_apart ⟨wd_1491, wd_1493, wd_92⟩ dX10_near_42 (Eb.mono H ?_)
  rintro o s3 ⟨r3, rfl, hr3, hs3, H⟩
  show Wb g ad d mX10_near Q 45 [some (.ref (ad 0))] [(vi r3)] s3 rc rs
  exact sb_iret rfl rfl dX10_near_45 (H hr3 hs3)
theorem bX10_match_0 {g : AG} {ad : Nat → Nat} {d : Nat} {Q : AO → SG → Prop} {rc rs : Nat} {σ : SG} {x1 : Int}  (hx1 : iR x1) (hS : SR σ) (H : ((x1 < 1 → 8 ≤ d ∧ (SR (setS σ 37 1 0) → Q (.inr "java/lang/IllegalArgumentException") (setS σ 37 1 0))) ∧ (¬ x1 < 1 → ((x1 ≤ 3 → Cl g ad d mX10_readTold 1 6 [(.ref (ad 0))] σ (Kx (Kv fun s2 => Cl g ad d mX10_unfoldWay 0 0 [(.ref (ad 0)), (vi 0)] s2 (Ki fun r3 s3 => Cl g ad d mX4_common 0 0 [(.ref (ad 88)), (.ref (ad 71)), (vi (sc s3 63 13)), (.ref (ad 45)), (vi (sc s3 37 11)), (vi x1)] s3 (Ki fun r4 s4 => (iR r4 → SR s4 → Q (.inl (some (vi r4))) s4)))) (fun E s2 => SR s2 → Q (.inr E) s2))) ∧ (¬ x1 ≤ 3 → 8 ≤ d ∧ (SR (setS σ 37 1 0) → Q (.inr "java/lang/IllegalArgumentException") (setS σ 37 1 0))))))) : Wb g ad d mX10_match Q 0 [some (.ref (ad 0)), some (vi x1)] [] σ (rc + 1) (rs + 6) := by
  refine sb_iload_n (pc' := 1) rfl rfl dX10_match_0 ?_
  refine sb_iconst (pc' := 2) rfl dX10_match_1 ?_
  refine sb_icmp_lt (pc' := 5) (tgt := 10) rfl (by decide) hx1 (iR_lit rfl) dX10_match_2 ?_ ?_
  · intro cc; have H := H.1 cc
    refine sb_aload_n (pc' := 11) rfl rfl dX10_match_10 ?_
    refine sb_getC (pc' := 14) rfl fc_0_3 wd_645 dX10_match_11 ?_
    refine sb_iconst (pc' := 15) rfl dX10_match_14 ?_
    refine sb_putIN (pc' := 18) rfl fi_37_1 (Or.inl rfl) wd_282 dX10_match_15 ?_
    obtain ⟨o1, H⟩ := H
    exact sb_throwW rfl (thr_IllegalArgumentException_221) (cls := "java/lang/IllegalArgumentException") (text := "no such length of rows") (rc := rc) (rs := rs) o1 (Nat.le_of_ble_eq_true rfl) wd_1086 wd_180 ⟨rfl, by decide +kernel⟩ dX10_match_18 dX10_match_21 dX10_match_22 dX10_match_25 dX10_match_28 (H (SR_setS hS (iR_lit rfl)))
  · intro cc; have H := H.2 cc
    refine sb_iload_n (pc' := 6) rfl rfl dX10_match_5 ?_
    refine sb_iconst (pc' := 7) rfl dX10_match_6 ?_
    refine sb_icmp_le (pc' := 10) (tgt := 29) rfl (by decide) hx1 (iR_lit rfl) dX10_match_7 ?_ ?_
    · intro cc; have H := H.1 cc
      refine sb_aload_n (pc' := 30) rfl rfl dX10_match_29 ?_
      obtain ⟨d2, hd2, H⟩ := H
      refine sb_callV (pc' := 33) rfl rfl (rc := rc) (rs := rs) (mc' := 1) (ms' := 6) (As := []) (st := []) of_0 rfl rfl (Nat.le_of_ble_eq_true rfl) hd2 kX10_readTold ⟨wd_1461, wd_1463, wd_88⟩ dX10_match_30 (Eb.mono H ?_)
      rintro o s2 (⟨rfl, hs2, H⟩ | ⟨E, rfl, hs2, H⟩)
      case inr => exact H hs2
      show Wb g ad d mX10_match Q 33 [some (.ref (ad 0)), some (vi x1)] [] s2 rc rs
      refine sb_aload_n (pc' := 34) rfl rfl dX10_match_33 ?_
      refine sb_iconst (pc' := 35) rfl dX10_match_34 ?_
      obtain ⟨d3, hd3, H⟩ := H
      refine sb_callV (pc' := 38) rfl rfl (rc := rc) (rs := rs) (mc' := 0) (ms' := 0) (As := [(vi 0)]) (st := []) of_0 rfl rfl (Nat.le_of_ble_eq_true rfl) hd3 kX10_unfoldWay ⟨wd_866, wd_868, wd_30⟩ dX10_match_35 (Eb.mono H ?_)
      rintro o s3 ⟨r3, rfl, hr3, hs3, H⟩
      show Wb g ad d mX10_match Q 38 [some (.ref (ad 0)), some (vi x1)] [(vi r3)] s3 rc rs
      refine sb_pop (pc' := 39) rfl rfl dX10_match_38 ?_
      refine sb_aload_n (pc' := 40) rfl rfl dX10_match_39 ?_
      refine sb_getC (pc' := 43) rfl fc_0_10 wd_652 dX10_match_40 ?_
      refine sb_aload_n (pc' := 44) rfl rfl dX10_match_43 ?_
      refine sb_getC (pc' := 47) rfl fc_0_6 wd_648 dX10_match_44 ?_
      refine sb_getCN (pc' := 50) rfl fc_63_12 wd_485 dX10_match_47 ?_
      refine sb_aload_n (pc' := 51) rfl rfl dX10_match_50 ?_
      refine sb_getC (pc' := 54) rfl fc_0_6 wd_648 dX10_match_51 ?_
      refine sb_getIN (pc' := 57) rfl fi_63_13 wd_487 dX10_match_54 ?_
      refine sb_aload_n (pc' := 58) rfl rfl dX10_match_57 ?_
      refine sb_getC (pc' := 61) rfl fc_0_3 wd_645 dX10_match_58 ?_
      refine sb_getCN (pc' := 64) rfl fc_37_10 wd_303 dX10_match_61 ?_
      refine sb_aload_n (pc' := 65) rfl rfl dX10_match_64 ?_
      refine sb_getC (pc' := 68) rfl fc_0_3 wd_645 dX10_match_65 ?_
      refine sb_getIN (pc' := 71) rfl fi_37_11 wd_307 dX10_match_68 ?_
      refine sb_iload_n (pc' := 72) rfl rfl dX10_match_71 ?_
      obtain ⟨d4, hd4, H⟩ := H
      refine sb_callVN (pc' := 75) rfl rfl (rc := rc) (rs := rs) (mc' := 0) (ms' := 0) (As := [(.ref (ad 71)), (vi (sc s3 63 13)), (.ref (ad 45)), (vi (sc s3 37 11)), (vi x1)]) (st := []) of_88 rfl rfl (Nat.le_of_ble_eq_true rfl) hd4 kX4_common ⟨wd_1504, wd_1506, wd_93⟩ dX10_match_72 (Eb.mono H ?_)
      rintro o s4 ⟨r4, rfl, hr4, hs4, H⟩
      show Wb g ad d mX10_match Q 75 [some (.ref (ad 0)), some (vi x1)] [(vi r4)] s4 rc rs
      exact sb_iret rfl rfl dX10_match_75 (H hr4 hs4)
    · intro cc; have H := H.2 cc
      refine sb_aload_n (pc' := 11) rfl rfl dX10_match_10 ?_
      refine sb_getC (pc' := 14) rfl fc_0_3 wd_645 dX10_match_11 ?_
      refine sb_iconst (pc' := 15) rfl dX10_match_14 ?_
      refine sb_putIN (pc' := 18) rfl fi_37_1 (Or.inl rfl) wd_282 dX10_match_15 ?_
      obtain ⟨o5, H⟩ := H
      exact sb_throwW rfl (thr_IllegalArgumentException_221) (cls := "java/lang/IllegalArgumentException") (text := "no such length of rows") (rc := rc) (rs := rs) o5 (Nat.le_of_ble_eq_true rfl) wd_1086 wd_180 ⟨rfl, by decide +kernel⟩ dX10_match_18 dX10_match_21 dX10_match_22 dX10_match_25 dX10_match_28 (H (SR_setS hS (iR_lit rfl)))
theorem bX10_agreed_0 {g : AG} {ad : Nat → Nat} {d : Nat} {Q : AO → SG → Prop} {rc rs : Nat} {σ : SG} {x1 : Int}  (hx1 : iR x1) (hS : SR σ) (H : ((x1 < 1 → 8 ≤ d ∧ (SR σ → Q (.inr "java/lang/IllegalArgumentException") σ)) ∧ (¬ x1 < 1 → ((x1 ≤ 10 → Cl g ad d mX4_clear 0 0 [(.ref (ad 88))] σ (Kv fun s2 => (iR x1 → iR 0 → SR s2 → Wb g ad d mX10_agreed Q 31 [some (.ref (ad 0)), some (vi x1), some (vi 0)] [] s2 (rc + 1) (rs + 6)))) ∧ (¬ x1 ≤ 10 → 8 ≤ d ∧ (SR σ → Q (.inr "java/lang/IllegalArgumentException") σ)))))) : Wb g ad d mX10_agreed Q 0 [some (.ref (ad 0)), some (vi x1), none] [] σ (rc + 1) (rs + 6) := by
  refine sb_iload_n (pc' := 1) rfl rfl dX10_agreed_0 ?_
  refine sb_iconst (pc' := 2) rfl dX10_agreed_1 ?_
  refine sb_icmp_lt (pc' := 5) (tgt := 11) rfl (by decide) hx1 (iR_lit rfl) dX10_agreed_2 ?_ ?_
  · intro cc; have H := H.1 cc
    obtain ⟨o1, H⟩ := H
    exact sb_throwW rfl (thr_IllegalArgumentException_221) (cls := "java/lang/IllegalArgumentException") (text := "no such number of ways") (rc := rc) (rs := rs) o1 (Nat.le_of_ble_eq_true rfl) wd_1086 wd_180 ⟨rfl, by decide +kernel⟩ dX10_agreed_11 dX10_agreed_14 dX10_agreed_15 dX10_agreed_18 dX10_agreed_21 (H hS)
  · intro cc; have H := H.2 cc
    refine sb_iload_n (pc' := 6) rfl rfl dX10_agreed_5 ?_
    refine sb_bipush (pc' := 8) rfl (z := 10) (by decide) dX10_agreed_6 ?_
    refine sb_icmp_le (pc' := 11) (tgt := 22) rfl (by decide) hx1 (iR_lit rfl) dX10_agreed_8 ?_ ?_
    · intro cc; have H := H.1 cc
      refine sb_aload_n (pc' := 23) rfl rfl dX10_agreed_22 ?_
      refine sb_getC (pc' := 26) rfl fc_0_10 wd_652 dX10_agreed_23 ?_
      obtain ⟨d2, hd2, H⟩ := H
      refine sb_callVN (pc' := 29) rfl rfl (rc := (rc + 1)) (rs := (rs + 6)) (mc' := 0) (ms' := 0) (As := []) (st := []) of_88 rfl rfl (Nat.le_of_ble_eq_true rfl) hd2 kX4_clear ⟨wd_1521, wd_1523, wd_95⟩ dX10_agreed_26 (Eb.mono H ?_)
      rintro o s2 ⟨rfl, hs2, H⟩
      show Wb g ad d mX10_agreed Q 29 [some (.ref (ad 0)), some (vi x1), none] [] s2 (rc + 1) (rs + 6)
      refine sb_iconst (pc' := 30) rfl dX10_agreed_29 ?_
      refine sb_istore_n (pc' := 31) rfl (L' := [some (.ref (ad 0)), some (vi x1), some (vi 0)]) rfl (by decide) dX10_agreed_30 ?_
      exact (H hx1 (iR_lit rfl) hs2)
    · intro cc; have H := H.2 cc
      obtain ⟨o3, H⟩ := H
      exact sb_throwW rfl (thr_IllegalArgumentException_221) (cls := "java/lang/IllegalArgumentException") (text := "no such number of ways") (rc := rc) (rs := rs) o3 (Nat.le_of_ble_eq_true rfl) wd_1086 wd_180 ⟨rfl, by decide +kernel⟩ dX10_agreed_11 dX10_agreed_14 dX10_agreed_15 dX10_agreed_18 dX10_agreed_21 (H hS)
theorem bX10_agreed_31 {g : AG} {ad : Nat → Nat} {d : Nat} {Q : AO → SG → Prop} {rc rs : Nat} {σ : SG} {x1 x2 : Int}  (hx1 : iR x1) (hx2 : iR x2) (hS : SR σ) (H : ((x1 ≤ x2 → Cl g ad d mX4_middle 0 0 [(.ref (ad 88))] σ (Ki fun r1 s1 => (iR r1 → SR s1 → Q (.inl (some (vi r1))) s1))) ∧ (¬ x1 ≤ x2 → Cl g ad d mX10_unfoldWay 0 0 [(.ref (ad 0)), (vi x2)] σ (Ki fun r2 s2 => ((r2 = 0 → iR (x2 + 1) ∧ (iR x1 → iR (x2 + 1) → SR s2 → Wb g ad d mX10_agreed Q 31 [some (.ref (ad 0)), some (vi x1), some (vi (x2 + 1))] [] s2 rc rs)) ∧ (¬ r2 = 0 → Cl g ad d mX4_add 0 0 [(.ref (ad 88)), (.ref (ad 71)), (vi (sc s2 63 13))] s2 (Kv fun s4 => iR (x2 + 1) ∧ (iR x1 → iR (x2 + 1) → SR s4 → Wb g ad d mX10_agreed Q 31 [some (.ref (ad 0)), some (vi x1), some (vi (x2 + 1))] [] s4 rc rs)))))))) : Wb g ad d mX10_agreed Q 31 [some (.ref (ad 0)), some (vi x1), some (vi x2)] [] σ rc rs := by
  refine sb_iload_n (pc' := 32) rfl rfl dX10_agreed_31 ?_
  refine sb_iload_n (pc' := 33) rfl rfl dX10_agreed_32 ?_
  refine sb_icmp_ge (pc' := 36) (tgt := 71) rfl (by decide) hx2 hx1 dX10_agreed_33 ?_ ?_
  · intro cc; have H := H.1 cc
    refine sb_aload_n (pc' := 72) rfl rfl dX10_agreed_71 ?_
    refine sb_getC (pc' := 75) rfl fc_0_10 wd_652 dX10_agreed_72 ?_
    obtain ⟨d1, hd1, H⟩ := H
    refine sb_callVN (pc' := 78) rfl rfl (rc := rc) (rs := rs) (mc' := 0) (ms' := 0) (As := []) (st := []) of_88 rfl rfl (Nat.le_of_ble_eq_true rfl) hd1 kX4_middle ⟨wd_1530, wd_1532, wd_97⟩ dX10_agreed_75 (Eb.mono H ?_)
    rintro o s1 ⟨r1, rfl, hr1, hs1, H⟩
    show Wb g ad d mX10_agreed Q 78 [some (.ref (ad 0)), some (vi x1), some (vi x2)] [(vi r1)] s1 rc rs
    exact sb_iret rfl rfl dX10_agreed_78 (H hr1 hs1)
  · intro cc; have H := H.2 cc
    refine sb_aload_n (pc' := 37) rfl rfl dX10_agreed_36 ?_
    refine sb_iload_n (pc' := 38) rfl rfl dX10_agreed_37 ?_
    obtain ⟨d2, hd2, H⟩ := H
    refine sb_callV (pc' := 41) rfl rfl (rc := rc) (rs := rs) (mc' := 0) (ms' := 0) (As := [(vi x2)]) (st := []) of_0 rfl rfl (Nat.le_of_ble_eq_true rfl) hd2 kX10_unfoldWay ⟨wd_866, wd_868, wd_30⟩ dX10_agreed_38 (Eb.mono H ?_)
    rintro o s2 ⟨r2, rfl, hr2, hs2, H⟩
    show Wb g ad d mX10_agreed Q 41 [some (.ref (ad 0)), some (vi x1), some (vi x2)] [(vi r2)] s2 rc rs
    refine sb_if_eq (pc' := 44) (tgt := 65) rfl (by decide) hr2 dX10_agreed_41 ?_ ?_
    · intro cc; have H := H.1 cc
      refine sb_iinc (pc' := 68) rfl rfl (L' := [some (.ref (ad 0)), some (vi x1), some (vi (x2 + 1))]) rfl (by decide) dX10_agreed_65 ?_
      refine sb_goto (tgt := 31) (by decide) dX10_agreed_68 ?_
      obtain ⟨o3, H⟩ := H
      exact (H hx1 o3 hs2)
    · intro cc; have H := H.2 cc
      refine sb_aload_n (pc' := 45) rfl rfl dX10_agreed_44 ?_
      refine sb_getC (pc' := 48) rfl fc_0_10 wd_652 dX10_agreed_45 ?_
      refine sb_aload_n (pc' := 49) rfl rfl dX10_agreed_48 ?_
      refine sb_getC (pc' := 52) rfl fc_0_6 wd_648 dX10_agreed_49 ?_
      refine sb_getCN (pc' := 55) rfl fc_63_12 wd_485 dX10_agreed_52 ?_
      refine sb_aload_n (pc' := 56) rfl rfl dX10_agreed_55 ?_
      refine sb_getC (pc' := 59) rfl fc_0_6 wd_648 dX10_agreed_56 ?_
      refine sb_getIN (pc' := 62) rfl fi_63_13 wd_487 dX10_agreed_59 ?_
      obtain ⟨d4, hd4, H⟩ := H
      refine sb_callVN (pc' := 65) rfl rfl (rc := rc) (rs := rs) (mc' := 0) (ms' := 0) (As := [(.ref (ad 71)), (vi (sc s2 63 13))]) (st := []) of_88 rfl rfl (Nat.le_of_ble_eq_true rfl) hd4 kX4_add ⟨wd_1525, wd_1527, wd_96⟩ dX10_agreed_62 (Eb.mono H ?_)
      rintro o s4 ⟨rfl, hs4, H⟩
      show Wb g ad d mX10_agreed Q 65 [some (.ref (ad 0)), some (vi x1), some (vi x2)] [] s4 rc rs
      refine sb_iinc (pc' := 68) rfl rfl (L' := [some (.ref (ad 0)), some (vi x1), some (vi (x2 + 1))]) rfl (by decide) dX10_agreed_65 ?_
      refine sb_goto (tgt := 31) (by decide) dX10_agreed_68 ?_
      obtain ⟨o5, H⟩ := H
      exact (H hx1 o5 hs4)
theorem bX10_needed_0 {g : AG} {ad : Nat → Nat} {d : Nat} {Q : AO → SG → Prop} {rc rs : Nat} {σ : SG}    (hS : SR σ) (H : Cl g ad d mX10_unfoldWay 0 0 [(.ref (ad 0)), (vi 0)] σ (Ki fun r1 s1 => Cl g ad d mX10_phrasesUnfolded 0 0 [(.ref (ad 0))] s1 (Ki fun r2 s2 => Cl g ad d mX1_cheapest 0 0 [(.ref (ad 58))] s2 (Ki fun r3 s3 => (iR 0 → iR r2 → iR r3 → iR 0 → SR s3 → Wb g ad d mX10_needed Q 24 [some (.ref (ad 0)), some (vi 0), some (vi r2), some (vi r3), some (vi 0)] [] s3 rc rs))))) : Wb g ad d mX10_needed Q 0 [some (.ref (ad 0)), none, none, none, none] [] σ rc rs := by
  refine sb_iconst (pc' := 1) rfl dX10_needed_0 ?_
  refine sb_istore_n (pc' := 2) rfl (L' := [some (.ref (ad 0)), some (vi 0), none, none, none]) rfl (by decide) dX10_needed_1 ?_
  refine sb_aload_n (pc' := 3) rfl rfl dX10_needed_2 ?_
  refine sb_iconst (pc' := 4) rfl dX10_needed_3 ?_
  obtain ⟨d1, hd1, H⟩ := H
  refine sb_callV (pc' := 7) rfl rfl (rc := rc) (rs := rs) (mc' := 0) (ms' := 0) (As := [(vi 0)]) (st := []) of_0 rfl rfl (Nat.le_of_ble_eq_true rfl) hd1 kX10_unfoldWay ⟨wd_866, wd_868, wd_30⟩ dX10_needed_4 (Eb.mono H ?_)
  rintro o s1 ⟨r1, rfl, hr1, hs1, H⟩
  show Wb g ad d mX10_needed Q 7 [some (.ref (ad 0)), some (vi 0), none, none, none] [(vi r1)] s1 rc rs
  refine sb_pop (pc' := 8) rfl rfl dX10_needed_7 ?_
  refine sb_aload_n (pc' := 9) rfl rfl dX10_needed_8 ?_
  obtain ⟨d2, hd2, H⟩ := H
  refine sb_callV (pc' := 12) rfl rfl (rc := rc) (rs := rs) (mc' := 0) (ms' := 0) (As := []) (st := []) of_0 rfl rfl (Nat.le_of_ble_eq_true rfl) hd2 kX10_phrasesUnfolded ⟨wd_900, wd_902, wd_35⟩ dX10_needed_9 (Eb.mono H ?_)
  rintro o s2 ⟨r2, rfl, hr2, hs2, H⟩
  show Wb g ad d mX10_needed Q 12 [some (.ref (ad 0)), some (vi 0), none, none, none] [(vi r2)] s2 rc rs
  refine sb_istore_n (pc' := 13) rfl (L' := [some (.ref (ad 0)), some (vi 0), some (vi r2), none, none]) rfl (by decide) dX10_needed_12 ?_
  refine sb_aload_n (pc' := 14) rfl rfl dX10_needed_13 ?_
  refine sb_getC (pc' := 17) rfl fc_0_5 wd_647 dX10_needed_14 ?_
  obtain ⟨d3, hd3, H⟩ := H
  refine sb_callVN (pc' := 20) rfl rfl (rc := rc) (rs := rs) (mc' := 0) (ms' := 0) (As := []) (st := []) of_58 rfl rfl (Nat.le_of_ble_eq_true rfl) hd3 kX1_cheapest ⟨wd_844, wd_838, wd_26⟩ dX10_needed_17 (Eb.mono H ?_)
  rintro o s3 ⟨r3, rfl, hr3, hs3, H⟩
  show Wb g ad d mX10_needed Q 20 [some (.ref (ad 0)), some (vi 0), some (vi r2), none, none] [(vi r3)] s3 rc rs
  refine sb_istore_n (pc' := 21) rfl (L' := [some (.ref (ad 0)), some (vi 0), some (vi r2), some (vi r3), none]) rfl (by decide) dX10_needed_20 ?_
  refine sb_iconst (pc' := 22) rfl dX10_needed_21 ?_
  refine sb_istore (pc' := 24) rfl (L' := [some (.ref (ad 0)), some (vi 0), some (vi r2), some (vi r3), some (vi 0)]) rfl (by decide) dX10_needed_22 ?_
  exact (H (iR_lit rfl) hr2 hr3 (iR_lit rfl) hs3)
theorem bX10_needed_24 {g : AG} {ad : Nat → Nat} {d : Nat} {Q : AO → SG → Prop} {rc rs : Nat} {σ : SG} {x1 x2 x3 x4 : Int}  (hx1 : iR x1) (hx2 : iR x2) (hx3 : iR x3) (hx4 : iR x4) (hS : SR σ) (H : isK (rv σ 0 1) ∧ (((sc σ (rv σ 0 1) 9) ≤ x4 → (iR x1 → SR σ → Q (.inl (some (vi x1))) σ)) ∧ (¬ (sc σ (rv σ 0 1) 9) ≤ x4 → (((bAnd (bShr x2 x4) 1) = 0 → iR (x4 + 1) ∧ (iR x1 → iR x2 → iR x3 → iR (x4 + 1) → SR σ → Wb g ad d mX10_needed Q 24 [some (.ref (ad 0)), some (vi x1), some (vi x2), some (vi x3), some (vi (x4 + 1))] [] σ rc rs)) ∧ (¬ (bAnd (bShr x2 x4) 1) = 0 → Cl g ad d mX10_reckonOtherwise 0 0 [(.ref (ad 0)), (vi (ia σ (rv σ 0 1 + 11) 2)), (vi (ia σ (rv σ 0 1 + 11) 3)), (vi x4)] σ (Ki fun r3 s3 => ((r3 ≤ x3 → iR (x4 + 1) ∧ (iR x1 → iR x2 → iR x3 → iR (x4 + 1) → SR s3 → Wb g ad d mX10_needed Q 24 [some (.ref (ad 0)), some (vi x1), some (vi x2), some (vi x3), some (vi (x4 + 1))] [] s3 rc rs)) ∧ (¬ r3 ≤ x3 → iR (x4 + 1) ∧ (iR (bOr x1 (bShl 1 x4)) → iR x2 → iR x3 → iR (x4 + 1) → SR s3 → Wb g ad d mX10_needed Q 24 [some (.ref (ad 0)), some (vi (bOr x1 (bShl 1 x4))), some (vi x2), some (vi x3), some (vi (x4 + 1))] [] s3 rc rs))))))))) : Wb g ad d mX10_needed Q 24 [some (.ref (ad 0)), some (vi x1), some (vi x2), some (vi x3), some (vi x4)] [] σ rc rs := by
  refine sb_iload (pc' := 26) rfl rfl dX10_needed_24 ?_
  refine sb_aload_n (pc' := 27) rfl rfl dX10_needed_26 ?_
  obtain ⟨o1, H⟩ := H
  refine sb_getR (pc' := 30) rfl fr_0_1 wd_643 dX10_needed_27 ?_
  refine sb_getIN (pc' := 33) rfl (fiK_9 o1) wd_229 dX10_needed_30 ?_
  refine sb_icmp_ge (pc' := 36) (tgt := 86) rfl (by decide) hx4 (SR_sc hS _ _) dX10_needed_33 ?_ ?_
  · intro cc; have H := H.1 cc
    refine sb_iload_n (pc' := 87) rfl rfl dX10_needed_86 ?_
    exact sb_iret rfl rfl dX10_needed_87 (H hx1 hS)
  · intro cc; have H := H.2 cc
    refine sb_iload_n (pc' := 37) rfl rfl dX10_needed_36 ?_
    refine sb_iload (pc' := 39) rfl rfl dX10_needed_37 ?_
    refine sb_ishr (pc' := 40) rfl dX10_needed_39 ?_
    refine sb_iconst (pc' := 41) rfl dX10_needed_40 ?_
    refine sb_iand (pc' := 42) rfl dX10_needed_41 ?_
    refine sb_if_eq (pc' := 45) (tgt := 80) rfl (by decide) (iR_b _) dX10_needed_42 ?_ ?_
    · intro cc; have H := H.1 cc
      refine sb_iinc (pc' := 83) rfl rfl (L' := [some (.ref (ad 0)), some (vi x1), some (vi x2), some (vi x3), some (vi (x4 + 1))]) rfl (by decide) dX10_needed_80 ?_
      refine sb_goto (tgt := 24) (by decide) dX10_needed_83 ?_
      obtain ⟨o2, H⟩ := H
      exact (H hx1 hx2 hx3 o2 hS)
    · intro cc; have H := H.2 cc
      refine sb_aload_n (pc' := 46) rfl rfl dX10_needed_45 ?_
      refine sb_aload_n (pc' := 47) rfl rfl dX10_needed_46 ?_
      refine sb_getR (pc' := 50) rfl fr_0_1 wd_643 dX10_needed_47 ?_
      refine sb_getCN (pc' := 53) rfl (fcK_14 o1) wd_241 dX10_needed_50 ?_
      refine sb_iconst (pc' := 54) rfl dX10_needed_53 ?_
      refine sb_iald (pc' := 55) rfl (aIK_11 o1) (by decide) (by decide) dX10_needed_54 ?_
      refine sb_aload_n (pc' := 56) rfl rfl dX10_needed_55 ?_
      refine sb_getR (pc' := 59) rfl fr_0_1 wd_643 dX10_needed_56 ?_
      refine sb_getCN (pc' := 62) rfl (fcK_14 o1) wd_241 dX10_needed_59 ?_
      refine sb_iconst (pc' := 63) rfl dX10_needed_62 ?_
      refine sb_iald (pc' := 64) rfl (aIK_11 o1) (by decide) (by decide) dX10_needed_63 ?_
      refine sb_iload (pc' := 66) rfl rfl dX10_needed_64 ?_
      obtain ⟨d3, hd3, H⟩ := H
      refine sb_callV (pc' := 69) rfl rfl (rc := rc) (rs := rs) (mc' := 0) (ms' := 0) (As := [(vi (ia σ (rv σ 0 1 + 11) 2)), (vi (ia σ (rv σ 0 1 + 11) 3)), (vi x4)]) (st := []) of_0 rfl rfl (Nat.le_of_ble_eq_true rfl) hd3 kX10_reckonOtherwise ⟨wd_904, wd_906, wd_36⟩ dX10_needed_66 (Eb.mono H ?_)
      rintro o s3 ⟨r3, rfl, hr3, hs3, H⟩
      show Wb g ad d mX10_needed Q 69 [some (.ref (ad 0)), some (vi x1), some (vi x2), some (vi x3), some (vi x4)] [(vi r3)] s3 rc rs
      refine sb_iload_n (pc' := 70) rfl rfl dX10_needed_69 ?_
      refine sb_icmp_le (pc' := 73) (tgt := 80) rfl (by decide) hr3 hx3 dX10_needed_70 ?_ ?_
      · intro cc; have H := H.1 cc
        refine sb_iinc (pc' := 83) rfl rfl (L' := [some (.ref (ad 0)), some (vi x1), some (vi x2), some (vi x3), some (vi (x4 + 1))]) rfl (by decide) dX10_needed_80 ?_
        refine sb_goto (tgt := 24) (by decide) dX10_needed_83 ?_
        obtain ⟨o4, H⟩ := H
        exact (H hx1 hx2 hx3 o4 hs3)
      · intro cc; have H := H.2 cc
        refine sb_iload_n (pc' := 74) rfl rfl dX10_needed_73 ?_
        refine sb_iconst (pc' := 75) rfl dX10_needed_74 ?_
        refine sb_iload (pc' := 77) rfl rfl dX10_needed_75 ?_
        refine sb_ishl (pc' := 78) rfl dX10_needed_77 ?_
        refine sb_ior (pc' := 79) rfl dX10_needed_78 ?_
        refine sb_istore_n (pc' := 80) rfl (L' := [some (.ref (ad 0)), some (vi (bOr x1 (bShl 1 x4))), some (vi x2), some (vi x3), some (vi x4)]) rfl (by decide) dX10_needed_79 ?_
        refine sb_iinc (pc' := 83) rfl rfl (L' := [some (.ref (ad 0)), some (vi (bOr x1 (bShl 1 x4))), some (vi x2), some (vi x3), some (vi (x4 + 1))]) rfl (by decide) dX10_needed_80 ?_
        refine sb_goto (tgt := 24) (by decide) dX10_needed_83 ?_
        obtain ⟨o5, H⟩ := H
        exact (H (iR_b _) hx2 hx3 o5 hs3)
theorem bX10_idle_0 {g : AG} {ad : Nat → Nat} {d : Nat} {Q : AO → SG → Prop} {rc rs : Nat} {σ : SG}    (hS : SR σ) (H : Cl g ad d mX10_prepareOptions 0 0 [(.ref (ad 0))] σ (Kv fun s1 => (iR 0 → iR 0 → SR s1 → Wb g ad d mX10_idle Q 8 [some (.ref (ad 0)), some (vi 0), some (vi 0)] [] s1 rc rs))) : Wb g ad d mX10_idle Q 0 [some (.ref (ad 0)), none, none] [] σ rc rs := by
  refine sb_aload_n (pc' := 1) rfl rfl dX10_idle_0 ?_
  obtain ⟨d1, hd1, H⟩ := H
  refine sb_callV (pc' := 4) rfl rfl (rc := rc) (rs := rs) (mc' := 0) (ms' := 0) (As := []) (st := []) of_0 rfl rfl (Nat.le_of_ble_eq_true rfl) hd1 kX10_prepareOptions ⟨wd_708, wd_710, wd_1⟩ dX10_idle_1 (Eb.mono H ?_)
  rintro o s1 ⟨rfl, hs1, H⟩
  show Wb g ad d mX10_idle Q 4 [some (.ref (ad 0)), none, none] [] s1 rc rs
  refine sb_iconst (pc' := 5) rfl dX10_idle_4 ?_
  refine sb_istore_n (pc' := 6) rfl (L' := [some (.ref (ad 0)), some (vi 0), none]) rfl (by decide) dX10_idle_5 ?_
  refine sb_iconst (pc' := 7) rfl dX10_idle_6 ?_
  refine sb_istore_n (pc' := 8) rfl (L' := [some (.ref (ad 0)), some (vi 0), some (vi 0)]) rfl (by decide) dX10_idle_7 ?_
  exact (H (iR_lit rfl) (iR_lit rfl) hs1)
theorem bX10_idle_8 {g : AG} {ad : Nat → Nat} {d : Nat} {Q : AO → SG → Prop} {rc rs : Nat} {σ : SG} {x1 x2 : Int}  (hx1 : iR x1) (hx2 : iR x2) (hS : SR σ) (H : isK (rv σ 0 1) ∧ (((sc σ (rv σ 0 1) 9) ≤ x2 → (iR x1 → SR σ → Q (.inl (some (vi x1))) σ)) ∧ (¬ (sc σ (rv σ 0 1) 9) ≤ x2 → (0 ≤ x2 ∧ x2 < 30) ∧ ((¬ (ia σ (rv σ 0 1 + 8) x2) = 0 → iR (x2 + 1) ∧ (iR x1 → iR (x2 + 1) → SR σ → Wb g ad d mX10_idle Q 8 [some (.ref (ad 0)), some (vi x1), some (vi (x2 + 1))] [] σ rc rs)) ∧ ((ia σ (rv σ 0 1 + 8) x2) = 0 → Cl g ad d mX5_howOften 0 0 [(.ref (ad 48)), (vi x2)] σ (Ki fun r4 s4 => ((¬ r4 = 0 → iR (x2 + 1) ∧ (iR x1 → iR (x2 + 1) → SR s4 → Wb g ad d mX10_idle Q 8 [some (.ref (ad 0)), some (vi x1), some (vi (x2 + 1))] [] s4 rc rs)) ∧ (r4 = 0 → iR (x2 + 1) ∧ (iR (bOr x1 (bShl 1 x2)) → iR (x2 + 1) → SR s4 → Wb g ad d mX10_idle Q 8 [some (.ref (ad 0)), some (vi (bOr x1 (bShl 1 x2))), some (vi (x2 + 1))] [] s4 rc rs))))))))) : Wb g ad d mX10_idle Q 8 [some (.ref (ad 0)), some (vi x1), some (vi x2)] [] σ rc rs := by
  refine sb_iload_n (pc' := 9) rfl rfl dX10_idle_8 ?_
  refine sb_aload_n (pc' := 10) rfl rfl dX10_idle_9 ?_
  obtain ⟨o1, H⟩ := H
  refine sb_getR (pc' := 13) rfl fr_0_1 wd_643 dX10_idle_10 ?_
  refine sb_getIN (pc' := 16) rfl (fiK_9 o1) wd_229 dX10_idle_13 ?_
  refine sb_icmp_ge (pc' := 19) (tgt := 54) rfl (by decide) hx2 (SR_sc hS _ _) dX10_idle_16 ?_ ?_
  · intro cc; have H := H.1 cc
    refine sb_iload_n (pc' := 55) rfl rfl dX10_idle_54 ?_
    exact sb_iret rfl rfl dX10_idle_55 (H hx1 hS)
  · intro cc; have H := H.2 cc
    refine sb_aload_n (pc' := 20) rfl rfl dX10_idle_19 ?_
    refine sb_getR (pc' := 23) rfl fr_0_1 wd_643 dX10_idle_20 ?_
    refine sb_getCN (pc' := 26) rfl (fcK_8 o1) wd_225 dX10_idle_23 ?_
    refine sb_iload_n (pc' := 27) rfl rfl dX10_idle_26 ?_
    obtain ⟨o2, H⟩ := H
    refine sb_zald (pc' := 28) rfl (aZK_8 o1) o2.1 o2.2 dX10_idle_27 ?_
    refine sb_if_ne (pc' := 31) (tgt := 48) rfl (by decide) (SR_ia hS _ _) dX10_idle_28 ?_ ?_
    · intro cc; have H := H.1 cc
      refine sb_iinc (pc' := 51) rfl rfl (L' := [some (.ref (ad 0)), some (vi x1), some (vi (x2 + 1))]) rfl (by decide) dX10_idle_48 ?_
      refine sb_goto (tgt := 8) (by decide) dX10_idle_51 ?_
      obtain ⟨o3, H⟩ := H
      exact (H hx1 o3 hS)
    · intro cc; have H := H.2 cc
      refine sb_aload_n (pc' := 32) rfl rfl dX10_idle_31 ?_
      refine sb_getC (pc' := 35) rfl fc_0_4 wd_646 dX10_idle_32 ?_
      refine sb_iload_n (pc' := 36) rfl rfl dX10_idle_35 ?_
      obtain ⟨d4, hd4, H⟩ := H
      refine sb_callVN (pc' := 39) rfl rfl (rc := rc) (rs := rs) (mc' := 0) (ms' := 0) (As := [(vi x2)]) (st := []) of_48 rfl rfl (Nat.le_of_ble_eq_true rfl) hd4 kX5_howOften ⟨wd_912, wd_914, wd_37⟩ dX10_idle_36 (Eb.mono H ?_)
      rintro o s4 ⟨r4, rfl, hr4, hs4, H⟩
      show Wb g ad d mX10_idle Q 39 [some (.ref (ad 0)), some (vi x1), some (vi x2)] [(vi r4)] s4 rc rs
      refine sb_if_ne (pc' := 42) (tgt := 48) rfl (by decide) hr4 dX10_idle_39 ?_ ?_
      · intro cc; have H := H.1 cc
        refine sb_iinc (pc' := 51) rfl rfl (L' := [some (.ref (ad 0)), some (vi x1), some (vi (x2 + 1))]) rfl (by decide) dX10_idle_48 ?_
        refine sb_goto (tgt := 8) (by decide) dX10_idle_51 ?_
        obtain ⟨o5, H⟩ := H
        exact (H hx1 o5 hs4)
      · intro cc; have H := H.2 cc
        refine sb_iload_n (pc' := 43) rfl rfl dX10_idle_42 ?_
        refine sb_iconst (pc' := 44) rfl dX10_idle_43 ?_
        refine sb_iload_n (pc' := 45) rfl rfl dX10_idle_44 ?_
        refine sb_ishl (pc' := 46) rfl dX10_idle_45 ?_
        refine sb_ior (pc' := 47) rfl dX10_idle_46 ?_
        refine sb_istore_n (pc' := 48) rfl (L' := [some (.ref (ad 0)), some (vi (bOr x1 (bShl 1 x2))), some (vi x2)]) rfl (by decide) dX10_idle_47 ?_
        refine sb_iinc (pc' := 51) rfl rfl (L' := [some (.ref (ad 0)), some (vi (bOr x1 (bShl 1 x2))), some (vi (x2 + 1))]) rfl (by decide) dX10_idle_48 ?_
        refine sb_goto (tgt := 8) (by decide) dX10_idle_51 ?_
        obtain ⟨o6, H⟩ := H
        exact (H (iR_b _) o6 hs4)
theorem bX10_reach_0 {g : AG} {ad : Nat → Nat} {d : Nat} {Q : AO → SG → Prop} {rc rs : Nat} {σ : SG}    (hS : SR σ) (H : Cl g ad d mX10_prepareOptions 0 0 [(.ref (ad 0))] σ (Kv fun s1 => isK (rv s1 0 1) ∧ Cl g ad d mX10_reckonOtherwise 0 0 [(.ref (ad 0)), (vi (ia s1 (rv s1 0 1 + 11) 2)), (vi 6), (vi ((-1)))] s1 (Ki fun r3 s3 => (iR (ia s1 (rv s1 0 1 + 11) 2) → iR r3 → iR 0 → SR s3 → Wb g ad d mX10_reach Q 25 [some (.ref (ad 0)), some (vi (ia s1 (rv s1 0 1 + 11) 2)), some (vi r3), some (vi 0)] [] s3 rc rs)))) : Wb g ad d mX10_reach Q 0 [some (.ref (ad 0)), none, none, none] [] σ rc rs := by
  refine sb_aload_n (pc' := 1) rfl rfl dX10_reach_0 ?_
  obtain ⟨d1, hd1, H⟩ := H
  refine sb_callV (pc' := 4) rfl rfl (rc := rc) (rs := rs) (mc' := 0) (ms' := 0) (As := []) (st := []) of_0 rfl rfl (Nat.le_of_ble_eq_true rfl) hd1 kX10_prepareOptions ⟨wd_708, wd_710, wd_1⟩ dX10_reach_1 (Eb.mono H ?_)
  rintro o s1 ⟨rfl, hs1, H⟩
  show Wb g ad d mX10_reach Q 4 [some (.ref (ad 0)), none, none, none] [] s1 rc rs
  refine sb_aload_n (pc' := 5) rfl rfl dX10_reach_4 ?_
  obtain ⟨o2, H⟩ := H
  refine sb_getR (pc' := 8) rfl fr_0_1 wd_643 dX10_reach_5 ?_
  refine sb_getCN (pc' := 11) rfl (fcK_14 o2) wd_241 dX10_reach_8 ?_
  refine sb_iconst (pc' := 12) rfl dX10_reach_11 ?_
  refine sb_iald (pc' := 13) rfl (aIK_11 o2) (by decide) (by decide) dX10_reach_12 ?_
  refine sb_istore_n (pc' := 14) rfl (L' := [some (.ref (ad 0)), some (vi (ia s1 (rv s1 0 1 + 11) 2)), none, none]) rfl (by decide) dX10_reach_13 ?_
  refine sb_aload_n (pc' := 15) rfl rfl dX10_reach_14 ?_
  refine sb_iload_n (pc' := 16) rfl rfl dX10_reach_15 ?_
  refine sb_bipush (pc' := 18) rfl (z := 6) (by decide) dX10_reach_16 ?_
  refine sb_iconst (pc' := 19) rfl dX10_reach_18 ?_
  obtain ⟨d3, hd3, H⟩ := H
  refine sb_callV (pc' := 22) rfl rfl (rc := rc) (rs := rs) (mc' := 0) (ms' := 0) (As := [(vi (ia s1 (rv s1 0 1 + 11) 2)), (vi 6), (vi ((-1)))]) (st := []) of_0 rfl rfl (Nat.le_of_ble_eq_true rfl) hd3 kX10_reckonOtherwise ⟨wd_904, wd_906, wd_36⟩ dX10_reach_19 (Eb.mono H ?_)
  rintro o s3 ⟨r3, rfl, hr3, hs3, H⟩
  show Wb g ad d mX10_reach Q 22 [some (.ref (ad 0)), some (vi (ia s1 (rv s1 0 1 + 11) 2)), none, none] [(vi r3)] s3 rc rs
  refine sb_istore_n (pc' := 23) rfl (L' := [some (.ref (ad 0)), some (vi (ia s1 (rv s1 0 1 + 11) 2)), some (vi r3), none]) rfl (by decide) dX10_reach_22 ?_
  refine sb_iconst (pc' := 24) rfl dX10_reach_23 ?_
  refine sb_istore_n (pc' := 25) rfl (L' := [some (.ref (ad 0)), some (vi (ia s1 (rv s1 0 1 + 11) 2)), some (vi r3), some (vi 0)]) rfl (by decide) dX10_reach_24 ?_
  exact (H (SR_ia hs1 _ _) hr3 (iR_lit rfl) hs3)
theorem bX10_reach_25 {g : AG} {ad : Nat → Nat} {d : Nat} {Q : AO → SG → Prop} {rc rs : Nat} {σ : SG} {x1 x2 x3 : Int}  (hx1 : iR x1) (hx2 : iR x2) (hx3 : iR x3) (hS : SR σ) (H : ((6 ≤ x3 → (iR x3 → SR σ → Q (.inl (some (vi x3))) σ)) ∧ (¬ 6 ≤ x3 → Cl g ad d mX10_reckonOtherwise 0 0 [(.ref (ad 0)), (vi x1), (vi x3), (vi ((-1)))] σ (Ki fun r1 s1 => ((r1 ≤ x2 → (iR x3 → SR s1 → Q (.inl (some (vi x3))) s1)) ∧ (¬ r1 ≤ x2 → iR (x3 + 1) ∧ (iR x1 → iR x2 → iR (x3 + 1) → SR s1 → Wb g ad d mX10_reach Q 25 [some (.ref (ad 0)), some (vi x1), some (vi x2), some (vi (x3 + 1))] [] s1 rc rs))))))) : Wb g ad d mX10_reach Q 25 [some (.ref (ad 0)), some (vi x1), some (vi x2), some (vi x3)] [] σ rc rs := by
  refine sb_iload_n (pc' := 26) rfl rfl dX10_reach_25 ?_
  refine sb_bipush (pc' := 28) rfl (z := 6) (by decide) dX10_reach_26 ?_
  refine sb_icmp_ge (pc' := 31) (tgt := 48) rfl (by decide) hx3 (iR_lit rfl) dX10_reach_28 ?_ ?_
  · intro cc; have H := H.1 cc
    refine sb_iload_n (pc' := 49) rfl rfl dX10_reach_48 ?_
    exact sb_iret rfl rfl dX10_reach_49 (H hx3 hS)
  · intro cc; have H := H.2 cc
    refine sb_aload_n (pc' := 32) rfl rfl dX10_reach_31 ?_
    refine sb_iload_n (pc' := 33) rfl rfl dX10_reach_32 ?_
    refine sb_iload_n (pc' := 34) rfl rfl dX10_reach_33 ?_
    refine sb_iconst (pc' := 35) rfl dX10_reach_34 ?_
    obtain ⟨d1, hd1, H⟩ := H
    refine sb_callV (pc' := 38) rfl rfl (rc := rc) (rs := rs) (mc' := 0) (ms' := 0) (As := [(vi x1), (vi x3), (vi ((-1)))]) (st := []) of_0 rfl rfl (Nat.le_of_ble_eq_true rfl) hd1 kX10_reckonOtherwise ⟨wd_904, wd_906, wd_36⟩ dX10_reach_35 (Eb.mono H ?_)
    rintro o s1 ⟨r1, rfl, hr1, hs1, H⟩
    show Wb g ad d mX10_reach Q 38 [some (.ref (ad 0)), some (vi x1), some (vi x2), some (vi x3)] [(vi r1)] s1 rc rs
    refine sb_iload_n (pc' := 39) rfl rfl dX10_reach_38 ?_
    refine sb_icmp_le (pc' := 42) (tgt := 48) rfl (by decide) hr1 hx2 dX10_reach_39 ?_ ?_
    · intro cc; have H := H.1 cc
      refine sb_iload_n (pc' := 49) rfl rfl dX10_reach_48 ?_
      exact sb_iret rfl rfl dX10_reach_49 (H hx3 hs1)
    · intro cc; have H := H.2 cc
      refine sb_iinc (pc' := 45) rfl rfl (L' := [some (.ref (ad 0)), some (vi x1), some (vi x2), some (vi (x3 + 1))]) rfl (by decide) dX10_reach_42 ?_
      refine sb_goto (tgt := 25) (by decide) dX10_reach_45 ?_
      obtain ⟨o2, H⟩ := H
      exact (H hx1 hx2 o2 hs1)
theorem bX10_width_0 {g : AG} {ad : Nat → Nat} {d : Nat} {Q : AO → SG → Prop} {rc rs : Nat} {σ : SG}    (hS : SR σ) (H : Cl g ad d mX10_prepareOptions 0 0 [(.ref (ad 0))] σ (Kv fun s1 => Cl g ad d mX10_prepareWays 0 0 [(.ref (ad 0))] s1 (Kv fun s2 => Cl g ad d mX1_cheapest 0 0 [(.ref (ad 58))] s2 (Ki fun r3 s3 => (iR r3 → iR 1 → SR (setS s3 0 14 0) → Wb g ad d mX10_width Q 23 [some (.ref (ad 0)), some (vi r3), some (vi 1)] [] (setS s3 0 14 0) rc rs))))) : Wb g ad d mX10_width Q 0 [some (.ref (ad 0)), none, none] [] σ rc rs := by
  refine sb_aload_n (pc' := 1) rfl rfl dX10_width_0 ?_
  obtain ⟨d1, hd1, H⟩ := H
  refine sb_callV (pc' := 4) rfl rfl (rc := rc) (rs := rs) (mc' := 0) (ms' := 0) (As := []) (st := []) of_0 rfl rfl (Nat.le_of_ble_eq_true rfl) hd1 kX10_prepareOptions ⟨wd_708, wd_710, wd_1⟩ dX10_width_1 (Eb.mono H ?_)
  rintro o s1 ⟨rfl, hs1, H⟩
  show Wb g ad d mX10_width Q 4 [some (.ref (ad 0)), none, none] [] s1 rc rs
  refine sb_aload_n (pc' := 5) rfl rfl dX10_width_4 ?_
  obtain ⟨d2, hd2, H⟩ := H
  refine sb_callV (pc' := 8) rfl rfl (rc := rc) (rs := rs) (mc' := 0) (ms' := 0) (As := []) (st := []) of_0 rfl rfl (Nat.le_of_ble_eq_true rfl) hd2 kX10_prepareWays ⟨wd_787, wd_789, wd_15⟩ dX10_width_5 (Eb.mono H ?_)
  rintro o s2 ⟨rfl, hs2, H⟩
  show Wb g ad d mX10_width Q 8 [some (.ref (ad 0)), none, none] [] s2 rc rs
  refine sb_aload_n (pc' := 9) rfl rfl dX10_width_8 ?_
  refine sb_getC (pc' := 12) rfl fc_0_5 wd_647 dX10_width_9 ?_
  obtain ⟨d3, hd3, H⟩ := H
  refine sb_callVN (pc' := 15) rfl rfl (rc := rc) (rs := rs) (mc' := 0) (ms' := 0) (As := []) (st := []) of_58 rfl rfl (Nat.le_of_ble_eq_true rfl) hd3 kX1_cheapest ⟨wd_844, wd_838, wd_26⟩ dX10_width_12 (Eb.mono H ?_)
  rintro o s3 ⟨r3, rfl, hr3, hs3, H⟩
  show Wb g ad d mX10_width Q 15 [some (.ref (ad 0)), none, none] [(vi r3)] s3 rc rs
  refine sb_istore_n (pc' := 16) rfl (L' := [some (.ref (ad 0)), some (vi r3), none]) rfl (by decide) dX10_width_15 ?_
  refine sb_aload_n (pc' := 17) rfl rfl dX10_width_16 ?_
  refine sb_iconst (pc' := 18) rfl dX10_width_17 ?_
  refine sb_putI (pc' := 21) rfl fi_0_14 (Or.inr (Or.inl rfl)) wd_656 dX10_width_18 ?_
  refine sb_iconst (pc' := 22) rfl dX10_width_21 ?_
  refine sb_istore_n (pc' := 23) rfl (L' := [some (.ref (ad 0)), some (vi r3), some (vi 1)]) rfl (by decide) dX10_width_22 ?_
  exact (H hr3 (iR_lit rfl) (SR_setS hs3 (iR_lit rfl)))
theorem bX10_width_23 {g : AG} {ad : Nat → Nat} {d : Nat} {Q : AO → SG → Prop} {rc rs : Nat} {σ : SG} {x1 x2 : Int}  (hx1 : iR x1) (hx2 : iR x2) (hS : SR σ) (H : ((40 < x2 → (iR ((-1)) → SR σ → Q (.inl (some (vi ((-1))))) σ)) ∧ (¬ 40 < x2 → isK (rv σ 0 1) ∧ Cl g ad d mX7_fill 0 0 [(.ref (ad 75)), (vi (ia σ (rv σ 0 1 + 11) 2)), (vi (ia σ (rv σ 0 1 + 11) 3)), (vi x2)] σ (Kv fun s2 => ((¬ (sc s2 75 15) = x1 → iR (x2 + 1) ∧ (iR x1 → iR (x2 + 1) → SR s2 → Wb g ad d mX10_width Q 23 [some (.ref (ad 0)), some (vi x1), some (vi (x2 + 1))] [] s2 rc rs)) ∧ ((sc s2 75 15) = x1 → (iR x2 → SR s2 → Q (.inl (some (vi x2))) s2))))))) : Wb g ad d mX10_width Q 23 [some (.ref (ad 0)), some (vi x1), some (vi x2)] [] σ rc rs := by
  refine sb_iload_n (pc' := 24) rfl rfl dX10_width_23 ?_
  refine sb_bipush (pc' := 26) rfl (z := 40) (by decide) dX10_width_24 ?_
  refine sb_icmp_gt (pc' := 29) (tgt := 74) rfl (by decide) hx2 (iR_lit rfl) dX10_width_26 ?_ ?_
  · intro cc; have H := H.1 cc
    refine sb_iconst (pc' := 75) rfl dX10_width_74 ?_
    exact sb_iret rfl rfl dX10_width_75 (H (iR_lit rfl) hS)
  · intro cc; have H := H.2 cc
    refine sb_aload_n (pc' := 30) rfl rfl dX10_width_29 ?_
    refine sb_getC (pc' := 33) rfl fc_0_8 wd_650 dX10_width_30 ?_
    refine sb_aload_n (pc' := 34) rfl rfl dX10_width_33 ?_
    obtain ⟨o1, H⟩ := H
    refine sb_getR (pc' := 37) rfl fr_0_1 wd_643 dX10_width_34 ?_
    refine sb_getCN (pc' := 40) rfl (fcK_14 o1) wd_241 dX10_width_37 ?_
    refine sb_iconst (pc' := 41) rfl dX10_width_40 ?_
    refine sb_iald (pc' := 42) rfl (aIK_11 o1) (by decide) (by decide) dX10_width_41 ?_
    refine sb_aload_n (pc' := 43) rfl rfl dX10_width_42 ?_
    refine sb_getR (pc' := 46) rfl fr_0_1 wd_643 dX10_width_43 ?_
    refine sb_getCN (pc' := 49) rfl (fcK_14 o1) wd_241 dX10_width_46 ?_
    refine sb_iconst (pc' := 50) rfl dX10_width_49 ?_
    refine sb_iald (pc' := 51) rfl (aIK_11 o1) (by decide) (by decide) dX10_width_50 ?_
    refine sb_iload_n (pc' := 52) rfl rfl dX10_width_51 ?_
    obtain ⟨d2, hd2, H⟩ := H
    refine sb_callVN (pc' := 55) rfl rfl (rc := rc) (rs := rs) (mc' := 0) (ms' := 0) (As := [(vi (ia σ (rv σ 0 1 + 11) 2)), (vi (ia σ (rv σ 0 1 + 11) 3)), (vi x2)]) (st := []) of_75 rfl rfl (Nat.le_of_ble_eq_true rfl) hd2 kX7_fill ⟨wd_924, wd_926, wd_38⟩ dX10_width_52 (Eb.mono H ?_)
    rintro o s2 ⟨rfl, hs2, H⟩
    show Wb g ad d mX10_width Q 55 [some (.ref (ad 0)), some (vi x1), some (vi x2)] [] s2 rc rs
    refine sb_aload_n (pc' := 56) rfl rfl dX10_width_55 ?_
    refine sb_getC (pc' := 59) rfl fc_0_8 wd_650 dX10_width_56 ?_
    refine sb_getIN (pc' := 62) rfl fi_75_15 wd_563 dX10_width_59 ?_
    refine sb_iload_n (pc' := 63) rfl rfl dX10_width_62 ?_
    refine sb_icmp_ne (pc' := 66) (tgt := 68) rfl (by decide) (SR_sc hs2 _ _) hx1 dX10_width_63 ?_ ?_
    · intro cc; have H := H.1 cc
      refine sb_iinc (pc' := 71) rfl rfl (L' := [some (.ref (ad 0)), some (vi x1), some (vi (x2 + 1))]) rfl (by decide) dX10_width_68 ?_
      refine sb_goto (tgt := 23) (by decide) dX10_width_71 ?_
      obtain ⟨o3, H⟩ := H
      exact (H hx1 o3 hs2)
    · intro cc; have H := H.2 cc
      refine sb_iload_n (pc' := 67) rfl rfl dX10_width_66 ?_
      exact sb_iret rfl rfl dX10_width_67 (H hx2 hs2)
theorem bX10_tuned_0 {g : AG} {ad : Nat → Nat} {d : Nat} {Q : AO → SG → Prop} {rc rs : Nat} {σ : SG}    (hS : SR σ) (H : Cl g ad d mX10_readTold 1 6 [(.ref (ad 0))] σ (Kx (Kv fun s1 => Cl g ad d mX10_prepareOptions 0 0 [(.ref (ad 0))] s1 (Kv fun s2 => (iR 0 → iR 1000000 → iR 0 → SR s2 → Wb g ad d mX10_tuned Q 16 [some (.ref (ad 0)), some (vi 0), some (vi 1000000), some (vi 0), none] [] s2 rc rs))) (fun E s1 => SR s1 → Q (.inr E) s1))) : Wb g ad d mX10_tuned Q 0 [some (.ref (ad 0)), none, none, none, none] [] σ (rc + 1) (rs + 6) := by
  refine sb_aload_n (pc' := 1) rfl rfl dX10_tuned_0 ?_
  obtain ⟨d1, hd1, H⟩ := H
  refine sb_callV (pc' := 4) rfl rfl (rc := rc) (rs := rs) (mc' := 1) (ms' := 6) (As := []) (st := []) of_0 rfl rfl (Nat.le_of_ble_eq_true rfl) hd1 kX10_readTold ⟨wd_1461, wd_1463, wd_88⟩ dX10_tuned_1 (Eb.mono H ?_)
  rintro o s1 (⟨rfl, hs1, H⟩ | ⟨E, rfl, hs1, H⟩)
  case inr => exact H hs1
  show Wb g ad d mX10_tuned Q 4 [some (.ref (ad 0)), none, none, none, none] [] s1 rc rs
  refine sb_aload_n (pc' := 5) rfl rfl dX10_tuned_4 ?_
  obtain ⟨d2, hd2, H⟩ := H
  refine sb_callV (pc' := 8) rfl rfl (rc := rc) (rs := rs) (mc' := 0) (ms' := 0) (As := []) (st := []) of_0 rfl rfl (Nat.le_of_ble_eq_true rfl) hd2 kX10_prepareOptions ⟨wd_708, wd_710, wd_1⟩ dX10_tuned_5 (Eb.mono H ?_)
  rintro o s2 ⟨rfl, hs2, H⟩
  show Wb g ad d mX10_tuned Q 8 [some (.ref (ad 0)), none, none, none, none] [] s2 rc rs
  refine sb_iconst (pc' := 9) rfl dX10_tuned_8 ?_
  refine sb_istore_n (pc' := 10) rfl (L' := [some (.ref (ad 0)), some (vi 0), none, none, none]) rfl (by decide) dX10_tuned_9 ?_
  refine sb_ldcw (pc' := 13) rfl (z := 1000000) rfl wd_1543 dX10_tuned_10 ?_
  refine sb_istore_n (pc' := 14) rfl (L' := [some (.ref (ad 0)), some (vi 0), some (vi 1000000), none, none]) rfl (by decide) dX10_tuned_13 ?_
  refine sb_iconst (pc' := 15) rfl dX10_tuned_14 ?_
  refine sb_istore_n (pc' := 16) rfl (L' := [some (.ref (ad 0)), some (vi 0), some (vi 1000000), some (vi 0), none]) rfl (by decide) dX10_tuned_15 ?_
  exact (H (iR_lit rfl) (iR_lit rfl) (iR_lit rfl) hs2)
theorem bX10_tuned_16 {g : AG} {ad : Nat → Nat} {d : Nat} {Q : AO → SG → Prop} {rc rs : Nat} {σ : SG} {x1 x2 x3 : Int}  (hx1 : iR x1) (hx2 : iR x2) (hx3 : iR x3) (hS : SR σ) (H : ((20 < x3 → (iR x1 → SR σ → Q (.inl (some (vi x1))) σ)) ∧ (¬ 20 < x3 → isK (rv σ 0 1) ∧ Cl g ad d mX10_reckonOtherwise 0 0 [(.ref (ad 0)), (vi x3), (vi (ia σ (rv σ 0 1 + 11) 3)), (vi ((-1)))] σ (Ki fun r2 s2 => Cl g ad d mX9_begin 0 0 [(.ref (ad 63))] s2 (Kv fun s3 => Cl g ad d mX9_bring 0 0 [(.ref (ad 63)), (vi 0)] s3 (Kv fun s4 => Cl g ad d mX9_unfold 0 0 [(.ref (ad 63)), (vi 0)] s4 (Ki fun r5 s5 => Cl g ad d mX4_apart 0 0 [(.ref (ad 88)), (.ref (ad 71)), (vi (sc s5 63 13)), (.ref (ad 45)), (vi (sc s5 37 11))] s5 (Ki fun r6 s6 => ((x2 ≤ r6 → iR (x3 + 1) ∧ (iR x1 → iR x2 → iR (x3 + 1) → SR s6 → Wb g ad d mX10_tuned Q 16 [some (.ref (ad 0)), some (vi x1), some (vi x2), some (vi (x3 + 1)), none] [] s6 rc rs)) ∧ (¬ x2 ≤ r6 → iR (x3 + 1) ∧ (iR x3 → iR r6 → iR (x3 + 1) → SR s6 → Wb g ad d mX10_tuned Q 16 [some (.ref (ad 0)), some (vi x3), some (vi r6), some (vi (x3 + 1)), none] [] s6 rc rs))))))))))) : Wb g ad d mX10_tuned Q 16 [some (.ref (ad 0)), some (vi x1), some (vi x2), some (vi x3), none] [] σ rc rs := by
  refine sb_iload_n (pc' := 17) rfl rfl dX10_tuned_16 ?_
  refine sb_bipush (pc' := 19) rfl (z := 20) (by decide) dX10_tuned_17 ?_
  refine sb_icmp_gt (pc' := 22) (tgt := 116) rfl (by decide) hx3 (iR_lit rfl) dX10_tuned_19 ?_ ?_
  · intro cc; have H := H.1 cc
    refine sb_iload_n (pc' := 117) rfl rfl dX10_tuned_116 ?_
    exact sb_iret rfl rfl dX10_tuned_117 (H hx1 hS)
  · intro cc; have H := H.2 cc
    refine sb_aload_n (pc' := 23) rfl rfl dX10_tuned_22 ?_
    refine sb_iload_n (pc' := 24) rfl rfl dX10_tuned_23 ?_
    refine sb_aload_n (pc' := 25) rfl rfl dX10_tuned_24 ?_
    obtain ⟨o1, H⟩ := H
    refine sb_getR (pc' := 28) rfl fr_0_1 wd_643 dX10_tuned_25 ?_
    refine sb_getCN (pc' := 31) rfl (fcK_14 o1) wd_241 dX10_tuned_28 ?_
    refine sb_iconst (pc' := 32) rfl dX10_tuned_31 ?_
    refine sb_iald (pc' := 33) rfl (aIK_11 o1) (by decide) (by decide) dX10_tuned_32 ?_
    refine sb_iconst (pc' := 34) rfl dX10_tuned_33 ?_
    obtain ⟨d2, hd2, H⟩ := H
    refine sb_callV (pc' := 37) rfl rfl (rc := rc) (rs := rs) (mc' := 0) (ms' := 0) (As := [(vi x3), (vi (ia σ (rv σ 0 1 + 11) 3)), (vi ((-1)))]) (st := []) of_0 rfl rfl (Nat.le_of_ble_eq_true rfl) hd2 kX10_reckonOtherwise ⟨wd_904, wd_906, wd_36⟩ dX10_tuned_34 (Eb.mono H ?_)
    rintro o s2 ⟨r2, rfl, hr2, hs2, H⟩
    show Wb g ad d mX10_tuned Q 37 [some (.ref (ad 0)), some (vi x1), some (vi x2), some (vi x3), none] [(vi r2)] s2 rc rs
    refine sb_pop (pc' := 38) rfl rfl dX10_tuned_37 ?_
    refine sb_aload_n (pc' := 39) rfl rfl dX10_tuned_38 ?_
    refine sb_getC (pc' := 42) rfl fc_0_6 wd_648 dX10_tuned_39 ?_
    obtain ⟨d3, hd3, H⟩ := H
    refine sb_callVN (pc' := 45) rfl rfl (rc := rc) (rs := rs) (mc' := 0) (ms' := 0) (As := []) (st := []) of_63 rfl rfl (Nat.le_of_ble_eq_true rfl) hd3 kX9_begin ⟨wd_832, wd_834, wd_25⟩ dX10_tuned_42 (Eb.mono H ?_)
    rintro o s3 ⟨rfl, hs3, H⟩
    show Wb g ad d mX10_tuned Q 45 [some (.ref (ad 0)), some (vi x1), some (vi x2), some (vi x3), none] [] s3 rc rs
    refine sb_aload_n (pc' := 46) rfl rfl dX10_tuned_45 ?_
    refine sb_getC (pc' := 49) rfl fc_0_6 wd_648 dX10_tuned_46 ?_
    refine sb_iconst (pc' := 50) rfl dX10_tuned_49 ?_
    obtain ⟨d4, hd4, H⟩ := H
    refine sb_callVN (pc' := 53) rfl rfl (rc := rc) (rs := rs) (mc' := 0) (ms' := 0) (As := [(vi 0)]) (st := []) of_63 rfl rfl (Nat.le_of_ble_eq_true rfl) hd4 kX9_bring ⟨wd_870, wd_872, wd_31⟩ dX10_tuned_50 (Eb.mono H ?_)
    rintro o s4 ⟨rfl, hs4, H⟩
    show Wb g ad d mX10_tuned Q 53 [some (.ref (ad 0)), some (vi x1), some (vi x2), some (vi x3), none] [] s4 rc rs
    refine sb_aload_n (pc' := 54) rfl rfl dX10_tuned_53 ?_
    refine sb_getC (pc' := 57) rfl fc_0_6 wd_648 dX10_tuned_54 ?_
    refine sb_iconst (pc' := 58) rfl dX10_tuned_57 ?_
    obtain ⟨d5, hd5, H⟩ := H
    refine sb_callVN (pc' := 61) rfl rfl (rc := rc) (rs := rs) (mc' := 0) (ms' := 0) (As := [(vi 0)]) (st := []) of_63 rfl rfl (Nat.le_of_ble_eq_true rfl) hd5 kX9_unfold ⟨wd_892, wd_894, wd_34⟩ dX10_tuned_58 (Eb.mono H ?_)
    rintro o s5 ⟨r5, rfl, hr5, hs5, H⟩
    show Wb g ad d mX10_tuned Q 61 [some (.ref (ad 0)), some (vi x1), some (vi x2), some (vi x3), none] [(vi r5)] s5 rc rs
    refine sb_pop (pc' := 62) rfl rfl dX10_tuned_61 ?_
    refine sb_aload_n (pc' := 63) rfl rfl dX10_tuned_62 ?_
    refine sb_getC (pc' := 66) rfl fc_0_10 wd_652 dX10_tuned_63 ?_
    refine sb_aload_n (pc' := 67) rfl rfl dX10_tuned_66 ?_
    refine sb_getC (pc' := 70) rfl fc_0_6 wd_648 dX10_tuned_67 ?_
    refine sb_getCN (pc' := 73) rfl fc_63_12 wd_485 dX10_tuned_70 ?_
    refine sb_aload_n (pc' := 74) rfl rfl dX10_tuned_73 ?_
    refine sb_getC (pc' := 77) rfl fc_0_6 wd_648 dX10_tuned_74 ?_
    refine sb_getIN (pc' := 80) rfl fi_63_13 wd_487 dX10_tuned_77 ?_
    refine sb_aload_n (pc' := 81) rfl rfl dX10_tuned_80 ?_
    refine sb_getC (pc' := 84) rfl fc_0_3 wd_645 dX10_tuned_81 ?_
    refine sb_getCN (pc' := 87) rfl fc_37_10 wd_303 dX10_tuned_84 ?_
    refine sb_aload_n (pc' := 88) rfl rfl dX10_tuned_87 ?_
    refine sb_getC (pc' := 91) rfl fc_0_3 wd_645 dX10_tuned_88 ?_
    refine sb_getIN (pc' := 94) rfl fi_37_11 wd_307 dX10_tuned_91 ?_
    obtain ⟨d6, hd6, H⟩ := H
    refine sb_callVN (pc' := 97) rfl rfl (rc := rc) (rs := rs) (mc' := 0) (ms' := 0) (As := [(.ref (ad 71)), (vi (sc s5 63 13)), (.ref (ad 45)), (vi (sc s5 37 11))]) (st := []) of_88 rfl rfl (Nat.le_of_ble_eq_true rfl) hd6 kX4_apart ⟨wd_1491, wd_1493, wd_92⟩ dX10_tuned_94 (Eb.mono H ?_)
    rintro o s6 ⟨r6, rfl, hr6, hs6, H⟩
    show Wb g ad d mX10_tuned Q 97 [some (.ref (ad 0)), some (vi x1), some (vi x2), some (vi x3), none] [(vi r6)] s6 rc rs
    refine sb_istore (pc' := 99) rfl (L' := [some (.ref (ad 0)), some (vi x1), some (vi x2), some (vi x3), some (vi r6)]) rfl (by decide) dX10_tuned_97 ?_
    refine sb_iload (pc' := 101) rfl rfl dX10_tuned_99 ?_
    refine sb_iload_n (pc' := 102) rfl rfl dX10_tuned_101 ?_
    refine sb_icmp_ge (pc' := 105) (tgt := 110) rfl (by decide) hr6 hx2 dX10_tuned_102 ?_ ?_
    · intro cc; have H := H.1 cc
      refine sb_iinc (pc' := 113) rfl rfl (L' := [some (.ref (ad 0)), some (vi x1), some (vi x2), some (vi (x3 + 1)), some (vi r6)]) rfl (by decide) dX10_tuned_110 ?_
      refine sb_goto (tgt := 16) (by decide) dX10_tuned_113 ?_
      obtain ⟨o7, H⟩ := H
      refine Wb.forget [true, true, true, true, false] ?_
      exact (H hx1 hx2 o7 hs6)
    · intro cc; have H := H.2 cc
      refine sb_iload (pc' := 107) rfl rfl dX10_tuned_105 ?_
      refine sb_istore_n (pc' := 108) rfl (L' := [some (.ref (ad 0)), some (vi x1), some (vi r6), some (vi x3), some (vi r6)]) rfl (by decide) dX10_tuned_107 ?_
      refine sb_iload_n (pc' := 109) rfl rfl dX10_tuned_108 ?_
      refine sb_istore_n (pc' := 110) rfl (L' := [some (.ref (ad 0)), some (vi x3), some (vi r6), some (vi x3), some (vi r6)]) rfl (by decide) dX10_tuned_109 ?_
      refine sb_iinc (pc' := 113) rfl rfl (L' := [some (.ref (ad 0)), some (vi x3), some (vi r6), some (vi (x3 + 1)), some (vi r6)]) rfl (by decide) dX10_tuned_110 ?_
      refine sb_goto (tgt := 16) (by decide) dX10_tuned_113 ?_
      obtain ⟨o8, H⟩ := H
      refine Wb.forget [true, true, true, true, false] ?_
      exact (H hx3 hr6 o8 hs6)
theorem bX10_image_0 {g : AG} {ad : Nat → Nat} {d : Nat} {Q : AO → SG → Prop} {rc rs : Nat} {σ : SG}    (hS : SR σ) (H : isK (rv σ 0 1) ∧ Cl g ad d mX2_copy 0 0 [(.ref (ad 1)), (.ref (ad (rv σ 0 1)))] σ (Kv fun s2 => (SR (setS s2 0 11 1) → Q (.inl none) (setS s2 0 11 1)))) : Wb g ad d mX10_image Q 0 [some (.ref (ad 0))] [] σ rc rs := by
  refine sb_aload_n (pc' := 1) rfl rfl dX10_image_0 ?_
  refine sb_getC (pc' := 4) rfl fc_0_0 wd_642 dX10_image_1 ?_
  refine sb_aload_n (pc' := 5) rfl rfl dX10_image_4 ?_
  obtain ⟨o1, H⟩ := H
  refine sb_getR (pc' := 8) rfl fr_0_1 wd_643 dX10_image_5 ?_
  obtain ⟨d2, hd2, H⟩ := H
  refine sb_callVN (pc' := 11) rfl rfl (rc := rc) (rs := rs) (mc' := 0) (ms' := 0) (As := [(.ref (ad (rv σ 0 1)))]) (st := []) of_1 rfl rfl (Nat.le_of_ble_eq_true rfl) hd2 kX2_copy ⟨wd_970, wd_972, wd_46⟩ dX10_image_8 (Eb.mono H ?_)
  rintro o s2 ⟨rfl, hs2, H⟩
  show Wb g ad d mX10_image Q 11 [some (.ref (ad 0))] [] s2 rc rs
  refine sb_aload_n (pc' := 12) rfl rfl dX10_image_11 ?_
  refine sb_iconst (pc' := 13) rfl dX10_image_12 ?_
  refine sb_putI (pc' := 16) rfl fi_0_11 (Or.inr (Or.inr rfl)) wd_653 dX10_image_13 ?_
  exact sb_vret rfl dX10_image_16 (H (SR_setS hs2 (iR_lit rfl)))
theorem bX10_back_0 {g : AG} {ad : Nat → Nat} {d : Nat} {Q : AO → SG → Prop} {rc rs : Nat} {σ : SG}    (hS : SR σ) (H : ((¬ (sc σ 0 11) = 0 → isK (rv σ 0 1) ∧ Cl g ad d mX2_copy 0 0 [(.ref (ad (rv σ 0 1))), (.ref (ad 1))] σ (Kv fun s2 => Cl g ad d mX10_forgetOptions 0 0 [(.ref (ad 0))] s2 (Kv fun s3 => (iR 1 → SR s3 → Q (.inl (some (vi 1))) s3)))) ∧ ((sc σ 0 11) = 0 → (iR 0 → SR σ → Q (.inl (some (vi 0))) σ)))) : Wb g ad d mX10_back Q 0 [some (.ref (ad 0))] [] σ rc rs := by
  refine sb_aload_n (pc' := 1) rfl rfl dX10_back_0 ?_
  refine sb_getI (pc' := 4) rfl fi_0_11 wd_653 dX10_back_1 ?_
  refine sb_if_ne (pc' := 7) (tgt := 9) rfl (by decide) (SR_sc hS _ _) dX10_back_4 ?_ ?_
  · intro cc; have H := H.1 cc
    refine sb_aload_n (pc' := 10) rfl rfl dX10_back_9 ?_
    obtain ⟨o1, H⟩ := H
    refine sb_getR (pc' := 13) rfl fr_0_1 wd_643 dX10_back_10 ?_
    refine sb_aload_n (pc' := 14) rfl rfl dX10_back_13 ?_
    refine sb_getC (pc' := 17) rfl fc_0_0 wd_642 dX10_back_14 ?_
    obtain ⟨d2, hd2, H⟩ := H
    refine sb_callVN (pc' := 20) rfl rfl (rc := rc) (rs := rs) (mc' := 0) (ms' := 0) (As := [(.ref (ad 1))]) (st := []) (ofK o1) rfl rfl (Nat.le_of_ble_eq_true rfl) hd2 kX2_copy ⟨wd_970, wd_972, wd_46⟩ dX10_back_17 (Eb.mono H ?_)
    rintro o s2 ⟨rfl, hs2, H⟩
    show Wb g ad d mX10_back Q 20 [some (.ref (ad 0))] [] s2 rc rs
    refine sb_aload_n (pc' := 21) rfl rfl dX10_back_20 ?_
    obtain ⟨d3, hd3, H⟩ := H
    refine sb_callV (pc' := 24) rfl rfl (rc := rc) (rs := rs) (mc' := 0) (ms' := 0) (As := []) (st := []) of_0 rfl rfl (Nat.le_of_ble_eq_true rfl) hd3 kX10_forgetOptions ⟨wd_979, wd_981, wd_47⟩ dX10_back_21 (Eb.mono H ?_)
    rintro o s3 ⟨rfl, hs3, H⟩
    show Wb g ad d mX10_back Q 24 [some (.ref (ad 0))] [] s3 rc rs
    refine sb_iconst (pc' := 25) rfl dX10_back_24 ?_
    exact sb_iret rfl (nar_z2 (Or.inr rfl)) dX10_back_25 (H (iR_lit rfl) hs3)
  · intro cc; have H := H.2 cc
    refine sb_iconst (pc' := 8) rfl dX10_back_7 ?_
    exact sb_iret rfl (nar_z2 (Or.inl rfl)) dX10_back_8 (H (iR_lit rfl) hS)
theorem bX10_count_0 {g : AG} {ad : Nat → Nat} {d : Nat} {Q : AO → SG → Prop} {rc rs : Nat} {σ : SG} {x1 : Int}  (hx1 : iR x1) (hS : SR σ) (H : (((x1 < 0 ∨ 9 < x1) → (iR ((-1)) → SR σ → Q (.inl (some (vi ((-1))))) σ)) ∧ (x1 = 0 → isK (rv σ 0 1) ∧ (iR (sc σ (rv σ 0 1) 2) → SR σ → Q (.inl (some (vi (sc σ (rv σ 0 1) 2)))) σ)) ∧ (x1 = 1 → isK (rv σ 0 1) ∧ (iR (sc σ (rv σ 0 1) 9) → SR σ → Q (.inl (some (vi (sc σ (rv σ 0 1) 9)))) σ)) ∧ (x1 = 2 → isK (rv σ 0 1) ∧ (iR (sc σ (rv σ 0 1) 11) → SR σ → Q (.inl (some (vi (sc σ (rv σ 0 1) 11)))) σ)) ∧ (x1 = 3 → isK (rv σ 0 1) ∧ (iR (sc σ (rv σ 0 1) 13) → SR σ → Q (.inl (some (vi (sc σ (rv σ 0 1) 13)))) σ)) ∧ (x1 = 4 → isK (rv σ 0 1) ∧ (0 ≤ x1 - 4 ∧ x1 - 4 < 5) ∧ (iR (ia σ (rv σ 0 1 + 11) (x1 - 4)) → SR σ → Q (.inl (some (vi (ia σ (rv σ 0 1 + 11) (x1 - 4))))) σ)) ∧ (x1 = 5 → isK (rv σ 0 1) ∧ (0 ≤ x1 - 4 ∧ x1 - 4 < 5) ∧ (iR (ia σ (rv σ 0 1 + 11) (x1 - 4)) → SR σ → Q (.inl (some (vi (ia σ (rv σ 0 1 + 11) (x1 - 4))))) σ)) ∧ (x1 = 6 → isK (rv σ 0 1) ∧ (0 ≤ x1 - 4 ∧ x1 - 4 < 5) ∧ (iR (ia σ (rv σ 0 1 + 11) (x1 - 4)) → SR σ → Q (.inl (some (vi (ia σ (rv σ 0 1 + 11) (x1 - 4))))) σ)) ∧ (x1 = 7 → isK (rv σ 0 1) ∧ (0 ≤ x1 - 4 ∧ x1 - 4 < 5) ∧ (iR (ia σ (rv σ 0 1 + 11) (x1 - 4)) → SR σ → Q (.inl (some (vi (ia σ (rv σ 0 1 + 11) (x1 - 4))))) σ)) ∧ (x1 = 8 → isK (rv σ 0 1) ∧ (0 ≤ x1 - 4 ∧ x1 - 4 < 5) ∧ (iR (ia σ (rv σ 0 1 + 11) (x1 - 4)) → SR σ → Q (.inl (some (vi (ia σ (rv σ 0 1 + 11) (x1 - 4))))) σ)) ∧ (x1 = 9 → isK (rv σ 0 1) ∧ Cl g ad d mX2_livingPhrases 0 0 [(.ref (ad (rv σ 0 1)))] σ (Ki fun r16 s16 => (iR r16 → SR s16 → Q (.inl (some (vi r16))) s16))))) : Wb g ad d mX10_count Q 0 [some (.ref (ad 0)), some (vi x1)] [] σ rc rs := by
  refine sb_iload_n (pc' := 1) rfl rfl dX10_count_0 ?_
  by_cases cc : x1 < 0 ∨ 9 < x1
  · have H := H.1 cc
    refine sb_swOut (tgt := 108) hx1 cc (by decide) dX10_count_1 ?_
    refine sb_iconst (pc' := 109) rfl dX10_count_108 ?_
    exact sb_iret rfl rfl dX10_count_109 (H (iR_lit rfl) hS)
  · have H := H.2
    rcases (show x1 = 0 ∨ x1 = 1 ∨ x1 = 2 ∨ x1 = 3 ∨ x1 = 4 ∨ x1 = 5 ∨ x1 = 6 ∨ x1 = 7 ∨ x1 = 8 ∨ x1 = 9 by omega) with cc | cc | cc | cc | cc | cc | cc | cc | cc | cc
    · have H := H.1 cc
      refine sb_swIn (tgt := 56) (off := 55) hx1 (by omega) (by omega) (by rw [cc]; rfl) (by decide) dX10_count_1 ?_
      refine sb_aload_n (pc' := 57) rfl rfl dX10_count_56 ?_
      obtain ⟨o1, H⟩ := H
      refine sb_getR (pc' := 60) rfl fr_0_1 wd_643 dX10_count_57 ?_
      refine sb_getIN (pc' := 63) rfl (fiK_2 o1) wd_208 dX10_count_60 ?_
      exact sb_iret rfl rfl dX10_count_63 (H (SR_sc hS _ _) hS)
    · have H := H.2.1 cc
      refine sb_swIn (tgt := 64) (off := 63) hx1 (by omega) (by omega) (by rw [cc]; rfl) (by decide) dX10_count_1 ?_
      refine sb_aload_n (pc' := 65) rfl rfl dX10_count_64 ?_
      obtain ⟨o2, H⟩ := H
      refine sb_getR (pc' := 68) rfl fr_0_1 wd_643 dX10_count_65 ?_
      refine sb_getIN (pc' := 71) rfl (fiK_9 o2) wd_229 dX10_count_68 ?_
      exact sb_iret rfl rfl dX10_count_71 (H (SR_sc hS _ _) hS)
    · have H := H.2.2.1 cc
      refine sb_swIn (tgt := 72) (off := 71) hx1 (by omega) (by omega) (by rw [cc]; rfl) (by decide) dX10_count_1 ?_
      refine sb_aload_n (pc' := 73) rfl rfl dX10_count_72 ?_
      obtain ⟨o3, H⟩ := H
      refine sb_getR (pc' := 76) rfl fr_0_1 wd_643 dX10_count_73 ?_
      refine sb_getIN (pc' := 79) rfl (fiK_11 o3) wd_232 dX10_count_76 ?_
      exact sb_iret rfl rfl dX10_count_79 (H (SR_sc hS _ _) hS)
    · have H := H.2.2.2.1 cc
      refine sb_swIn (tgt := 80) (off := 79) hx1 (by omega) (by omega) (by rw [cc]; rfl) (by decide) dX10_count_1 ?_
      refine sb_aload_n (pc' := 81) rfl rfl dX10_count_80 ?_
      obtain ⟨o4, H⟩ := H
      refine sb_getR (pc' := 84) rfl fr_0_1 wd_643 dX10_count_81 ?_
      refine sb_getIN (pc' := 87) rfl (fiK_13 o4) wd_238 dX10_count_84 ?_
      exact sb_iret rfl rfl dX10_count_87 (H (SR_sc hS _ _) hS)
    · have H := H.2.2.2.2.1 cc
      refine sb_swIn (tgt := 88) (off := 87) hx1 (by omega) (by omega) (by rw [cc]; rfl) (by decide) dX10_count_1 ?_
      refine sb_aload_n (pc' := 89) rfl rfl dX10_count_88 ?_
      obtain ⟨o5, H⟩ := H
      refine sb_getR (pc' := 92) rfl fr_0_1 wd_643 dX10_count_89 ?_
      refine sb_getCN (pc' := 95) rfl (fcK_14 o5) wd_241 dX10_count_92 ?_
      refine sb_iload_n (pc' := 96) rfl rfl dX10_count_95 ?_
      refine sb_iconst (pc' := 97) rfl dX10_count_96 ?_
      refine sb_isub (pc' := 98) rfl dX10_count_97 ?_
      obtain ⟨o6, H⟩ := H
      refine sb_iald (pc' := 99) rfl (aIK_11 o5) o6.1 o6.2 dX10_count_98 ?_
      exact sb_iret rfl rfl dX10_count_99 (H (SR_ia hS _ _) hS)
    · have H := H.2.2.2.2.2.1 cc
      refine sb_swIn (tgt := 88) (off := 87) hx1 (by omega) (by omega) (by rw [cc]; rfl) (by decide) dX10_count_1 ?_
      refine sb_aload_n (pc' := 89) rfl rfl dX10_count_88 ?_
      obtain ⟨o7, H⟩ := H
      refine sb_getR (pc' := 92) rfl fr_0_1 wd_643 dX10_count_89 ?_
      refine sb_getCN (pc' := 95) rfl (fcK_14 o7) wd_241 dX10_count_92 ?_
      refine sb_iload_n (pc' := 96) rfl rfl dX10_count_95 ?_
      refine sb_iconst (pc' := 97) rfl dX10_count_96 ?_
      refine sb_isub (pc' := 98) rfl dX10_count_97 ?_
      obtain ⟨o8, H⟩ := H
      refine sb_iald (pc' := 99) rfl (aIK_11 o7) o8.1 o8.2 dX10_count_98 ?_
      exact sb_iret rfl rfl dX10_count_99 (H (SR_ia hS _ _) hS)
    · have H := H.2.2.2.2.2.2.1 cc
      refine sb_swIn (tgt := 88) (off := 87) hx1 (by omega) (by omega) (by rw [cc]; rfl) (by decide) dX10_count_1 ?_
      refine sb_aload_n (pc' := 89) rfl rfl dX10_count_88 ?_
      obtain ⟨o9, H⟩ := H
      refine sb_getR (pc' := 92) rfl fr_0_1 wd_643 dX10_count_89 ?_
      refine sb_getCN (pc' := 95) rfl (fcK_14 o9) wd_241 dX10_count_92 ?_
      refine sb_iload_n (pc' := 96) rfl rfl dX10_count_95 ?_
      refine sb_iconst (pc' := 97) rfl dX10_count_96 ?_
      refine sb_isub (pc' := 98) rfl dX10_count_97 ?_
      obtain ⟨o10, H⟩ := H
      refine sb_iald (pc' := 99) rfl (aIK_11 o9) o10.1 o10.2 dX10_count_98 ?_
      exact sb_iret rfl rfl dX10_count_99 (H (SR_ia hS _ _) hS)
    · have H := H.2.2.2.2.2.2.2.1 cc
      refine sb_swIn (tgt := 88) (off := 87) hx1 (by omega) (by omega) (by rw [cc]; rfl) (by decide) dX10_count_1 ?_
      refine sb_aload_n (pc' := 89) rfl rfl dX10_count_88 ?_
      obtain ⟨o11, H⟩ := H
      refine sb_getR (pc' := 92) rfl fr_0_1 wd_643 dX10_count_89 ?_
      refine sb_getCN (pc' := 95) rfl (fcK_14 o11) wd_241 dX10_count_92 ?_
      refine sb_iload_n (pc' := 96) rfl rfl dX10_count_95 ?_
      refine sb_iconst (pc' := 97) rfl dX10_count_96 ?_
      refine sb_isub (pc' := 98) rfl dX10_count_97 ?_
      obtain ⟨o12, H⟩ := H
      refine sb_iald (pc' := 99) rfl (aIK_11 o11) o12.1 o12.2 dX10_count_98 ?_
      exact sb_iret rfl rfl dX10_count_99 (H (SR_ia hS _ _) hS)
    · have H := H.2.2.2.2.2.2.2.2.1 cc
      refine sb_swIn (tgt := 88) (off := 87) hx1 (by omega) (by omega) (by rw [cc]; rfl) (by decide) dX10_count_1 ?_
      refine sb_aload_n (pc' := 89) rfl rfl dX10_count_88 ?_
      obtain ⟨o13, H⟩ := H
      refine sb_getR (pc' := 92) rfl fr_0_1 wd_643 dX10_count_89 ?_
      refine sb_getCN (pc' := 95) rfl (fcK_14 o13) wd_241 dX10_count_92 ?_
      refine sb_iload_n (pc' := 96) rfl rfl dX10_count_95 ?_
      refine sb_iconst (pc' := 97) rfl dX10_count_96 ?_
      refine sb_isub (pc' := 98) rfl dX10_count_97 ?_
      obtain ⟨o14, H⟩ := H
      refine sb_iald (pc' := 99) rfl (aIK_11 o13) o14.1 o14.2 dX10_count_98 ?_
      exact sb_iret rfl rfl dX10_count_99 (H (SR_ia hS _ _) hS)
    · have H := H.2.2.2.2.2.2.2.2.2 cc
      refine sb_swIn (tgt := 100) (off := 99) hx1 (by omega) (by omega) (by rw [cc]; rfl) (by decide) dX10_count_1 ?_
      refine sb_aload_n (pc' := 101) rfl rfl dX10_count_100 ?_
      obtain ⟨o15, H⟩ := H
      refine sb_getR (pc' := 104) rfl fr_0_1 wd_643 dX10_count_101 ?_
      obtain ⟨d16, hd16, H⟩ := H
      refine sb_callVN (pc' := 107) rfl rfl (rc := rc) (rs := rs) (mc' := 0) (ms' := 0) (As := []) (st := []) (ofK o15) rfl rfl (Nat.le_of_ble_eq_true rfl) hd16 kX2_livingPhrases ⟨wd_991, wd_993, wd_49⟩ dX10_count_104 (Eb.mono H ?_)
      rintro o s16 ⟨r16, rfl, hr16, hs16, H⟩
      show Wb g ad d mX10_count Q 107 [some (.ref (ad 0)), some (vi x1)] [(vi r16)] s16 rc rs
      exact sb_iret rfl rfl dX10_count_107 (H hr16 hs16)
theorem bX10_checkWord_0 {g : AG} {ad : Nat → Nat} {d : Nat} {Q : AO → SG → Prop} {rc rs : Nat} {σ : SG} {x1 : Int}  (hx1 : iR x1) (hS : SR σ) (H : ((x1 < 0 → 8 ≤ d ∧ (SR σ → Q (.inr "java/lang/IndexOutOfBoundsException") σ)) ∧ (¬ x1 < 0 → isK (rv σ 0 1) ∧ ((x1 < (sc σ (rv σ 0 1) 2) → (SR σ → Q (.inl none) σ)) ∧ (¬ x1 < (sc σ (rv σ 0 1) 2) → 8 ≤ d ∧ (SR σ → Q (.inr "java/lang/IndexOutOfBoundsException") σ)))))) : Wb g ad d mX10_checkWord Q 0 [some (.ref (ad 0)), some (vi x1)] [] σ (rc + 1) (rs + 6) := by
  refine sb_iload_n (pc' := 1) rfl rfl dX10_checkWord_0 ?_
  refine sb_if_lt (pc' := 4) (tgt := 15) rfl (by decide) hx1 dX10_checkWord_1 ?_ ?_
  · intro cc; have H := H.1 cc
    obtain ⟨o1, H⟩ := H
    exact sb_throwW rfl (thr_IndexOutOfBoundsException_315) (cls := "java/lang/IndexOutOfBoundsException") (text := "there is no such word") (rc := rc) (rs := rs) o1 (Nat.le_of_ble_eq_true rfl) wd_1259 wd_186 ⟨rfl, by decide +kernel⟩ dX10_checkWord_15 dX10_checkWord_18 dX10_checkWord_19 dX10_checkWord_22 dX10_checkWord_25 (H hS)
  · intro cc; have H := H.2 cc
    refine sb_iload_n (pc' := 5) rfl rfl dX10_checkWord_4 ?_
    refine sb_aload_n (pc' := 6) rfl rfl dX10_checkWord_5 ?_
    obtain ⟨o2, H⟩ := H
    refine sb_getR (pc' := 9) rfl fr_0_1 wd_643 dX10_checkWord_6 ?_
    refine sb_getIN (pc' := 12) rfl (fiK_2 o2) wd_208 dX10_checkWord_9 ?_
    refine sb_icmp_lt (pc' := 15) (tgt := 26) rfl (by decide) hx1 (SR_sc hS _ _) dX10_checkWord_12 ?_ ?_
    · intro cc; have H := H.1 cc
      exact sb_vret rfl dX10_checkWord_26 (H hS)
    · intro cc; have H := H.2 cc
      obtain ⟨o3, H⟩ := H
      exact sb_throwW rfl (thr_IndexOutOfBoundsException_315) (cls := "java/lang/IndexOutOfBoundsException") (text := "there is no such word") (rc := rc) (rs := rs) o3 (Nat.le_of_ble_eq_true rfl) wd_1259 wd_186 ⟨rfl, by decide +kernel⟩ dX10_checkWord_15 dX10_checkWord_18 dX10_checkWord_19 dX10_checkWord_22 dX10_checkWord_25 (H hS)
theorem bX10_checkPhrase_0 {g : AG} {ad : Nat → Nat} {d : Nat} {Q : AO → SG → Prop} {rc rs : Nat} {σ : SG} {x1 : Int}  (hx1 : iR x1) (hS : SR σ) (H : ((x1 < 0 → 8 ≤ d ∧ (SR σ → Q (.inr "java/lang/IndexOutOfBoundsException") σ)) ∧ (¬ x1 < 0 → isK (rv σ 0 1) ∧ ((x1 < (sc σ (rv σ 0 1) 9) → (SR σ → Q (.inl none) σ)) ∧ (¬ x1 < (sc σ (rv σ 0 1) 9) → 8 ≤ d ∧ (SR σ → Q (.inr "java/lang/IndexOutOfBoundsException") σ)))))) : Wb g ad d mX10_checkPhrase Q 0 [some (.ref (ad 0)), some (vi x1)] [] σ (rc + 1) (rs + 6) := by
  refine sb_iload_n (pc' := 1) rfl rfl dX10_checkPhrase_0 ?_
  refine sb_if_lt (pc' := 4) (tgt := 15) rfl (by decide) hx1 dX10_checkPhrase_1 ?_ ?_
  · intro cc; have H := H.1 cc
    obtain ⟨o1, H⟩ := H
    exact sb_throwW rfl (thr_IndexOutOfBoundsException_315) (cls := "java/lang/IndexOutOfBoundsException") (text := "there is no such phrase") (rc := rc) (rs := rs) o1 (Nat.le_of_ble_eq_true rfl) wd_1259 wd_186 ⟨rfl, by decide +kernel⟩ dX10_checkPhrase_15 dX10_checkPhrase_18 dX10_checkPhrase_19 dX10_checkPhrase_22 dX10_checkPhrase_25 (H hS)
  · intro cc; have H := H.2 cc
    refine sb_iload_n (pc' := 5) rfl rfl dX10_checkPhrase_4 ?_
    refine sb_aload_n (pc' := 6) rfl rfl dX10_checkPhrase_5 ?_
    obtain ⟨o2, H⟩ := H
    refine sb_getR (pc' := 9) rfl fr_0_1 wd_643 dX10_checkPhrase_6 ?_
    refine sb_getIN (pc' := 12) rfl (fiK_9 o2) wd_229 dX10_checkPhrase_9 ?_
    refine sb_icmp_lt (pc' := 15) (tgt := 26) rfl (by decide) hx1 (SR_sc hS _ _) dX10_checkPhrase_12 ?_ ?_
    · intro cc; have H := H.1 cc
      exact sb_vret rfl dX10_checkPhrase_26 (H hS)
    · intro cc; have H := H.2 cc
      obtain ⟨o3, H⟩ := H
      exact sb_throwW rfl (thr_IndexOutOfBoundsException_315) (cls := "java/lang/IndexOutOfBoundsException") (text := "there is no such phrase") (rc := rc) (rs := rs) o3 (Nat.le_of_ble_eq_true rfl) wd_1259 wd_186 ⟨rfl, by decide +kernel⟩ dX10_checkPhrase_15 dX10_checkPhrase_18 dX10_checkPhrase_19 dX10_checkPhrase_22 dX10_checkPhrase_25 (H hS)
theorem bX10_checkPlace_0 {g : AG} {ad : Nat → Nat} {d : Nat} {Q : AO → SG → Prop} {rc rs : Nat} {σ : SG} {x1 : Int}  (hx1 : iR x1) (hS : SR σ) (H : ((x1 < 0 → 8 ≤ d ∧ (SR σ → Q (.inr "java/lang/IndexOutOfBoundsException") σ)) ∧ (¬ x1 < 0 → isK (rv σ 0 1) ∧ ((x1 < (sc σ (rv σ 0 1) 13) → (SR σ → Q (.inl none) σ)) ∧ (¬ x1 < (sc σ (rv σ 0 1) 13) → 8 ≤ d ∧ (SR σ → Q (.inr "java/lang/IndexOutOfBoundsException") σ)))))) : Wb g ad d mX10_checkPlace Q 0 [some (.ref (ad 0)), some (vi x1)] [] σ (rc + 1) (rs + 6) := by
  refine sb_iload_n (pc' := 1) rfl rfl dX10_checkPlace_0 ?_
  refine sb_if_lt (pc' := 4) (tgt := 15) rfl (by decide) hx1 dX10_checkPlace_1 ?_ ?_
  · intro cc; have H := H.1 cc
    obtain ⟨o1, H⟩ := H
    exact sb_throwW rfl (thr_IndexOutOfBoundsException_315) (cls := "java/lang/IndexOutOfBoundsException") (text := "there is no such place") (rc := rc) (rs := rs) o1 (Nat.le_of_ble_eq_true rfl) wd_1259 wd_186 ⟨rfl, by decide +kernel⟩ dX10_checkPlace_15 dX10_checkPlace_18 dX10_checkPlace_19 dX10_checkPlace_22 dX10_checkPlace_25 (H hS)
  · intro cc; have H := H.2 cc
    refine sb_iload_n (pc' := 5) rfl rfl dX10_checkPlace_4 ?_
    refine sb_aload_n (pc' := 6) rfl rfl dX10_checkPlace_5 ?_
    obtain ⟨o2, H⟩ := H
    refine sb_getR (pc' := 9) rfl fr_0_1 wd_643 dX10_checkPlace_6 ?_
    refine sb_getIN (pc' := 12) rfl (fiK_13 o2) wd_238 dX10_checkPlace_9 ?_
    refine sb_icmp_lt (pc' := 15) (tgt := 26) rfl (by decide) hx1 (SR_sc hS _ _) dX10_checkPlace_12 ?_ ?_
    · intro cc; have H := H.1 cc
      exact sb_vret rfl dX10_checkPlace_26 (H hS)
    · intro cc; have H := H.2 cc
      obtain ⟨o3, H⟩ := H
      exact sb_throwW rfl (thr_IndexOutOfBoundsException_315) (cls := "java/lang/IndexOutOfBoundsException") (text := "there is no such place") (rc := rc) (rs := rs) o3 (Nat.le_of_ble_eq_true rfl) wd_1259 wd_186 ⟨rfl, by decide +kernel⟩ dX10_checkPlace_15 dX10_checkPlace_18 dX10_checkPlace_19 dX10_checkPlace_22 dX10_checkPlace_25 (H hS)
theorem bX10_checkWay_0 {g : AG} {ad : Nat → Nat} {d : Nat} {Q : AO → SG → Prop} {rc rs : Nat} {σ : SG} {x1 : Int}  (hx1 : iR x1) (hS : SR σ) (H : ((x1 < 0 → 8 ≤ d ∧ (SR σ → Q (.inr "java/lang/IllegalArgumentException") σ)) ∧ (¬ x1 < 0 → ((x1 < 30 → (SR σ → Q (.inl none) σ)) ∧ (¬ x1 < 30 → 8 ≤ d ∧ (SR σ → Q (.inr "java/lang/IllegalArgumentException") σ)))))) : Wb g ad d mX10_checkWay Q 0 [some (.ref (ad 0)), some (vi x1)] [] σ (rc + 1) (rs + 6) := by
  refine sb_iload_n (pc' := 1) rfl rfl dX10_checkWay_0 ?_
  refine sb_if_lt (pc' := 4) (tgt := 10) rfl (by decide) hx1 dX10_checkWay_1 ?_ ?_
  · intro cc; have H := H.1 cc
    obtain ⟨o1, H⟩ := H
    exact sb_throwW rfl (thr_IllegalArgumentException_221) (cls := "java/lang/IllegalArgumentException") (text := "no such number of a way") (rc := rc) (rs := rs) o1 (Nat.le_of_ble_eq_true rfl) wd_1086 wd_180 ⟨rfl, by decide +kernel⟩ dX10_checkWay_10 dX10_checkWay_13 dX10_checkWay_14 dX10_checkWay_17 dX10_checkWay_20 (H hS)
  · intro cc; have H := H.2 cc
    refine sb_iload_n (pc' := 5) rfl rfl dX10_checkWay_4 ?_
    refine sb_bipush (pc' := 7) rfl (z := 30) (by decide) dX10_checkWay_5 ?_
    refine sb_icmp_lt (pc' := 10) (tgt := 21) rfl (by decide) hx1 (iR_lit rfl) dX10_checkWay_7 ?_ ?_
    · intro cc; have H := H.1 cc
      exact sb_vret rfl dX10_checkWay_21 (H hS)
    · intro cc; have H := H.2 cc
      obtain ⟨o2, H⟩ := H
      exact sb_throwW rfl (thr_IllegalArgumentException_221) (cls := "java/lang/IllegalArgumentException") (text := "no such number of a way") (rc := rc) (rs := rs) o2 (Nat.le_of_ble_eq_true rfl) wd_1086 wd_180 ⟨rfl, by decide +kernel⟩ dX10_checkWay_10 dX10_checkWay_13 dX10_checkWay_14 dX10_checkWay_17 dX10_checkWay_20 (H hS)
theorem bX10_checkText_0 {g : AG} {ad : Nat → Nat} {d : Nat} {Q : AO → SG → Prop} {rc rs : Nat} {σ : SG}    (hS : SR σ) (H : Cl g ad d mX6_isRight 0 0 [(.ref (ad 37))] σ (Ki fun r1 s1 => ((¬ r1 = 0 → (SR s1 → Q (.inl none) s1)) ∧ (r1 = 0 → 8 ≤ d ∧ (SR s1 → Q (.inr "java/lang/IllegalArgumentException") s1))))) : Wb g ad d mX10_checkText Q 0 [some (.ref (ad 0))] [] σ (rc + 1) (rs + 6) := by
  refine sb_aload_n (pc' := 1) rfl rfl dX10_checkText_0 ?_
  refine sb_getC (pc' := 4) rfl fc_0_3 wd_645 dX10_checkText_1 ?_
  obtain ⟨d1, hd1, H⟩ := H
  refine sb_callVN (pc' := 7) rfl rfl (rc := (rc + 1)) (rs := (rs + 6)) (mc' := 0) (ms' := 0) (As := []) (st := []) of_37 rfl rfl (Nat.le_of_ble_eq_true rfl) hd1 kX6_isRight ⟨wd_1085, wd_1025, wd_55⟩ dX10_checkText_4 (Eb.mono H ?_)
  rintro o s1 ⟨r1, rfl, hr1, hs1, H⟩
  show Wb g ad d mX10_checkText Q 7 [some (.ref (ad 0))] [(vi r1)] s1 (rc + 1) (rs + 6)
  refine sb_if_ne (pc' := 10) (tgt := 21) rfl (by decide) hr1 dX10_checkText_7 ?_ ?_
  · intro cc; have H := H.1 cc
    exact sb_vret rfl dX10_checkText_21 (H hs1)
  · intro cc; have H := H.2 cc
    obtain ⟨o2, H⟩ := H
    exact sb_throwW rfl (thr_IllegalArgumentException_221) (cls := "java/lang/IllegalArgumentException") (text := "the text is wrong") (rc := rc) (rs := rs) o2 (Nat.le_of_ble_eq_true rfl) wd_1086 wd_180 ⟨rfl, by decide +kernel⟩ dX10_checkText_10 dX10_checkText_13 dX10_checkText_14 dX10_checkText_17 dX10_checkText_20 (H hs1)
theorem bX10_readTold_0 {g : AG} {ad : Nat → Nat} {d : Nat} {Q : AO → SG → Prop} {rc rs : Nat} {σ : SG}    (hS : SR σ) (H : isK (rv σ 0 1) ∧ Cl g ad d mX6_readRow 0 0 [(.ref (ad 37)), (.ref (ad (rv σ 0 1))), (vi 0), (vi 18)] σ (Kv fun s2 => Cl g ad d mX10_checkText 1 6 [(.ref (ad 0))] (setS s2 37 1 0) (Kx (Kv fun s3 => (SR s3 → Q (.inl none) s3)) (fun E s3 => SR s3 → Q (.inr E) s3)))) : Wb g ad d mX10_readTold Q 0 [some (.ref (ad 0))] [] σ (rc + 1) (rs + 6) := by
  refine sb_aload_n (pc' := 1) rfl rfl dX10_readTold_0 ?_
  refine sb_getC (pc' := 4) rfl fc_0_3 wd_645 dX10_readTold_1 ?_
  refine sb_aload_n (pc' := 5) rfl rfl dX10_readTold_4 ?_
  obtain ⟨o1, H⟩ := H
  refine sb_getR (pc' := 8) rfl fr_0_1 wd_643 dX10_readTold_5 ?_
  refine sb_iconst (pc' := 9) rfl dX10_readTold_8 ?_
  refine sb_bipush (pc' := 11) rfl (z := 18) (by decide) dX10_readTold_9 ?_
  obtain ⟨d2, hd2, H⟩ := H
  refine sb_callVN (pc' := 14) rfl rfl (rc := (rc + 1)) (rs := (rs + 6)) (mc' := 0) (ms' := 0) (As := [(.ref (ad (rv σ 0 1))), (vi 0), (vi 18)]) (st := []) of_37 rfl rfl (Nat.le_of_ble_eq_true rfl) hd2 kX6_readRow ⟨wd_1185, wd_1187, wd_75⟩ dX10_readTold_11 (Eb.mono H ?_)
  rintro o s2 ⟨rfl, hs2, H⟩
  show Wb g ad d mX10_readTold Q 14 [some (.ref (ad 0))] [] s2 (rc + 1) (rs + 6)
  refine sb_aload_n (pc' := 15) rfl rfl dX10_readTold_14 ?_
  refine sb_getC (pc' := 18) rfl fc_0_3 wd_645 dX10_readTold_15 ?_
  refine sb_iconst (pc' := 19) rfl dX10_readTold_18 ?_
  refine sb_putIN (pc' := 22) rfl fi_37_1 (Or.inl rfl) wd_282 dX10_readTold_19 ?_
  refine sb_aload_n (pc' := 23) rfl rfl dX10_readTold_22 ?_
  obtain ⟨d3, hd3, H⟩ := H
  refine sb_callV (pc' := 26) rfl rfl (rc := rc) (rs := rs) (mc' := 1) (ms' := 6) (As := []) (st := []) of_0 rfl rfl (Nat.le_of_ble_eq_true rfl) hd3 kX10_checkText ⟨wd_1081, wd_1083, wd_69⟩ dX10_readTold_23 (Eb.mono H ?_)
  rintro o s3 (⟨rfl, hs3, H⟩ | ⟨E, rfl, hs3, H⟩)
  case inr => exact H hs3
  show Wb g ad d mX10_readTold Q 26 [some (.ref (ad 0))] [] s3 rc rs
  exact sb_vret rfl dX10_readTold_26 (H hs3)
theorem bX10_keepDraft_0 {g : AG} {ad : Nat → Nat} {d : Nat} {Q : AO → SG → Prop} {rc rs : Nat} {σ : SG}    (hS : SR σ) (H : isK (rv σ 0 1) ∧ isK (rv σ 0 2) ∧ Cl g ad d mX10_forgetOptions 0 0 [(.ref (ad 0))] (setR (setR σ 0 1 (rv σ 0 2)) 0 2 (rv σ 0 1)) (Kv fun s3 => (SR s3 → Q (.inl none) s3))) : Wb g ad d mX10_keepDraft Q 0 [some (.ref (ad 0)), none] [] σ rc rs := by
  refine sb_aload_n (pc' := 1) rfl rfl dX10_keepDraft_0 ?_
  obtain ⟨o1, H⟩ := H
  refine sb_getR (pc' := 4) rfl fr_0_1 wd_643 dX10_keepDraft_1 ?_
  refine sb_astore_n (pc' := 5) rfl (L' := [some (.ref (ad 0)), some (.ref (ad (rv σ 0 1)))]) rfl (by decide) dX10_keepDraft_4 ?_
  refine sb_aload_n (pc' := 6) rfl rfl dX10_keepDraft_5 ?_
  refine sb_aload_n (pc' := 7) rfl rfl dX10_keepDraft_6 ?_
  obtain ⟨o2, H⟩ := H
  refine sb_getR (pc' := 10) rfl fr_0_2 wd_644 dX10_keepDraft_7 ?_
  refine sb_putR (pc' := 13) rfl fr_0_1 wd_643 dX10_keepDraft_10 ?_
  refine sb_aload_n (pc' := 14) rfl rfl dX10_keepDraft_13 ?_
  refine sb_aload_n (pc' := 15) rfl rfl dX10_keepDraft_14 ?_
  refine sb_putR (pc' := 18) rfl fr_0_2 wd_644 dX10_keepDraft_15 ?_
  refine sb_aload_n (pc' := 19) rfl rfl dX10_keepDraft_18 ?_
  obtain ⟨d3, hd3, H⟩ := H
  refine sb_callV (pc' := 22) rfl rfl (rc := rc) (rs := rs) (mc' := 0) (ms' := 0) (As := []) (st := []) of_0 rfl rfl (Nat.le_of_ble_eq_true rfl) hd3 kX10_forgetOptions ⟨wd_979, wd_981, wd_47⟩ dX10_keepDraft_19 (Eb.mono H ?_)
  rintro o s3 ⟨rfl, hs3, H⟩
  show Wb g ad d mX10_keepDraft Q 22 [some (.ref (ad 0)), some (.ref (ad (rv σ 0 1)))] [] s3 rc rs
  exact sb_vret rfl dX10_keepDraft_22 (H hs3)
theorem bX10_forgetOptions_0 {g : AG} {ad : Nat → Nat} {d : Nat} {Q : AO → SG → Prop} {rc rs : Nat} {σ : SG}    (hS : SR σ) (H : Cl g ad d mX10_forgetWays 0 0 [(.ref (ad 0))] (setS σ 0 12 0) (Kv fun s1 => (SR s1 → Q (.inl none) s1))) : Wb g ad d mX10_forgetOptions Q 0 [some (.ref (ad 0))] [] σ rc rs := by
  refine sb_aload_n (pc' := 1) rfl rfl dX10_forgetOptions_0 ?_
  refine sb_iconst (pc' := 2) rfl dX10_forgetOptions_1 ?_
  refine sb_putI (pc' := 5) rfl fi_0_12 (Or.inr (Or.inl rfl)) wd_654 dX10_forgetOptions_2 ?_
  refine sb_aload_n (pc' := 6) rfl rfl dX10_forgetOptions_5 ?_
  obtain ⟨d1, hd1, H⟩ := H
  refine sb_callV (pc' := 9) rfl rfl (rc := rc) (rs := rs) (mc' := 0) (ms' := 0) (As := []) (st := []) of_0 rfl rfl (Nat.le_of_ble_eq_true rfl) hd1 kX10_forgetWays ⟨wd_983, wd_985, wd_48⟩ dX10_forgetOptions_6 (Eb.mono H ?_)
  rintro o s1 ⟨rfl, hs1, H⟩
  show Wb g ad d mX10_forgetOptions Q 9 [some (.ref (ad 0))] [] s1 rc rs
  exact sb_vret rfl dX10_forgetOptions_9 (H hs1)
theorem bX10_forgetWays_0 {g : AG} {ad : Nat → Nat} {d : Nat} {Q : AO → SG → Prop} {rc rs : Nat} {σ : SG}    (hS : SR σ) (H : (SR (setS (setS σ 0 13 0) 0 14 0) → Q (.inl none) (setS (setS σ 0 13 0) 0 14 0))) : Wb g ad d mX10_forgetWays Q 0 [some (.ref (ad 0))] [] σ rc rs := by
  refine sb_aload_n (pc' := 1) rfl rfl dX10_forgetWays_0 ?_
  refine sb_iconst (pc' := 2) rfl dX10_forgetWays_1 ?_
  refine sb_putI (pc' := 5) rfl fi_0_13 (Or.inr (Or.inl rfl)) wd_655 dX10_forgetWays_2 ?_
  refine sb_aload_n (pc' := 6) rfl rfl dX10_forgetWays_5 ?_
  refine sb_iconst (pc' := 7) rfl dX10_forgetWays_6 ?_
  refine sb_putI (pc' := 10) rfl fi_0_14 (Or.inr (Or.inl rfl)) wd_656 dX10_forgetWays_7 ?_
  exact sb_vret rfl dX10_forgetWays_10 (H (SR_setS (SR_setS hS (iR_lit rfl)) (iR_lit rfl)))
theorem bX10_prepareOptions_0 {g : AG} {ad : Nat → Nat} {d : Nat} {Q : AO → SG → Prop} {rc rs : Nat} {σ : SG}    (hS : SR σ) (H : ((¬ (sc σ 0 12) = 0 → (SR σ → Q (.inl none) σ)) ∧ ((sc σ 0 12) = 0 → isK (rv σ 0 1) ∧ Cl g ad d mX5_gather 0 0 [(.ref (ad 48)), (.ref (ad (rv σ 0 1)))] σ (Kv fun s2 => Cl g ad d mX1_explore 0 0 [(.ref (ad 58))] s2 (Kv fun s3 => Cl g ad d mX8_reckon 0 0 [(.ref (ad 72))] s3 (Kv fun s4 => (SR (setS s4 0 12 1) → Q (.inl none) (setS s4 0 12 1)))))))) : Wb g ad d mX10_prepareOptions Q 0 [some (.ref (ad 0))] [] σ rc rs := by
  refine sb_aload_n (pc' := 1) rfl rfl dX10_prepareOptions_0 ?_
  refine sb_getI (pc' := 4) rfl fi_0_12 wd_654 dX10_prepareOptions_1 ?_
  refine sb_if_ne (pc' := 7) (tgt := 37) rfl (by decide) (SR_sc hS _ _) dX10_prepareOptions_4 ?_ ?_
  · intro cc; have H := H.1 cc
    exact sb_vret rfl dX10_prepareOptions_37 (H hS)
  · intro cc; have H := H.2 cc
    refine sb_aload_n (pc' := 8) rfl rfl dX10_prepareOptions_7 ?_
    refine sb_getC (pc' := 11) rfl fc_0_4 wd_646 dX10_prepareOptions_8 ?_
    refine sb_aload_n (pc' := 12) rfl rfl dX10_prepareOptions_11 ?_
    obtain ⟨o1, H⟩ := H
    refine sb_getR (pc' := 15) rfl fr_0_1 wd_643 dX10_prepareOptions_12 ?_
    obtain ⟨d2, hd2, H⟩ := H
    refine sb_callVN (pc' := 18) rfl rfl (rc := rc) (rs := rs) (mc' := 0) (ms' := 0) (As := [(.ref (ad (rv σ 0 1)))]) (st := []) of_48 rfl rfl (Nat.le_of_ble_eq_true rfl) hd2 kX5_gather ⟨wd_712, wd_714, wd_2⟩ dX10_prepareOptions_15 (Eb.mono H ?_)
    rintro o s2 ⟨rfl, hs2, H⟩
    show Wb g ad d mX10_prepareOptions Q 18 [some (.ref (ad 0))] [] s2 rc rs
    refine sb_aload_n (pc' := 19) rfl rfl dX10_prepareOptions_18 ?_
    refine sb_getC (pc' := 22) rfl fc_0_5 wd_647 dX10_prepareOptions_19 ?_
    obtain ⟨d3, hd3, H⟩ := H
    refine sb_callVN (pc' := 25) rfl rfl (rc := rc) (rs := rs) (mc' := 0) (ms' := 0) (As := []) (st := []) of_58 rfl rfl (Nat.le_of_ble_eq_true rfl) hd3 kX1_explore ⟨wd_738, wd_740, wd_7⟩ dX10_prepareOptions_22 (Eb.mono H ?_)
    rintro o s3 ⟨rfl, hs3, H⟩
    show Wb g ad d mX10_prepareOptions Q 25 [some (.ref (ad 0))] [] s3 rc rs
    refine sb_aload_n (pc' := 26) rfl rfl dX10_prepareOptions_25 ?_
    refine sb_getC (pc' := 29) rfl fc_0_7 wd_649 dX10_prepareOptions_26 ?_
    obtain ⟨d4, hd4, H⟩ := H
    refine sb_callVN (pc' := 32) rfl rfl (rc := rc) (rs := rs) (mc' := 0) (ms' := 0) (As := []) (st := []) of_72 rfl rfl (Nat.le_of_ble_eq_true rfl) hd4 kX8_reckon ⟨wd_767, wd_769, wd_12⟩ dX10_prepareOptions_29 (Eb.mono H ?_)
    rintro o s4 ⟨rfl, hs4, H⟩
    show Wb g ad d mX10_prepareOptions Q 32 [some (.ref (ad 0))] [] s4 rc rs
    refine sb_aload_n (pc' := 33) rfl rfl dX10_prepareOptions_32 ?_
    refine sb_iconst (pc' := 34) rfl dX10_prepareOptions_33 ?_
    refine sb_putI (pc' := 37) rfl fi_0_12 (Or.inr (Or.inr rfl)) wd_654 dX10_prepareOptions_34 ?_
    exact sb_vret rfl dX10_prepareOptions_37 (H (SR_setS hs4 (iR_lit rfl)))
theorem bX10_prepareWays_0 {g : AG} {ad : Nat → Nat} {d : Nat} {Q : AO → SG → Prop} {rc rs : Nat} {σ : SG}    (hS : SR σ) (H : ((¬ (sc σ 0 13) = 0 → (SR σ → Q (.inl none) σ)) ∧ ((sc σ 0 13) = 0 → isK (rv σ 0 1) ∧ Cl g ad d mX1_reckon 0 0 [(.ref (ad 58)), (vi (ia σ (rv σ 0 1 + 11) 2)), (vi (ia σ (rv σ 0 1 + 11) 3)), (vi ((-1)))] σ (Kv fun s2 => Cl g ad d mX9_begin 0 0 [(.ref (ad 63))] s2 (Kv fun s3 => (SR (setS s3 0 13 1) → Q (.inl none) (setS s3 0 13 1))))))) : Wb g ad d mX10_prepareWays Q 0 [some (.ref (ad 0))] [] σ rc rs := by
  refine sb_aload_n (pc' := 1) rfl rfl dX10_prepareWays_0 ?_
  refine sb_getI (pc' := 4) rfl fi_0_13 wd_655 dX10_prepareWays_1 ?_
  refine sb_if_ne (pc' := 7) (tgt := 45) rfl (by decide) (SR_sc hS _ _) dX10_prepareWays_4 ?_ ?_
  · intro cc; have H := H.1 cc
    exact sb_vret rfl dX10_prepareWays_45 (H hS)
  · intro cc; have H := H.2 cc
    refine sb_aload_n (pc' := 8) rfl rfl dX10_prepareWays_7 ?_
    refine sb_getC (pc' := 11) rfl fc_0_5 wd_647 dX10_prepareWays_8 ?_
    refine sb_aload_n (pc' := 12) rfl rfl dX10_prepareWays_11 ?_
    obtain ⟨o1, H⟩ := H
    refine sb_getR (pc' := 15) rfl fr_0_1 wd_643 dX10_prepareWays_12 ?_
    refine sb_getCN (pc' := 18) rfl (fcK_14 o1) wd_241 dX10_prepareWays_15 ?_
    refine sb_iconst (pc' := 19) rfl dX10_prepareWays_18 ?_
    refine sb_iald (pc' := 20) rfl (aIK_11 o1) (by decide) (by decide) dX10_prepareWays_19 ?_
    refine sb_aload_n (pc' := 21) rfl rfl dX10_prepareWays_20 ?_
    refine sb_getR (pc' := 24) rfl fr_0_1 wd_643 dX10_prepareWays_21 ?_
    refine sb_getCN (pc' := 27) rfl (fcK_14 o1) wd_241 dX10_prepareWays_24 ?_
    refine sb_iconst (pc' := 28) rfl dX10_prepareWays_27 ?_
    refine sb_iald (pc' := 29) rfl (aIK_11 o1) (by decide) (by decide) dX10_prepareWays_28 ?_
    refine sb_iconst (pc' := 30) rfl dX10_prepareWays_29 ?_
    obtain ⟨d2, hd2, H⟩ := H
    refine sb_callVN (pc' := 33) rfl rfl (rc := rc) (rs := rs) (mc' := 0) (ms' := 0) (As := [(vi (ia σ (rv σ 0 1 + 11) 2)), (vi (ia σ (rv σ 0 1 + 11) 3)), (vi ((-1)))]) (st := []) of_58 rfl rfl (Nat.le_of_ble_eq_true rfl) hd2 kX1_reckon ⟨wd_791, wd_793, wd_16⟩ dX10_prepareWays_30 (Eb.mono H ?_)
    rintro o s2 ⟨rfl, hs2, H⟩
    show Wb g ad d mX10_prepareWays Q 33 [some (.ref (ad 0))] [] s2 rc rs
    refine sb_aload_n (pc' := 34) rfl rfl dX10_prepareWays_33 ?_
    refine sb_getC (pc' := 37) rfl fc_0_6 wd_648 dX10_prepareWays_34 ?_
    obtain ⟨d3, hd3, H⟩ := H
    refine sb_callVN (pc' := 40) rfl rfl (rc := rc) (rs := rs) (mc' := 0) (ms' := 0) (As := []) (st := []) of_63 rfl rfl (Nat.le_of_ble_eq_true rfl) hd3 kX9_begin ⟨wd_832, wd_834, wd_25⟩ dX10_prepareWays_37 (Eb.mono H ?_)
    rintro o s3 ⟨rfl, hs3, H⟩
    show Wb g ad d mX10_prepareWays Q 40 [some (.ref (ad 0))] [] s3 rc rs
    refine sb_aload_n (pc' := 41) rfl rfl dX10_prepareWays_40 ?_
    refine sb_iconst (pc' := 42) rfl dX10_prepareWays_41 ?_
    refine sb_putI (pc' := 45) rfl fi_0_13 (Or.inr (Or.inr rfl)) wd_655 dX10_prepareWays_42 ?_
    exact sb_vret rfl dX10_prepareWays_45 (H (SR_setS hs3 (iR_lit rfl)))
theorem bX10_prepareStacks_0 {g : AG} {ad : Nat → Nat} {d : Nat} {Q : AO → SG → Prop} {rc rs : Nat} {σ : SG}    (hS : SR σ) (H : Cl g ad d mX10_prepareOptions 0 0 [(.ref (ad 0))] σ (Kv fun s1 => ((¬ (sc s1 0 14) = 0 → (SR s1 → Q (.inl none) s1)) ∧ ((sc s1 0 14) = 0 → isK (rv s1 0 1) ∧ Cl g ad d mX7_fill 0 0 [(.ref (ad 75)), (vi (ia s1 (rv s1 0 1 + 11) 2)), (vi (ia s1 (rv s1 0 1 + 11) 3)), (vi (ia s1 (rv s1 0 1 + 11) 4))] s1 (Kv fun s3 => (SR (setS s3 0 14 1) → Q (.inl none) (setS s3 0 14 1))))))) : Wb g ad d mX10_prepareStacks Q 0 [some (.ref (ad 0))] [] σ rc rs := by
  refine sb_aload_n (pc' := 1) rfl rfl dX10_prepareStacks_0 ?_
  obtain ⟨d1, hd1, H⟩ := H
  refine sb_callV (pc' := 4) rfl rfl (rc := rc) (rs := rs) (mc' := 0) (ms' := 0) (As := []) (st := []) of_0 rfl rfl (Nat.le_of_ble_eq_true rfl) hd1 kX10_prepareOptions ⟨wd_708, wd_710, wd_1⟩ dX10_prepareStacks_1 (Eb.mono H ?_)
  rintro o s1 ⟨rfl, hs1, H⟩
  show Wb g ad d mX10_prepareStacks Q 4 [some (.ref (ad 0))] [] s1 rc rs
  refine sb_aload_n (pc' := 5) rfl rfl dX10_prepareStacks_4 ?_
  refine sb_getI (pc' := 8) rfl fi_0_14 wd_656 dX10_prepareStacks_5 ?_
  refine sb_if_ne (pc' := 11) (tgt := 50) rfl (by decide) (SR_sc hs1 _ _) dX10_prepareStacks_8 ?_ ?_
  · intro cc; have H := H.1 cc
    exact sb_vret rfl dX10_prepareStacks_50 (H hs1)
  · intro cc; have H := H.2 cc
    refine sb_aload_n (pc' := 12) rfl rfl dX10_prepareStacks_11 ?_
    refine sb_getC (pc' := 15) rfl fc_0_8 wd_650 dX10_prepareStacks_12 ?_
    refine sb_aload_n (pc' := 16) rfl rfl dX10_prepareStacks_15 ?_
    obtain ⟨o2, H⟩ := H
    refine sb_getR (pc' := 19) rfl fr_0_1 wd_643 dX10_prepareStacks_16 ?_
    refine sb_getCN (pc' := 22) rfl (fcK_14 o2) wd_241 dX10_prepareStacks_19 ?_
    refine sb_iconst (pc' := 23) rfl dX10_prepareStacks_22 ?_
    refine sb_iald (pc' := 24) rfl (aIK_11 o2) (by decide) (by decide) dX10_prepareStacks_23 ?_
    refine sb_aload_n (pc' := 25) rfl rfl dX10_prepareStacks_24 ?_
    refine sb_getR (pc' := 28) rfl fr_0_1 wd_643 dX10_prepareStacks_25 ?_
    refine sb_getCN (pc' := 31) rfl (fcK_14 o2) wd_241 dX10_prepareStacks_28 ?_
    refine sb_iconst (pc' := 32) rfl dX10_prepareStacks_31 ?_
    refine sb_iald (pc' := 33) rfl (aIK_11 o2) (by decide) (by decide) dX10_prepareStacks_32 ?_
    refine sb_aload_n (pc' := 34) rfl rfl dX10_prepareStacks_33 ?_
    refine sb_getR (pc' := 37) rfl fr_0_1 wd_643 dX10_prepareStacks_34 ?_
    refine sb_getCN (pc' := 40) rfl (fcK_14 o2) wd_241 dX10_prepareStacks_37 ?_
    refine sb_iconst (pc' := 41) rfl dX10_prepareStacks_40 ?_
    refine sb_iald (pc' := 42) rfl (aIK_11 o2) (by decide) (by decide) dX10_prepareStacks_41 ?_
    obtain ⟨d3, hd3, H⟩ := H
    refine sb_callVN (pc' := 45) rfl rfl (rc := rc) (rs := rs) (mc' := 0) (ms' := 0) (As := [(vi (ia s1 (rv s1 0 1 + 11) 2)), (vi (ia s1 (rv s1 0 1 + 11) 3)), (vi (ia s1 (rv s1 0 1 + 11) 4))]) (st := []) of_75 rfl rfl (Nat.le_of_ble_eq_true rfl) hd3 kX7_fill ⟨wd_924, wd_926, wd_38⟩ dX10_prepareStacks_42 (Eb.mono H ?_)
    rintro o s3 ⟨rfl, hs3, H⟩
    show Wb g ad d mX10_prepareStacks Q 45 [some (.ref (ad 0))] [] s3 rc rs
    refine sb_aload_n (pc' := 46) rfl rfl dX10_prepareStacks_45 ?_
    refine sb_iconst (pc' := 47) rfl dX10_prepareStacks_46 ?_
    refine sb_putI (pc' := 50) rfl fi_0_14 (Or.inr (Or.inr rfl)) wd_656 dX10_prepareStacks_47 ?_
    exact sb_vret rfl dX10_prepareStacks_50 (H (SR_setS hs3 (iR_lit rfl)))
theorem bX10_unfoldWay_0 {g : AG} {ad : Nat → Nat} {d : Nat} {Q : AO → SG → Prop} {rc rs : Nat} {σ : SG} {x1 : Int}  (hx1 : iR x1) (hS : SR σ) (H : Cl g ad d mX10_prepareOptions 0 0 [(.ref (ad 0))] σ (Kv fun s1 => Cl g ad d mX10_prepareWays 0 0 [(.ref (ad 0))] s1 (Kv fun s2 => Cl g ad d mX9_bring 0 0 [(.ref (ad 63)), (vi x1)] s2 (Kv fun s3 => Cl g ad d mX9_unfold 0 0 [(.ref (ad 63)), (vi x1)] s3 (Ki fun r4 s4 => (r4 = 0 ∨ r4 = 1) ∧ (iR r4 → SR s4 → Q (.inl (some (vi r4))) s4)))))) : Wb g ad d mX10_unfoldWay Q 0 [some (.ref (ad 0)), some (vi x1)] [] σ rc rs := by
  refine sb_aload_n (pc' := 1) rfl rfl dX10_unfoldWay_0 ?_
  obtain ⟨d1, hd1, H⟩ := H
  refine sb_callV (pc' := 4) rfl rfl (rc := rc) (rs := rs) (mc' := 0) (ms' := 0) (As := []) (st := []) of_0 rfl rfl (Nat.le_of_ble_eq_true rfl) hd1 kX10_prepareOptions ⟨wd_708, wd_710, wd_1⟩ dX10_unfoldWay_1 (Eb.mono H ?_)
  rintro o s1 ⟨rfl, hs1, H⟩
  show Wb g ad d mX10_unfoldWay Q 4 [some (.ref (ad 0)), some (vi x1)] [] s1 rc rs
  refine sb_aload_n (pc' := 5) rfl rfl dX10_unfoldWay_4 ?_
  obtain ⟨d2, hd2, H⟩ := H
  refine sb_callV (pc' := 8) rfl rfl (rc := rc) (rs := rs) (mc' := 0) (ms' := 0) (As := []) (st := []) of_0 rfl rfl (Nat.le_of_ble_eq_true rfl) hd2 kX10_prepareWays ⟨wd_787, wd_789, wd_15⟩ dX10_unfoldWay_5 (Eb.mono H ?_)
  rintro o s2 ⟨rfl, hs2, H⟩
  show Wb g ad d mX10_unfoldWay Q 8 [some (.ref (ad 0)), some (vi x1)] [] s2 rc rs
  refine sb_aload_n (pc' := 9) rfl rfl dX10_unfoldWay_8 ?_
  refine sb_getC (pc' := 12) rfl fc_0_6 wd_648 dX10_unfoldWay_9 ?_
  refine sb_iload_n (pc' := 13) rfl rfl dX10_unfoldWay_12 ?_
  obtain ⟨d3, hd3, H⟩ := H
  refine sb_callVN (pc' := 16) rfl rfl (rc := rc) (rs := rs) (mc' := 0) (ms' := 0) (As := [(vi x1)]) (st := []) of_63 rfl rfl (Nat.le_of_ble_eq_true rfl) hd3 kX9_bring ⟨wd_870, wd_872, wd_31⟩ dX10_unfoldWay_13 (Eb.mono H ?_)
  rintro o s3 ⟨rfl, hs3, H⟩
  show Wb g ad d mX10_unfoldWay Q 16 [some (.ref (ad 0)), some (vi x1)] [] s3 rc rs
  refine sb_aload_n (pc' := 17) rfl rfl dX10_unfoldWay_16 ?_
  refine sb_getC (pc' := 20) rfl fc_0_6 wd_648 dX10_unfoldWay_17 ?_
  refine sb_iload_n (pc' := 21) rfl rfl dX10_unfoldWay_20 ?_
  obtain ⟨d4, hd4, H⟩ := H
  refine sb_callVN (pc' := 24) rfl rfl (rc := rc) (rs := rs) (mc' := 0) (ms' := 0) (As := [(vi x1)]) (st := []) of_63 rfl rfl (Nat.le_of_ble_eq_true rfl) hd4 kX9_unfold ⟨wd_892, wd_894, wd_34⟩ dX10_unfoldWay_21 (Eb.mono H ?_)
  rintro o s4 ⟨r4, rfl, hr4, hs4, H⟩
  show Wb g ad d mX10_unfoldWay Q 24 [some (.ref (ad 0)), some (vi x1)] [(vi r4)] s4 rc rs
  obtain ⟨o5, H⟩ := H
  exact sb_iret rfl (nar_z2 o5) dX10_unfoldWay_24 (H hr4 hs4)
theorem bX10_reckonOtherwise_0 {g : AG} {ad : Nat → Nat} {d : Nat} {Q : AO → SG → Prop} {rc rs : Nat} {σ : SG} {x1 x2 x3 : Int}  (hx1 : iR x1) (hx2 : iR x2) (hx3 : iR x3) (hS : SR σ) (H : Cl g ad d mX1_reckon 0 0 [(.ref (ad 58)), (vi x1), (vi x2), (vi x3)] (setS σ 0 13 0) (Kv fun s1 => Cl g ad d mX1_cheapest 0 0 [(.ref (ad 58))] s1 (Ki fun r2 s2 => (iR r2 → SR s2 → Q (.inl (some (vi r2))) s2)))) : Wb g ad d mX10_reckonOtherwise Q 0 [some (.ref (ad 0)), some (vi x1), some (vi x2), some (vi x3)] [] σ rc rs := by
  refine sb_aload_n (pc' := 1) rfl rfl dX10_reckonOtherwise_0 ?_
  refine sb_iconst (pc' := 2) rfl dX10_reckonOtherwise_1 ?_
  refine sb_putI (pc' := 5) rfl fi_0_13 (Or.inr (Or.inl rfl)) wd_655 dX10_reckonOtherwise_2 ?_
  refine sb_aload_n (pc' := 6) rfl rfl dX10_reckonOtherwise_5 ?_
  refine sb_getC (pc' := 9) rfl fc_0_5 wd_647 dX10_reckonOtherwise_6 ?_
  refine sb_iload_n (pc' := 10) rfl rfl dX10_reckonOtherwise_9 ?_
  refine sb_iload_n (pc' := 11) rfl rfl dX10_reckonOtherwise_10 ?_
  refine sb_iload_n (pc' := 12) rfl rfl dX10_reckonOtherwise_11 ?_
  obtain ⟨d1, hd1, H⟩ := H
  refine sb_callVN (pc' := 15) rfl rfl (rc := rc) (rs := rs) (mc' := 0) (ms' := 0) (As := [(vi x1), (vi x2), (vi x3)]) (st := []) of_58 rfl rfl (Nat.le_of_ble_eq_true rfl) hd1 kX1_reckon ⟨wd_791, wd_793, wd_16⟩ dX10_reckonOtherwise_12 (Eb.mono H ?_)
  rintro o s1 ⟨rfl, hs1, H⟩
  show Wb g ad d mX10_reckonOtherwise Q 15 [some (.ref (ad 0)), some (vi x1), some (vi x2), some (vi x3)] [] s1 rc rs
  refine sb_aload_n (pc' := 16) rfl rfl dX10_reckonOtherwise_15 ?_
  refine sb_getC (pc' := 19) rfl fc_0_5 wd_647 dX10_reckonOtherwise_16 ?_
  obtain ⟨d2, hd2, H⟩ := H
  refine sb_callVN (pc' := 22) rfl rfl (rc := rc) (rs := rs) (mc' := 0) (ms' := 0) (As := []) (st := []) of_58 rfl rfl (Nat.le_of_ble_eq_true rfl) hd2 kX1_cheapest ⟨wd_844, wd_838, wd_26⟩ dX10_reckonOtherwise_19 (Eb.mono H ?_)
  rintro o s2 ⟨r2, rfl, hr2, hs2, H⟩
  show Wb g ad d mX10_reckonOtherwise Q 22 [some (.ref (ad 0)), some (vi x1), some (vi x2), some (vi x3)] [(vi r2)] s2 rc rs
  exact sb_iret rfl rfl dX10_reckonOtherwise_22 (H hr2 hs2)
theorem bX10_phrasesUnfolded_0 {g : AG} {ad : Nat → Nat} {d : Nat} {Q : AO → SG → Prop} {rc rs : Nat} {σ : SG}    (hS : SR σ) (H : (iR 0 → iR 0 → SR σ → Wb g ad d mX10_phrasesUnfolded Q 4 [some (.ref (ad 0)), some (vi 0), some (vi 0), none] [] σ rc rs)) : Wb g ad d mX10_phrasesUnfolded Q 0 [some (.ref (ad 0)), none, none, none] [] σ rc rs := by
  refine sb_iconst (pc' := 1) rfl dX10_phrasesUnfolded_0 ?_
  refine sb_istore_n (pc' := 2) rfl (L' := [some (.ref (ad 0)), some (vi 0), none, none]) rfl (by decide) dX10_phrasesUnfolded_1 ?_
  refine sb_iconst (pc' := 3) rfl dX10_phrasesUnfolded_2 ?_
  refine sb_istore_n (pc' := 4) rfl (L' := [some (.ref (ad 0)), some (vi 0), some (vi 0), none]) rfl (by decide) dX10_phrasesUnfolded_3 ?_
  exact (H (iR_lit rfl) (iR_lit rfl) hS)
theorem bX10_phrasesUnfolded_4 {g : AG} {ad : Nat → Nat} {d : Nat} {Q : AO → SG → Prop} {rc rs : Nat} {σ : SG} {x1 x2 : Int}  (hx1 : iR x1) (hx2 : iR x2) (hS : SR σ) (H : (((sc σ 63 11) ≤ x2 → (iR x1 → SR σ → Q (.inl (some (vi x1))) σ)) ∧ (¬ (sc σ 63 11) ≤ x2 → (0 ≤ x2 ∧ x2 < 6) ∧ (0 ≤ ia σ 69 x2 ∧ ia σ 69 x2 < 186) ∧ (((ia σ 52 (ia σ 69 x2)) = 99 → iR (x2 + 1) ∧ (iR x1 → iR (x2 + 1) → SR σ → Wb g ad d mX10_phrasesUnfolded Q 4 [some (.ref (ad 0)), some (vi x1), some (vi (x2 + 1)), none] [] σ rc rs)) ∧ (¬ (ia σ 52 (ia σ 69 x2)) = 99 → iR (x2 + 1) ∧ (iR (bOr x1 (bShl 1 (ia σ 52 (ia σ 69 x2)))) → iR (x2 + 1) → SR σ → Wb g ad d mX10_phrasesUnfolded Q 4 [some (.ref (ad 0)), some (vi (bOr x1 (bShl 1 (ia σ 52 (ia σ 69 x2))))), some (vi (x2 + 1)), none] [] σ rc rs)))))) : Wb g ad d mX10_phrasesUnfolded Q 4 [some (.ref (ad 0)), some (vi x1), some (vi x2), none] [] σ rc rs := by
  refine sb_iload_n (pc' := 5) rfl rfl dX10_phrasesUnfolded_4 ?_
  refine sb_aload_n (pc' := 6) rfl rfl dX10_phrasesUnfolded_5 ?_
  refine sb_getC (pc' := 9) rfl fc_0_6 wd_648 dX10_phrasesUnfolded_6 ?_
  refine sb_getIN (pc' := 12) rfl fi_63_11 wd_483 dX10_phrasesUnfolded_9 ?_
  refine sb_icmp_ge (pc' := 15) (tgt := 51) rfl (by decide) hx2 (SR_sc hS _ _) dX10_phrasesUnfolded_12 ?_ ?_
  · intro cc; have H := H.1 cc
    refine sb_iload_n (pc' := 52) rfl rfl dX10_phrasesUnfolded_51 ?_
    exact sb_iret rfl rfl dX10_phrasesUnfolded_52 (H hx1 hS)
  · intro cc; have H := H.2 cc
    refine sb_aload_n (pc' := 16) rfl rfl dX10_phrasesUnfolded_15 ?_
    refine sb_getC (pc' := 19) rfl fc_0_4 wd_646 dX10_phrasesUnfolded_16 ?_
    refine sb_getCN (pc' := 22) rfl fc_48_3 wd_375 dX10_phrasesUnfolded_19 ?_
    refine sb_aload_n (pc' := 23) rfl rfl dX10_phrasesUnfolded_22 ?_
    refine sb_getC (pc' := 26) rfl fc_0_6 wd_648 dX10_phrasesUnfolded_23 ?_
    refine sb_getCN (pc' := 29) rfl fc_63_9 wd_479 dX10_phrasesUnfolded_26 ?_
    refine sb_iload_n (pc' := 30) rfl rfl dX10_phrasesUnfolded_29 ?_
    obtain ⟨o1, H⟩ := H
    refine sb_iald (pc' := 31) rfl aI_69 o1.1 o1.2 dX10_phrasesUnfolded_30 ?_
    obtain ⟨o2, H⟩ := H
    refine sb_iald (pc' := 32) rfl aI_52 o2.1 o2.2 dX10_phrasesUnfolded_31 ?_
    refine sb_istore_n (pc' := 33) rfl (L' := [some (.ref (ad 0)), some (vi x1), some (vi x2), some (vi (ia σ 52 (ia σ 69 x2)))]) rfl (by decide) dX10_phrasesUnfolded_32 ?_
    refine sb_iload_n (pc' := 34) rfl rfl dX10_phrasesUnfolded_33 ?_
    refine sb_bipush (pc' := 36) rfl (z := 99) (by decide) dX10_phrasesUnfolded_34 ?_
    refine sb_icmp_eq (pc' := 39) (tgt := 45) rfl (by decide) (SR_ia hS _ _) (iR_lit rfl) dX10_phrasesUnfolded_36 ?_ ?_
    · intro cc; have H := H.1 cc
      refine sb_iinc (pc' := 48) rfl rfl (L' := [some (.ref (ad 0)), some (vi x1), some (vi (x2 + 1)), some (vi (ia σ 52 (ia σ 69 x2)))]) rfl (by decide) dX10_phrasesUnfolded_45 ?_
      refine sb_goto (tgt := 4) (by decide) dX10_phrasesUnfolded_48 ?_
      obtain ⟨o3, H⟩ := H
      refine Wb.forget [true, true, true, false] ?_
      exact (H hx1 o3 hS)
    · intro cc; have H := H.2 cc
      refine sb_iload_n (pc' := 40) rfl rfl dX10_phrasesUnfolded_39 ?_
      refine sb_iconst (pc' := 41) rfl dX10_phrasesUnfolded_40 ?_
      refine sb_iload_n (pc' := 42) rfl rfl dX10_phrasesUnfolded_41 ?_
      refine sb_ishl (pc' := 43) rfl dX10_phrasesUnfolded_42 ?_
      refine sb_ior (pc' := 44) rfl dX10_phrasesUnfolded_43 ?_
      refine sb_istore_n (pc' := 45) rfl (L' := [some (.ref (ad 0)), some (vi (bOr x1 (bShl 1 (ia σ 52 (ia σ 69 x2))))), some (vi x2), some (vi (ia σ 52 (ia σ 69 x2)))]) rfl (by decide) dX10_phrasesUnfolded_44 ?_
      refine sb_iinc (pc' := 48) rfl rfl (L' := [some (.ref (ad 0)), some (vi (bOr x1 (bShl 1 (ia σ 52 (ia σ 69 x2))))), some (vi (x2 + 1)), some (vi (ia σ 52 (ia σ 69 x2)))]) rfl (by decide) dX10_phrasesUnfolded_45 ?_
      refine sb_goto (tgt := 4) (by decide) dX10_phrasesUnfolded_48 ?_
      obtain ⟨o4, H⟩ := H
      refine Wb.forget [true, true, true, false] ?_
      exact (H (iR_b _) o4 hS)
theorem bX10_worthOf_0 {g : AG} {ad : Nat → Nat} {d : Nat} {Q : AO → SG → Prop} {rc rs : Nat} {σ : SG} {x1 : Int}  (hx1 : iR x1) (hS : SR σ) (H : Cl g ad d mX10_phrasesUnfolded 0 0 [(.ref (ad 0))] σ (Ki fun r1 s1 => ((¬ (bAnd (bShr r1 x1) 1) = 0 → Cl g ad d mX1_cheapest 0 0 [(.ref (ad 58))] s1 (Ki fun r2 s2 => isK (rv s2 0 1) ∧ Cl g ad d mX10_reckonOtherwise 0 0 [(.ref (ad 0)), (vi (ia s2 (rv s2 0 1 + 11) 2)), (vi (ia s2 (rv s2 0 1 + 11) 3)), (vi x1)] s2 (Ki fun r4 s4 => iR (r4 - r2) ∧ (iR (r4 - r2) → SR s4 → Q (.inl (some (vi (r4 - r2)))) s4)))) ∧ ((bAnd (bShr r1 x1) 1) = 0 → (iR 0 → SR s1 → Q (.inl (some (vi 0))) s1))))) : Wb g ad d mX10_worthOf Q 0 [some (.ref (ad 0)), some (vi x1), none] [] σ rc rs := by
  refine sb_aload_n (pc' := 1) rfl rfl dX10_worthOf_0 ?_
  obtain ⟨d1, hd1, H⟩ := H
  refine sb_callV (pc' := 4) rfl rfl (rc := rc) (rs := rs) (mc' := 0) (ms' := 0) (As := []) (st := []) of_0 rfl rfl (Nat.le_of_ble_eq_true rfl) hd1 kX10_phrasesUnfolded ⟨wd_900, wd_902, wd_35⟩ dX10_worthOf_1 (Eb.mono H ?_)
  rintro o s1 ⟨r1, rfl, hr1, hs1, H⟩
  show Wb g ad d mX10_worthOf Q 4 [some (.ref (ad 0)), some (vi x1), none] [(vi r1)] s1 rc rs
  refine sb_iload_n (pc' := 5) rfl rfl dX10_worthOf_4 ?_
  refine sb_ishr (pc' := 6) rfl dX10_worthOf_5 ?_
  refine sb_iconst (pc' := 7) rfl dX10_worthOf_6 ?_
  refine sb_iand (pc' := 8) rfl dX10_worthOf_7 ?_
  refine sb_if_ne (pc' := 11) (tgt := 13) rfl (by decide) (iR_b _) dX10_worthOf_8 ?_ ?_
  · intro cc; have H := H.1 cc
    refine sb_aload_n (pc' := 14) rfl rfl dX10_worthOf_13 ?_
    refine sb_getC (pc' := 17) rfl fc_0_5 wd_647 dX10_worthOf_14 ?_
    obtain ⟨d2, hd2, H⟩ := H
    refine sb_callVN (pc' := 20) rfl rfl (rc := rc) (rs := rs) (mc' := 0) (ms' := 0) (As := []) (st := []) of_58 rfl rfl (Nat.le_of_ble_eq_true rfl) hd2 kX1_cheapest ⟨wd_844, wd_838, wd_26⟩ dX10_worthOf_17 (Eb.mono H ?_)
    rintro o s2 ⟨r2, rfl, hr2, hs2, H⟩
    show Wb g ad d mX10_worthOf Q 20 [some (.ref (ad 0)), some (vi x1), none] [(vi r2)] s2 rc rs
    refine sb_istore_n (pc' := 21) rfl (L' := [some (.ref (ad 0)), some (vi x1), some (vi r2)]) rfl (by decide) dX10_worthOf_20 ?_
    refine sb_aload_n (pc' := 22) rfl rfl dX10_worthOf_21 ?_
    refine sb_aload_n (pc' := 23) rfl rfl dX10_worthOf_22 ?_
    obtain ⟨o3, H⟩ := H
    refine sb_getR (pc' := 26) rfl fr_0_1 wd_643 dX10_worthOf_23 ?_
    refine sb_getCN (pc' := 29) rfl (fcK_14 o3) wd_241 dX10_worthOf_26 ?_
    refine sb_iconst (pc' := 30) rfl dX10_worthOf_29 ?_
    refine sb_iald (pc' := 31) rfl (aIK_11 o3) (by decide) (by decide) dX10_worthOf_30 ?_
    refine sb_aload_n (pc' := 32) rfl rfl dX10_worthOf_31 ?_
    refine sb_getR (pc' := 35) rfl fr_0_1 wd_643 dX10_worthOf_32 ?_
    refine sb_getCN (pc' := 38) rfl (fcK_14 o3) wd_241 dX10_worthOf_35 ?_
    refine sb_iconst (pc' := 39) rfl dX10_worthOf_38 ?_
    refine sb_iald (pc' := 40) rfl (aIK_11 o3) (by decide) (by decide) dX10_worthOf_39 ?_
    refine sb_iload_n (pc' := 41) rfl rfl dX10_worthOf_40 ?_
    obtain ⟨d4, hd4, H⟩ := H
    refine sb_callV (pc' := 44) rfl rfl (rc := rc) (rs := rs) (mc' := 0) (ms' := 0) (As := [(vi (ia s2 (rv s2 0 1 + 11) 2)), (vi (ia s2 (rv s2 0 1 + 11) 3)), (vi x1)]) (st := []) of_0 rfl rfl (Nat.le_of_ble_eq_true rfl) hd4 kX10_reckonOtherwise ⟨wd_904, wd_906, wd_36⟩ dX10_worthOf_41 (Eb.mono H ?_)
    rintro o s4 ⟨r4, rfl, hr4, hs4, H⟩
    show Wb g ad d mX10_worthOf Q 44 [some (.ref (ad 0)), some (vi x1), some (vi r2)] [(vi r4)] s4 rc rs
    refine sb_iload_n (pc' := 45) rfl rfl dX10_worthOf_44 ?_
    refine sb_isub (pc' := 46) rfl dX10_worthOf_45 ?_
    obtain ⟨o5, H⟩ := H
    exact sb_iret rfl rfl dX10_worthOf_46 (H o5 hs4)
  · intro cc; have H := H.2 cc
    refine sb_iconst (pc' := 12) rfl dX10_worthOf_11 ?_
    exact sb_iret rfl rfl dX10_worthOf_12 (H (iR_lit rfl) hs1)
end BL

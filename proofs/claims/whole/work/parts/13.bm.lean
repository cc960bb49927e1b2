section BL
theorem bX11_thrown_0 {g : AG} {ad : Nat → Nat} {d : Nat} {Q : AO → SG → Prop} {rc rs : Nat} {σ : SG}    (hS : SR σ) (H : (iR (sc σ 102 0) → SR σ → Q (.inl (some (vi (sc σ 102 0)))) σ)) : Wb g ad d mX11_thrown Q 0 [some (.ref (ad 102))] [] σ rc rs := by
  refine sb_aload_n (pc' := 1) rfl rfl dX11_thrown_0 ?_
  refine sb_getI (pc' := 4) rfl fi_102_0 wd_1550 dX11_thrown_1 ?_
  exact sb_iret rfl rfl dX11_thrown_4 (H (SR_sc hS _ _) hS)
theorem bX11_isIn_0 {g : AG} {ad : Nat → Nat} {d : Nat} {Q : AO → SG → Prop} {rc rs : Nat} {σ : SG} {x0 x1 x2 : Int}  (hx0 : iR x0) (hx1 : iR x1) (hx2 : iR x2) (hS : SR σ) (H : ((x0 < x1 → (iR 0 → SR σ → Q (.inl (some (vi 0))) σ)) ∧ (¬ x0 < x1 → ((x2 < x0 → (iR 0 → SR σ → Q (.inl (some (vi 0))) σ)) ∧ (¬ x2 < x0 → (iR 1 → SR σ → Q (.inl (some (vi 1))) σ)))))) : Wb g ad d mX11_isIn Q 0 [some (vi x0), some (vi x1), some (vi x2)] [] σ rc rs := by
  refine sb_iload_n (pc' := 1) rfl rfl dX11_isIn_0 ?_
  refine sb_iload_n (pc' := 2) rfl rfl dX11_isIn_1 ?_
  refine sb_icmp_lt (pc' := 5) (tgt := 14) rfl (by decide) hx0 hx1 dX11_isIn_2 ?_ ?_
  · intro cc; have H := H.1 cc
    refine sb_iconst (pc' := 15) rfl dX11_isIn_14 ?_
    exact sb_iret rfl (nar_z2 (Or.inl rfl)) dX11_isIn_15 (H (iR_lit rfl) hS)
  · intro cc; have H := H.2 cc
    refine sb_iload_n (pc' := 6) rfl rfl dX11_isIn_5 ?_
    refine sb_iload_n (pc' := 7) rfl rfl dX11_isIn_6 ?_
    refine sb_icmp_gt (pc' := 10) (tgt := 14) rfl (by decide) hx0 hx2 dX11_isIn_7 ?_ ?_
    · intro cc; have H := H.1 cc
      refine sb_iconst (pc' := 15) rfl dX11_isIn_14 ?_
      exact sb_iret rfl (nar_z2 (Or.inl rfl)) dX11_isIn_15 (H (iR_lit rfl) hS)
    · intro cc; have H := H.2 cc
      refine sb_iconst (pc' := 11) rfl dX11_isIn_10 ?_
      refine sb_goto (tgt := 15) (by decide) dX11_isIn_11 ?_
      exact sb_iret rfl (nar_z2 (Or.inr rfl)) dX11_isIn_15 (H (iR_lit rfl) hS)
theorem bX11_lesser_0 {g : AG} {ad : Nat → Nat} {d : Nat} {Q : AO → SG → Prop} {rc rs : Nat} {σ : SG} {x0 x1 : Int}  (hx0 : iR x0) (hx1 : iR x1) (hS : SR σ) (H : ((x1 ≤ x0 → (iR x1 → SR σ → Q (.inl (some (vi x1))) σ)) ∧ (¬ x1 ≤ x0 → (iR x0 → SR σ → Q (.inl (some (vi x0))) σ)))) : Wb g ad d mX11_lesser Q 0 [some (vi x0), some (vi x1)] [] σ rc rs := by
  refine sb_iload_n (pc' := 1) rfl rfl dX11_lesser_0 ?_
  refine sb_iload_n (pc' := 2) rfl rfl dX11_lesser_1 ?_
  refine sb_icmp_ge (pc' := 5) (tgt := 9) rfl (by decide) hx0 hx1 dX11_lesser_2 ?_ ?_
  · intro cc; have H := H.1 cc
    refine sb_iload_n (pc' := 10) rfl rfl dX11_lesser_9 ?_
    exact sb_iret rfl rfl dX11_lesser_10 (H hx1 hS)
  · intro cc; have H := H.2 cc
    refine sb_iload_n (pc' := 6) rfl rfl dX11_lesser_5 ?_
    refine sb_goto (tgt := 10) (by decide) dX11_lesser_6 ?_
    exact sb_iret rfl rfl dX11_lesser_10 (H hx0 hS)
theorem bX11_apartBy_0 {g : AG} {ad : Nat → Nat} {d : Nat} {Q : AO → SG → Prop} {rc rs : Nat} {σ : SG} {x0 x1 : Int}  (hx0 : iR x0) (hx1 : iR x1) (hS : SR σ) (H : ((x1 ≤ x0 → iR (x0 - x1) ∧ (iR (x0 - x1) → SR σ → Q (.inl (some (vi (x0 - x1)))) σ)) ∧ (¬ x1 ≤ x0 → iR (x1 - x0) ∧ (iR (x1 - x0) → SR σ → Q (.inl (some (vi (x1 - x0)))) σ)))) : Wb g ad d mX11_apartBy Q 0 [some (vi x0), some (vi x1)] [] σ rc rs := by
  refine sb_iload_n (pc' := 1) rfl rfl dX11_apartBy_0 ?_
  refine sb_iload_n (pc' := 2) rfl rfl dX11_apartBy_1 ?_
  refine sb_icmp_ge (pc' := 5) (tgt := 11) rfl (by decide) hx0 hx1 dX11_apartBy_2 ?_ ?_
  · intro cc; have H := H.1 cc
    refine sb_iload_n (pc' := 12) rfl rfl dX11_apartBy_11 ?_
    refine sb_iload_n (pc' := 13) rfl rfl dX11_apartBy_12 ?_
    refine sb_isub (pc' := 14) rfl dX11_apartBy_13 ?_
    obtain ⟨o1, H⟩ := H
    exact sb_iret rfl rfl dX11_apartBy_14 (H o1 hS)
  · intro cc; have H := H.2 cc
    refine sb_iload_n (pc' := 6) rfl rfl dX11_apartBy_5 ?_
    refine sb_iload_n (pc' := 7) rfl rfl dX11_apartBy_6 ?_
    refine sb_isub (pc' := 8) rfl dX11_apartBy_7 ?_
    refine sb_goto (tgt := 14) (by decide) dX11_apartBy_8 ?_
    obtain ⟨o2, H⟩ := H
    exact sb_iret rfl rfl dX11_apartBy_14 (H o2 hS)
theorem bX11_isOf_0 {g : AG} {ad : Nat → Nat} {d : Nat} {Q : AO → SG → Prop} {rc rs : Nat} {σ : SG} {x0 x1 : Int}  (hx0 : iR x0) (hx1 : iR x1) (hS : SR σ) (H : ((¬ (bAnd (bShr x0 x1) 1) = 1 → (iR 0 → SR σ → Q (.inl (some (vi 0))) σ)) ∧ ((bAnd (bShr x0 x1) 1) = 1 → (iR 1 → SR σ → Q (.inl (some (vi 1))) σ)))) : Wb g ad d mX11_isOf Q 0 [some (vi x0), some (vi x1)] [] σ rc rs := by
  refine sb_iload_n (pc' := 1) rfl rfl dX11_isOf_0 ?_
  refine sb_iload_n (pc' := 2) rfl rfl dX11_isOf_1 ?_
  refine sb_ishr (pc' := 3) rfl dX11_isOf_2 ?_
  refine sb_iconst (pc' := 4) rfl dX11_isOf_3 ?_
  refine sb_iand (pc' := 5) rfl dX11_isOf_4 ?_
  refine sb_iconst (pc' := 6) rfl dX11_isOf_5 ?_
  refine sb_icmp_ne (pc' := 9) (tgt := 13) rfl (by decide) (iR_b _) (iR_lit rfl) dX11_isOf_6 ?_ ?_
  · intro cc; have H := H.1 cc
    refine sb_iconst (pc' := 14) rfl dX11_isOf_13 ?_
    exact sb_iret rfl (nar_z2 (Or.inl rfl)) dX11_isOf_14 (H (iR_lit rfl) hS)
  · intro cc; have H := H.2 cc
    refine sb_iconst (pc' := 10) rfl dX11_isOf_9 ?_
    refine sb_goto (tgt := 14) (by decide) dX11_isOf_10 ?_
    exact sb_iret rfl (nar_z2 (Or.inr rfl)) dX11_isOf_14 (H (iR_lit rfl) hS)
theorem bX11_bits_0 {g : AG} {ad : Nat → Nat} {d : Nat} {Q : AO → SG → Prop} {rc rs : Nat} {σ : SG} {x0 : Int}  (hx0 : iR x0) (hS : SR σ) (H : (iR x0 → iR 0 → iR 0 → SR σ → Wb g ad d mX11_bits Q 4 [some (vi x0), some (vi 0), some (vi 0)] [] σ rc rs)) : Wb g ad d mX11_bits Q 0 [some (vi x0), none, none] [] σ rc rs := by
  refine sb_iconst (pc' := 1) rfl dX11_bits_0 ?_
  refine sb_istore_n (pc' := 2) rfl (L' := [some (vi x0), some (vi 0), none]) rfl (by decide) dX11_bits_1 ?_
  refine sb_iconst (pc' := 3) rfl dX11_bits_2 ?_
  refine sb_istore_n (pc' := 4) rfl (L' := [some (vi x0), some (vi 0), some (vi 0)]) rfl (by decide) dX11_bits_3 ?_
  exact (H hx0 (iR_lit rfl) (iR_lit rfl) hS)
theorem bX11_bits_4 {g : AG} {ad : Nat → Nat} {d : Nat} {Q : AO → SG → Prop} {rc rs : Nat} {σ : SG} {x0 x1 x2 : Int}  (hx0 : iR x0) (hx1 : iR x1) (hx2 : iR x2) (hS : SR σ) (H : ((6 ≤ x2 → (iR x1 → SR σ → Q (.inl (some (vi x1))) σ)) ∧ (¬ 6 ≤ x2 → iR (x1 + (bAnd (bShr x0 x2) 1)) ∧ iR (x2 + 1) ∧ (iR x0 → iR (x1 + (bAnd (bShr x0 x2) 1)) → iR (x2 + 1) → SR σ → Wb g ad d mX11_bits Q 4 [some (vi x0), some (vi (x1 + (bAnd (bShr x0 x2) 1))), some (vi (x2 + 1))] [] σ rc rs)))) : Wb g ad d mX11_bits Q 4 [some (vi x0), some (vi x1), some (vi x2)] [] σ rc rs := by
  refine sb_iload_n (pc' := 5) rfl rfl dX11_bits_4 ?_
  refine sb_bipush (pc' := 7) rfl (z := 6) (by decide) dX11_bits_5 ?_
  refine sb_icmp_ge (pc' := 10) (tgt := 24) rfl (by decide) hx2 (iR_lit rfl) dX11_bits_7 ?_ ?_
  · intro cc; have H := H.1 cc
    refine sb_iload_n (pc' := 25) rfl rfl dX11_bits_24 ?_
    exact sb_iret rfl rfl dX11_bits_25 (H hx1 hS)
  · intro cc; have H := H.2 cc
    refine sb_iload_n (pc' := 11) rfl rfl dX11_bits_10 ?_
    refine sb_iload_n (pc' := 12) rfl rfl dX11_bits_11 ?_
    refine sb_iload_n (pc' := 13) rfl rfl dX11_bits_12 ?_
    refine sb_ishr (pc' := 14) rfl dX11_bits_13 ?_
    refine sb_iconst (pc' := 15) rfl dX11_bits_14 ?_
    refine sb_iand (pc' := 16) rfl dX11_bits_15 ?_
    refine sb_iadd (pc' := 17) rfl dX11_bits_16 ?_
    refine sb_istore_n (pc' := 18) rfl (L' := [some (vi x0), some (vi (x1 + (bAnd (bShr x0 x2) 1))), some (vi x2)]) rfl (by decide) dX11_bits_17 ?_
    refine sb_iinc (pc' := 21) rfl rfl (L' := [some (vi x0), some (vi (x1 + (bAnd (bShr x0 x2) 1))), some (vi (x2 + 1))]) rfl (by decide) dX11_bits_18 ?_
    refine sb_goto (tgt := 4) (by decide) dX11_bits_21 ?_
    obtain ⟨o1, H⟩ := H
    obtain ⟨o2, H⟩ := H
    exact (H hx0 o1 o2 hS)
theorem bX11_of_0 {g : AG} {ad : Nat → Nat} {d : Nat} {Q : AO → SG → Prop} {rc rs : Nat} {σ : SG} {x1 x2 : Int}  (hx1 : iR x1) (hx2 : iR x2) (hS : SR σ) (H : (0 ≤ (369 + (10 * x1)) + x2 ∧ (369 + (10 * x1)) + x2 < 855) ∧ (iR (ia σ 103 ((369 + (10 * x1)) + x2)) → SR σ → Q (.inl (some (vi (ia σ 103 ((369 + (10 * x1)) + x2))))) σ)) : Wb g ad d mX11_of Q 0 [some (.ref (ad 102)), some (vi x1), some (vi x2)] [] σ rc rs := by
  refine sb_aload_n (pc' := 1) rfl rfl dX11_of_0 ?_
  refine sb_getC (pc' := 4) rfl fc_102_1 wd_1551 dX11_of_1 ?_
  refine sb_sipush (pc' := 7) rfl (z := 369) (by decide) dX11_of_4 ?_
  refine sb_bipush (pc' := 9) rfl (z := 10) (by decide) dX11_of_7 ?_
  refine sb_iload_n (pc' := 10) rfl rfl dX11_of_9 ?_
  refine sb_imul (pc' := 11) rfl dX11_of_10 ?_
  refine sb_iadd (pc' := 12) rfl dX11_of_11 ?_
  refine sb_iload_n (pc' := 13) rfl rfl dX11_of_12 ?_
  refine sb_iadd (pc' := 14) rfl dX11_of_13 ?_
  obtain ⟨o1, H⟩ := H
  refine sb_iald (pc' := 15) rfl aI_103 o1.1 o1.2 dX11_of_14 ?_
  exact sb_iret rfl rfl dX11_of_15 (H (SR_ia hS _ _) hS)
theorem bX11_isWord_0 {g : AG} {ad : Nat → Nat} {d : Nat} {Q : AO → SG → Prop} {rc rs : Nat} {σ : SG} {x1 : Int}  (hx1 : iR x1) (hS : SR σ) (H : Cl g ad d mX11_isIn 0 0 [(vi x1), (vi 0), (vi ((ia σ 103 0) - 1))] σ (Ki fun r1 s1 => (r1 = 0 ∨ r1 = 1) ∧ (iR r1 → SR s1 → Q (.inl (some (vi r1))) s1))) : Wb g ad d mX11_isWord Q 0 [some (.ref (ad 102)), some (vi x1)] [] σ rc rs := by
  refine sb_iload_n (pc' := 1) rfl rfl dX11_isWord_0 ?_
  refine sb_iconst (pc' := 2) rfl dX11_isWord_1 ?_
  refine sb_aload_n (pc' := 3) rfl rfl dX11_isWord_2 ?_
  refine sb_getC (pc' := 6) rfl fc_102_1 wd_1551 dX11_isWord_3 ?_
  refine sb_iconst (pc' := 7) rfl dX11_isWord_6 ?_
  refine sb_iald (pc' := 8) rfl aI_103 (by decide) (by decide) dX11_isWord_7 ?_
  refine sb_iconst (pc' := 9) rfl dX11_isWord_8 ?_
  refine sb_isub (pc' := 10) rfl dX11_isWord_9 ?_
  obtain ⟨d1, hd1, H⟩ := H
  refine sb_callS (pc' := 13) rfl rfl (rc := rc) (rs := rs) (mc' := 0) (ms' := 0) (As := [(vi x1), (vi 0), (vi ((ia σ 103 0) - 1))]) (st := [])  rfl rfl (Nat.le_of_ble_eq_true rfl) hd1 kX11_isIn ⟨wd_1719, wd_1720⟩ dX11_isWord_10 (Eb.mono H ?_)
  rintro o s1 ⟨r1, rfl, hr1, hs1, H⟩
  show Wb g ad d mX11_isWord Q 13 [some (.ref (ad 102)), some (vi x1)] [(vi r1)] s1 rc rs
  obtain ⟨o2, H⟩ := H
  exact sb_iret rfl (nar_z2 o2) dX11_isWord_13 (H hr1 hs1)
theorem bX11_isPhrase_0 {g : AG} {ad : Nat → Nat} {d : Nat} {Q : AO → SG → Prop} {rc rs : Nat} {σ : SG} {x1 : Int}  (hx1 : iR x1) (hS : SR σ) (H : Cl g ad d mX11_isIn 0 0 [(vi x1), (vi 0), (vi ((ia σ 103 1) - 1))] σ (Ki fun r1 s1 => (r1 = 0 ∨ r1 = 1) ∧ (iR r1 → SR s1 → Q (.inl (some (vi r1))) s1))) : Wb g ad d mX11_isPhrase Q 0 [some (.ref (ad 102)), some (vi x1)] [] σ rc rs := by
  refine sb_iload_n (pc' := 1) rfl rfl dX11_isPhrase_0 ?_
  refine sb_iconst (pc' := 2) rfl dX11_isPhrase_1 ?_
  refine sb_aload_n (pc' := 3) rfl rfl dX11_isPhrase_2 ?_
  refine sb_getC (pc' := 6) rfl fc_102_1 wd_1551 dX11_isPhrase_3 ?_
  refine sb_iconst (pc' := 7) rfl dX11_isPhrase_6 ?_
  refine sb_iald (pc' := 8) rfl aI_103 (by decide) (by decide) dX11_isPhrase_7 ?_
  refine sb_iconst (pc' := 9) rfl dX11_isPhrase_8 ?_
  refine sb_isub (pc' := 10) rfl dX11_isPhrase_9 ?_
  obtain ⟨d1, hd1, H⟩ := H
  refine sb_callS (pc' := 13) rfl rfl (rc := rc) (rs := rs) (mc' := 0) (ms' := 0) (As := [(vi x1), (vi 0), (vi ((ia σ 103 1) - 1))]) (st := [])  rfl rfl (Nat.le_of_ble_eq_true rfl) hd1 kX11_isIn ⟨wd_1719, wd_1720⟩ dX11_isPhrase_10 (Eb.mono H ?_)
  rintro o s1 ⟨r1, rfl, hr1, hs1, H⟩
  show Wb g ad d mX11_isPhrase Q 13 [some (.ref (ad 102)), some (vi x1)] [(vi r1)] s1 rc rs
  obtain ⟨o2, H⟩ := H
  exact sb_iret rfl (nar_z2 o2) dX11_isPhrase_13 (H hr1 hs1)
theorem bX11_isPlace_0 {g : AG} {ad : Nat → Nat} {d : Nat} {Q : AO → SG → Prop} {rc rs : Nat} {σ : SG} {x1 : Int}  (hx1 : iR x1) (hS : SR σ) (H : Cl g ad d mX11_isIn 0 0 [(vi x1), (vi 0), (vi ((ia σ 103 3) - 1))] σ (Ki fun r1 s1 => (r1 = 0 ∨ r1 = 1) ∧ (iR r1 → SR s1 → Q (.inl (some (vi r1))) s1))) : Wb g ad d mX11_isPlace Q 0 [some (.ref (ad 102)), some (vi x1)] [] σ rc rs := by
  refine sb_iload_n (pc' := 1) rfl rfl dX11_isPlace_0 ?_
  refine sb_iconst (pc' := 2) rfl dX11_isPlace_1 ?_
  refine sb_aload_n (pc' := 3) rfl rfl dX11_isPlace_2 ?_
  refine sb_getC (pc' := 6) rfl fc_102_1 wd_1551 dX11_isPlace_3 ?_
  refine sb_iconst (pc' := 7) rfl dX11_isPlace_6 ?_
  refine sb_iald (pc' := 8) rfl aI_103 (by decide) (by decide) dX11_isPlace_7 ?_
  refine sb_iconst (pc' := 9) rfl dX11_isPlace_8 ?_
  refine sb_isub (pc' := 10) rfl dX11_isPlace_9 ?_
  obtain ⟨d1, hd1, H⟩ := H
  refine sb_callS (pc' := 13) rfl rfl (rc := rc) (rs := rs) (mc' := 0) (ms' := 0) (As := [(vi x1), (vi 0), (vi ((ia σ 103 3) - 1))]) (st := [])  rfl rfl (Nat.le_of_ble_eq_true rfl) hd1 kX11_isIn ⟨wd_1719, wd_1720⟩ dX11_isPlace_10 (Eb.mono H ?_)
  rintro o s1 ⟨r1, rfl, hr1, hs1, H⟩
  show Wb g ad d mX11_isPlace Q 13 [some (.ref (ad 102)), some (vi x1)] [(vi r1)] s1 rc rs
  obtain ⟨o2, H⟩ := H
  exact sb_iret rfl (nar_z2 o2) dX11_isPlace_13 (H hr1 hs1)
theorem bX11_feed_0 {g : AG} {ad : Nat → Nat} {d : Nat} {Q : AO → SG → Prop} {rc rs : Nat} {σ : SG} {x1 x2 x3 x4 x5 : Int}  (hx1 : iR x1) (hx2 : iR x2) (hx3 : iR x3) (hx4 : iR x4) (hx5 : iR x5) (hS : SR σ) (H : (iR x1 → iR x2 → iR x3 → iR x4 → iR x5 → SR (setS σ 102 0 0) → Wb g ad d mX11_feed Q 5 [some (.ref (ad 102)), some (vi x1), some (vi x2), some (vi x3), some (vi x4), some (vi x5), none, none] [] (setS σ 102 0 0) rc rs)) : Wb g ad d mX11_feed Q 0 [some (.ref (ad 102)), some (vi x1), some (vi x2), some (vi x3), some (vi x4), some (vi x5), none, none] [] σ rc rs := by
  refine sb_aload_n (pc' := 1) rfl rfl dX11_feed_0 ?_
  refine sb_iconst (pc' := 2) rfl dX11_feed_1 ?_
  refine sb_putI (pc' := 5) rfl fi_102_0 (Or.inl rfl) wd_1550 dX11_feed_2 ?_
  exact (H hx1 hx2 hx3 hx4 hx5 (SR_setS hS (iR_lit rfl)))
theorem bX11_feed_5 {g : AG} {ad : Nat → Nat} {d : Nat} {Q : AO → SG → Prop} {rc rs : Nat} {σ : SG} {x1 x2 x3 x4 x5 : Int}  (hx1 : iR x1) (hx2 : iR x2) (hx3 : iR x3) (hx4 : iR x4) (hx5 : iR x5) (hS : SR σ) (H : iR ((sc σ 102 6) + 20) ∧ ((((sc σ 102 6) + 20) ≤ 400 → (iR x1 → iR x2 → iR x3 → iR x4 → iR x5 → iR 0 → SR σ → Wb g ad d mX11_feed Q 23 [some (.ref (ad 102)), some (vi x1), some (vi x2), some (vi x3), some (vi x4), some (vi x5), some (vi 0), none] [] σ rc rs)) ∧ (¬ ((sc σ 102 6) + 20) ≤ 400 → (iR ((-1)) → SR σ → Q (.inl (some (vi ((-1))))) σ)))) : Wb g ad d mX11_feed Q 5 [some (.ref (ad 102)), some (vi x1), some (vi x2), some (vi x3), some (vi x4), some (vi x5), none, none] [] σ rc rs := by
  refine sb_aload_n (pc' := 6) rfl rfl dX11_feed_5 ?_
  refine sb_getI (pc' := 9) rfl fi_102_6 wd_1556 dX11_feed_6 ?_
  refine sb_bipush (pc' := 11) rfl (z := 20) (by decide) dX11_feed_9 ?_
  refine sb_iadd (pc' := 12) rfl dX11_feed_11 ?_
  refine sb_sipush (pc' := 15) rfl (z := 400) (by decide) dX11_feed_12 ?_
  obtain ⟨o1, H⟩ := H
  refine sb_icmp_le (pc' := 18) (tgt := 20) rfl (by decide) o1 (iR_lit rfl) dX11_feed_15 ?_ ?_
  · intro cc; have H := H.1 cc
    refine sb_iconst (pc' := 21) rfl dX11_feed_20 ?_
    refine sb_istore (pc' := 23) rfl (L' := [some (.ref (ad 102)), some (vi x1), some (vi x2), some (vi x3), some (vi x4), some (vi x5), some (vi 0), none]) rfl (by decide) dX11_feed_21 ?_
    exact (H hx1 hx2 hx3 hx4 hx5 (iR_lit rfl) hS)
  · intro cc; have H := H.2 cc
    refine sb_iconst (pc' := 19) rfl dX11_feed_18 ?_
    exact sb_iret rfl rfl dX11_feed_19 (H (iR_lit rfl) hS)
theorem bX11_feed_23 {g : AG} {ad : Nat → Nat} {d : Nat} {Q : AO → SG → Prop} {rc rs : Nat} {σ : SG} {x1 x2 x3 x4 x5 x6 : Int}  (hx1 : iR x1) (hx2 : iR x2) (hx3 : iR x3) (hx4 : iR x4) (hx5 : iR x5) (hx6 : iR x6) (hS : SR σ) (H : ((20 ≤ x6 → (iR (sc σ 102 6) → SR σ → Q (.inl (some (vi (sc σ 102 6)))) σ)) ∧ (¬ 20 ≤ x6 → ((4 ≤ x6 → ((8 ≤ x6 → ((12 ≤ x6 → ((16 ≤ x6 → (0 ≤ sc σ 102 6 ∧ sc σ 102 6 < 400) ∧ iR ((sc (setI σ 106 (sc σ 102 6) (bAnd (bUshr x5 (24 - (8 * (bRem x6 4)))) 255)) 102 6) + 1) ∧ (iR x1 → iR x2 → iR x3 → iR x4 → iR x5 → iR x6 → iR x5 → SR (setS (setI σ 106 (sc σ 102 6) (bAnd (bUshr x5 (24 - (8 * (bRem x6 4)))) 255)) 102 6 ((sc (setI σ 106 (sc σ 102 6) (bAnd (bUshr x5 (24 - (8 * (bRem x6 4)))) 255)) 102 6) + 1)) → Wb g ad d mX11_feed Q 114 [some (.ref (ad 102)), some (vi x1), some (vi x2), some (vi x3), some (vi x4), some (vi x5), some (vi x6), some (vi x5)] [] (setS (setI σ 106 (sc σ 102 6) (bAnd (bUshr x5 (24 - (8 * (bRem x6 4)))) 255)) 102 6 ((sc (setI σ 106 (sc σ 102 6) (bAnd (bUshr x5 (24 - (8 * (bRem x6 4)))) 255)) 102 6) + 1)) rc rs)) ∧ (¬ 16 ≤ x6 → (0 ≤ sc σ 102 6 ∧ sc σ 102 6 < 400) ∧ iR ((sc (setI σ 106 (sc σ 102 6) (bAnd (bUshr x4 (24 - (8 * (bRem x6 4)))) 255)) 102 6) + 1) ∧ (iR x1 → iR x2 → iR x3 → iR x4 → iR x5 → iR x6 → iR x4 → SR (setS (setI σ 106 (sc σ 102 6) (bAnd (bUshr x4 (24 - (8 * (bRem x6 4)))) 255)) 102 6 ((sc (setI σ 106 (sc σ 102 6) (bAnd (bUshr x4 (24 - (8 * (bRem x6 4)))) 255)) 102 6) + 1)) → Wb g ad d mX11_feed Q 114 [some (.ref (ad 102)), some (vi x1), some (vi x2), some (vi x3), some (vi x4), some (vi x5), some (vi x6), some (vi x4)] [] (setS (setI σ 106 (sc σ 102 6) (bAnd (bUshr x4 (24 - (8 * (bRem x6 4)))) 255)) 102 6 ((sc (setI σ 106 (sc σ 102 6) (bAnd (bUshr x4 (24 - (8 * (bRem x6 4)))) 255)) 102 6) + 1)) rc rs)))) ∧ (¬ 12 ≤ x6 → (0 ≤ sc σ 102 6 ∧ sc σ 102 6 < 400) ∧ iR ((sc (setI σ 106 (sc σ 102 6) (bAnd (bUshr x3 (24 - (8 * (bRem x6 4)))) 255)) 102 6) + 1) ∧ (iR x1 → iR x2 → iR x3 → iR x4 → iR x5 → iR x6 → iR x3 → SR (setS (setI σ 106 (sc σ 102 6) (bAnd (bUshr x3 (24 - (8 * (bRem x6 4)))) 255)) 102 6 ((sc (setI σ 106 (sc σ 102 6) (bAnd (bUshr x3 (24 - (8 * (bRem x6 4)))) 255)) 102 6) + 1)) → Wb g ad d mX11_feed Q 114 [some (.ref (ad 102)), some (vi x1), some (vi x2), some (vi x3), some (vi x4), some (vi x5), some (vi x6), some (vi x3)] [] (setS (setI σ 106 (sc σ 102 6) (bAnd (bUshr x3 (24 - (8 * (bRem x6 4)))) 255)) 102 6 ((sc (setI σ 106 (sc σ 102 6) (bAnd (bUshr x3 (24 - (8 * (bRem x6 4)))) 255)) 102 6) + 1)) rc rs)))) ∧ (¬ 8 ≤ x6 → (0 ≤ sc σ 102 6 ∧ sc σ 102 6 < 400) ∧ iR ((sc (setI σ 106 (sc σ 102 6) (bAnd (bUshr x2 (24 - (8 * (bRem x6 4)))) 255)) 102 6) + 1) ∧ (iR x1 → iR x2 → iR x3 → iR x4 → iR x5 → iR x6 → iR x2 → SR (setS (setI σ 106 (sc σ 102 6) (bAnd (bUshr x2 (24 - (8 * (bRem x6 4)))) 255)) 102 6 ((sc (setI σ 106 (sc σ 102 6) (bAnd (bUshr x2 (24 - (8 * (bRem x6 4)))) 255)) 102 6) + 1)) → Wb g ad d mX11_feed Q 114 [some (.ref (ad 102)), some (vi x1), some (vi x2), some (vi x3), some (vi x4), some (vi x5), some (vi x6), some (vi x2)] [] (setS (setI σ 106 (sc σ 102 6) (bAnd (bUshr x2 (24 - (8 * (bRem x6 4)))) 255)) 102 6 ((sc (setI σ 106 (sc σ 102 6) (bAnd (bUshr x2 (24 - (8 * (bRem x6 4)))) 255)) 102 6) + 1)) rc rs)))) ∧ (¬ 4 ≤ x6 → (0 ≤ sc σ 102 6 ∧ sc σ 102 6 < 400) ∧ iR ((sc (setI σ 106 (sc σ 102 6) (bAnd (bUshr x1 (24 - (8 * (bRem x6 4)))) 255)) 102 6) + 1) ∧ (iR x1 → iR x2 → iR x3 → iR x4 → iR x5 → iR x6 → iR x1 → SR (setS (setI σ 106 (sc σ 102 6) (bAnd (bUshr x1 (24 - (8 * (bRem x6 4)))) 255)) 102 6 ((sc (setI σ 106 (sc σ 102 6) (bAnd (bUshr x1 (24 - (8 * (bRem x6 4)))) 255)) 102 6) + 1)) → Wb g ad d mX11_feed Q 114 [some (.ref (ad 102)), some (vi x1), some (vi x2), some (vi x3), some (vi x4), some (vi x5), some (vi x6), some (vi x1)] [] (setS (setI σ 106 (sc σ 102 6) (bAnd (bUshr x1 (24 - (8 * (bRem x6 4)))) 255)) 102 6 ((sc (setI σ 106 (sc σ 102 6) (bAnd (bUshr x1 (24 - (8 * (bRem x6 4)))) 255)) 102 6) + 1)) rc rs)))))) : Wb g ad d mX11_feed Q 23 [some (.ref (ad 102)), some (vi x1), some (vi x2), some (vi x3), some (vi x4), some (vi x5), some (vi x6), none] [] σ rc rs := by
  refine sb_iload (pc' := 25) rfl rfl dX11_feed_23 ?_
  refine sb_bipush (pc' := 27) rfl (z := 20) (by decide) dX11_feed_25 ?_
  refine sb_icmp_ge (pc' := 30) (tgt := 120) rfl (by decide) hx6 (iR_lit rfl) dX11_feed_27 ?_ ?_
  · intro cc; have H := H.1 cc
    refine sb_aload_n (pc' := 121) rfl rfl dX11_feed_120 ?_
    refine sb_getI (pc' := 124) rfl fi_102_6 wd_1556 dX11_feed_121 ?_
    exact sb_iret rfl rfl dX11_feed_124 (H (SR_sc hS _ _) hS)
  · intro cc; have H := H.2 cc
    refine sb_iload (pc' := 32) rfl rfl dX11_feed_30 ?_
    refine sb_iconst (pc' := 33) rfl dX11_feed_32 ?_
    refine sb_icmp_ge (pc' := 36) (tgt := 40) rfl (by decide) hx6 (iR_lit rfl) dX11_feed_33 ?_ ?_
    · intro cc; have H := H.1 cc
      refine sb_iload (pc' := 42) rfl rfl dX11_feed_40 ?_
      refine sb_bipush (pc' := 44) rfl (z := 8) (by decide) dX11_feed_42 ?_
      refine sb_icmp_ge (pc' := 47) (tgt := 51) rfl (by decide) hx6 (iR_lit rfl) dX11_feed_44 ?_ ?_
      · intro cc; have H := H.1 cc
        refine sb_iload (pc' := 53) rfl rfl dX11_feed_51 ?_
        refine sb_bipush (pc' := 55) rfl (z := 12) (by decide) dX11_feed_53 ?_
        refine sb_icmp_ge (pc' := 58) (tgt := 62) rfl (by decide) hx6 (iR_lit rfl) dX11_feed_55 ?_ ?_
        · intro cc; have H := H.1 cc
          refine sb_iload (pc' := 64) rfl rfl dX11_feed_62 ?_
          refine sb_bipush (pc' := 66) rfl (z := 16) (by decide) dX11_feed_64 ?_
          refine sb_icmp_ge (pc' := 69) (tgt := 74) rfl (by decide) hx6 (iR_lit rfl) dX11_feed_66 ?_ ?_
          · intro cc; have H := H.1 cc
            refine sb_iload (pc' := 76) rfl rfl dX11_feed_74 ?_
            refine sb_istore (pc' := 78) rfl (L' := [some (.ref (ad 102)), some (vi x1), some (vi x2), some (vi x3), some (vi x4), some (vi x5), some (vi x6), some (vi x5)]) rfl (by decide) dX11_feed_76 ?_
            refine sb_aload_n (pc' := 79) rfl rfl dX11_feed_78 ?_
            refine sb_getC (pc' := 82) rfl fc_102_5 wd_1555 dX11_feed_79 ?_
            refine sb_aload_n (pc' := 83) rfl rfl dX11_feed_82 ?_
            refine sb_getI (pc' := 86) rfl fi_102_6 wd_1556 dX11_feed_83 ?_
            refine sb_iload (pc' := 88) rfl rfl dX11_feed_86 ?_
            refine sb_bipush (pc' := 90) rfl (z := 24) (by decide) dX11_feed_88 ?_
            refine sb_bipush (pc' := 92) rfl (z := 8) (by decide) dX11_feed_90 ?_
            refine sb_iload (pc' := 94) rfl rfl dX11_feed_92 ?_
            refine sb_iconst (pc' := 95) rfl dX11_feed_94 ?_
            refine sb_irem (pc' := 96) rfl (iR_lit rfl) (by decide) dX11_feed_95 ?_
            refine sb_imul (pc' := 97) rfl dX11_feed_96 ?_
            refine sb_isub (pc' := 98) rfl dX11_feed_97 ?_
            refine sb_iushr (pc' := 99) rfl dX11_feed_98 ?_
            refine sb_sipush (pc' := 102) rfl (z := 255) (by decide) dX11_feed_99 ?_
            refine sb_iand (pc' := 103) rfl dX11_feed_102 ?_
            obtain ⟨o1, H⟩ := H
            refine sb_iast (pc' := 104) rfl aI_106 o1.1 o1.2  dX11_feed_103 ?_
            refine sb_aload_n (pc' := 105) rfl rfl dX11_feed_104 ?_
            refine sb_dup (pc' := 106) rfl rfl dX11_feed_105 ?_
            refine sb_getI (pc' := 109) rfl fi_102_6 wd_1556 dX11_feed_106 ?_
            refine sb_iconst (pc' := 110) rfl dX11_feed_109 ?_
            refine sb_iadd (pc' := 111) rfl dX11_feed_110 ?_
            obtain ⟨o2, H⟩ := H
            refine sb_putI (pc' := 114) rfl fi_102_6 (Or.inl rfl) wd_1556 dX11_feed_111 ?_
            exact (H hx1 hx2 hx3 hx4 hx5 hx6 hx5 (SR_setS (SR_setI hS (iR_b _)) o2))
          · intro cc; have H := H.2 cc
            refine sb_iload (pc' := 71) rfl rfl dX11_feed_69 ?_
            refine sb_goto (tgt := 76) (by decide) dX11_feed_71 ?_
            refine sb_istore (pc' := 78) rfl (L' := [some (.ref (ad 102)), some (vi x1), some (vi x2), some (vi x3), some (vi x4), some (vi x5), some (vi x6), some (vi x4)]) rfl (by decide) dX11_feed_76 ?_
            refine sb_aload_n (pc' := 79) rfl rfl dX11_feed_78 ?_
            refine sb_getC (pc' := 82) rfl fc_102_5 wd_1555 dX11_feed_79 ?_
            refine sb_aload_n (pc' := 83) rfl rfl dX11_feed_82 ?_
            refine sb_getI (pc' := 86) rfl fi_102_6 wd_1556 dX11_feed_83 ?_
            refine sb_iload (pc' := 88) rfl rfl dX11_feed_86 ?_
            refine sb_bipush (pc' := 90) rfl (z := 24) (by decide) dX11_feed_88 ?_
            refine sb_bipush (pc' := 92) rfl (z := 8) (by decide) dX11_feed_90 ?_
            refine sb_iload (pc' := 94) rfl rfl dX11_feed_92 ?_
            refine sb_iconst (pc' := 95) rfl dX11_feed_94 ?_
            refine sb_irem (pc' := 96) rfl (iR_lit rfl) (by decide) dX11_feed_95 ?_
            refine sb_imul (pc' := 97) rfl dX11_feed_96 ?_
            refine sb_isub (pc' := 98) rfl dX11_feed_97 ?_
            refine sb_iushr (pc' := 99) rfl dX11_feed_98 ?_
            refine sb_sipush (pc' := 102) rfl (z := 255) (by decide) dX11_feed_99 ?_
            refine sb_iand (pc' := 103) rfl dX11_feed_102 ?_
            obtain ⟨o3, H⟩ := H
            refine sb_iast (pc' := 104) rfl aI_106 o3.1 o3.2  dX11_feed_103 ?_
            refine sb_aload_n (pc' := 105) rfl rfl dX11_feed_104 ?_
            refine sb_dup (pc' := 106) rfl rfl dX11_feed_105 ?_
            refine sb_getI (pc' := 109) rfl fi_102_6 wd_1556 dX11_feed_106 ?_
            refine sb_iconst (pc' := 110) rfl dX11_feed_109 ?_
            refine sb_iadd (pc' := 111) rfl dX11_feed_110 ?_
            obtain ⟨o4, H⟩ := H
            refine sb_putI (pc' := 114) rfl fi_102_6 (Or.inl rfl) wd_1556 dX11_feed_111 ?_
            exact (H hx1 hx2 hx3 hx4 hx5 hx6 hx4 (SR_setS (SR_setI hS (iR_b _)) o4))
        · intro cc; have H := H.2 cc
          refine sb_iload_n (pc' := 59) rfl rfl dX11_feed_58 ?_
          refine sb_goto (tgt := 76) (by decide) dX11_feed_59 ?_
          refine sb_istore (pc' := 78) rfl (L' := [some (.ref (ad 102)), some (vi x1), some (vi x2), some (vi x3), some (vi x4), some (vi x5), some (vi x6), some (vi x3)]) rfl (by decide) dX11_feed_76 ?_
          refine sb_aload_n (pc' := 79) rfl rfl dX11_feed_78 ?_
          refine sb_getC (pc' := 82) rfl fc_102_5 wd_1555 dX11_feed_79 ?_
          refine sb_aload_n (pc' := 83) rfl rfl dX11_feed_82 ?_
          refine sb_getI (pc' := 86) rfl fi_102_6 wd_1556 dX11_feed_83 ?_
          refine sb_iload (pc' := 88) rfl rfl dX11_feed_86 ?_
          refine sb_bipush (pc' := 90) rfl (z := 24) (by decide) dX11_feed_88 ?_
          refine sb_bipush (pc' := 92) rfl (z := 8) (by decide) dX11_feed_90 ?_
          refine sb_iload (pc' := 94) rfl rfl dX11_feed_92 ?_
          refine sb_iconst (pc' := 95) rfl dX11_feed_94 ?_
          refine sb_irem (pc' := 96) rfl (iR_lit rfl) (by decide) dX11_feed_95 ?_
          refine sb_imul (pc' := 97) rfl dX11_feed_96 ?_
          refine sb_isub (pc' := 98) rfl dX11_feed_97 ?_
          refine sb_iushr (pc' := 99) rfl dX11_feed_98 ?_
          refine sb_sipush (pc' := 102) rfl (z := 255) (by decide) dX11_feed_99 ?_
          refine sb_iand (pc' := 103) rfl dX11_feed_102 ?_
          obtain ⟨o5, H⟩ := H
          refine sb_iast (pc' := 104) rfl aI_106 o5.1 o5.2  dX11_feed_103 ?_
          refine sb_aload_n (pc' := 105) rfl rfl dX11_feed_104 ?_
          refine sb_dup (pc' := 106) rfl rfl dX11_feed_105 ?_
          refine sb_getI (pc' := 109) rfl fi_102_6 wd_1556 dX11_feed_106 ?_
          refine sb_iconst (pc' := 110) rfl dX11_feed_109 ?_
          refine sb_iadd (pc' := 111) rfl dX11_feed_110 ?_
          obtain ⟨o6, H⟩ := H
          refine sb_putI (pc' := 114) rfl fi_102_6 (Or.inl rfl) wd_1556 dX11_feed_111 ?_
          exact (H hx1 hx2 hx3 hx4 hx5 hx6 hx3 (SR_setS (SR_setI hS (iR_b _)) o6))
      · intro cc; have H := H.2 cc
        refine sb_iload_n (pc' := 48) rfl rfl dX11_feed_47 ?_
        refine sb_goto (tgt := 76) (by decide) dX11_feed_48 ?_
        refine sb_istore (pc' := 78) rfl (L' := [some (.ref (ad 102)), some (vi x1), some (vi x2), some (vi x3), some (vi x4), some (vi x5), some (vi x6), some (vi x2)]) rfl (by decide) dX11_feed_76 ?_
        refine sb_aload_n (pc' := 79) rfl rfl dX11_feed_78 ?_
        refine sb_getC (pc' := 82) rfl fc_102_5 wd_1555 dX11_feed_79 ?_
        refine sb_aload_n (pc' := 83) rfl rfl dX11_feed_82 ?_
        refine sb_getI (pc' := 86) rfl fi_102_6 wd_1556 dX11_feed_83 ?_
        refine sb_iload (pc' := 88) rfl rfl dX11_feed_86 ?_
        refine sb_bipush (pc' := 90) rfl (z := 24) (by decide) dX11_feed_88 ?_
        refine sb_bipush (pc' := 92) rfl (z := 8) (by decide) dX11_feed_90 ?_
        refine sb_iload (pc' := 94) rfl rfl dX11_feed_92 ?_
        refine sb_iconst (pc' := 95) rfl dX11_feed_94 ?_
        refine sb_irem (pc' := 96) rfl (iR_lit rfl) (by decide) dX11_feed_95 ?_
        refine sb_imul (pc' := 97) rfl dX11_feed_96 ?_
        refine sb_isub (pc' := 98) rfl dX11_feed_97 ?_
        refine sb_iushr (pc' := 99) rfl dX11_feed_98 ?_
        refine sb_sipush (pc' := 102) rfl (z := 255) (by decide) dX11_feed_99 ?_
        refine sb_iand (pc' := 103) rfl dX11_feed_102 ?_
        obtain ⟨o7, H⟩ := H
        refine sb_iast (pc' := 104) rfl aI_106 o7.1 o7.2  dX11_feed_103 ?_
        refine sb_aload_n (pc' := 105) rfl rfl dX11_feed_104 ?_
        refine sb_dup (pc' := 106) rfl rfl dX11_feed_105 ?_
        refine sb_getI (pc' := 109) rfl fi_102_6 wd_1556 dX11_feed_106 ?_
        refine sb_iconst (pc' := 110) rfl dX11_feed_109 ?_
        refine sb_iadd (pc' := 111) rfl dX11_feed_110 ?_
        obtain ⟨o8, H⟩ := H
        refine sb_putI (pc' := 114) rfl fi_102_6 (Or.inl rfl) wd_1556 dX11_feed_111 ?_
        exact (H hx1 hx2 hx3 hx4 hx5 hx6 hx2 (SR_setS (SR_setI hS (iR_b _)) o8))
    · intro cc; have H := H.2 cc
      refine sb_iload_n (pc' := 37) rfl rfl dX11_feed_36 ?_
      refine sb_goto (tgt := 76) (by decide) dX11_feed_37 ?_
      refine sb_istore (pc' := 78) rfl (L' := [some (.ref (ad 102)), some (vi x1), some (vi x2), some (vi x3), some (vi x4), some (vi x5), some (vi x6), some (vi x1)]) rfl (by decide) dX11_feed_76 ?_
      refine sb_aload_n (pc' := 79) rfl rfl dX11_feed_78 ?_
      refine sb_getC (pc' := 82) rfl fc_102_5 wd_1555 dX11_feed_79 ?_
      refine sb_aload_n (pc' := 83) rfl rfl dX11_feed_82 ?_
      refine sb_getI (pc' := 86) rfl fi_102_6 wd_1556 dX11_feed_83 ?_
      refine sb_iload (pc' := 88) rfl rfl dX11_feed_86 ?_
      refine sb_bipush (pc' := 90) rfl (z := 24) (by decide) dX11_feed_88 ?_
      refine sb_bipush (pc' := 92) rfl (z := 8) (by decide) dX11_feed_90 ?_
      refine sb_iload (pc' := 94) rfl rfl dX11_feed_92 ?_
      refine sb_iconst (pc' := 95) rfl dX11_feed_94 ?_
      refine sb_irem (pc' := 96) rfl (iR_lit rfl) (by decide) dX11_feed_95 ?_
      refine sb_imul (pc' := 97) rfl dX11_feed_96 ?_
      refine sb_isub (pc' := 98) rfl dX11_feed_97 ?_
      refine sb_iushr (pc' := 99) rfl dX11_feed_98 ?_
      refine sb_sipush (pc' := 102) rfl (z := 255) (by decide) dX11_feed_99 ?_
      refine sb_iand (pc' := 103) rfl dX11_feed_102 ?_
      obtain ⟨o9, H⟩ := H
      refine sb_iast (pc' := 104) rfl aI_106 o9.1 o9.2  dX11_feed_103 ?_
      refine sb_aload_n (pc' := 105) rfl rfl dX11_feed_104 ?_
      refine sb_dup (pc' := 106) rfl rfl dX11_feed_105 ?_
      refine sb_getI (pc' := 109) rfl fi_102_6 wd_1556 dX11_feed_106 ?_
      refine sb_iconst (pc' := 110) rfl dX11_feed_109 ?_
      refine sb_iadd (pc' := 111) rfl dX11_feed_110 ?_
      obtain ⟨o10, H⟩ := H
      refine sb_putI (pc' := 114) rfl fi_102_6 (Or.inl rfl) wd_1556 dX11_feed_111 ?_
      exact (H hx1 hx2 hx3 hx4 hx5 hx6 hx1 (SR_setS (SR_setI hS (iR_b _)) o10))
theorem bX11_feed_114 {g : AG} {ad : Nat → Nat} {d : Nat} {Q : AO → SG → Prop} {rc rs : Nat} {σ : SG} {x1 x2 x3 x4 x5 x6 x7 : Int}  (hx1 : iR x1) (hx2 : iR x2) (hx3 : iR x3) (hx4 : iR x4) (hx5 : iR x5) (hx6 : iR x6) (hx7 : iR x7) (hS : SR σ) (H : iR (x6 + 1) ∧ (iR x1 → iR x2 → iR x3 → iR x4 → iR x5 → iR (x6 + 1) → SR σ → Wb g ad d mX11_feed Q 23 [some (.ref (ad 102)), some (vi x1), some (vi x2), some (vi x3), some (vi x4), some (vi x5), some (vi (x6 + 1)), none] [] σ rc rs)) : Wb g ad d mX11_feed Q 114 [some (.ref (ad 102)), some (vi x1), some (vi x2), some (vi x3), some (vi x4), some (vi x5), some (vi x6), some (vi x7)] [] σ rc rs := by
  refine sb_iinc (pc' := 117) rfl rfl (L' := [some (.ref (ad 102)), some (vi x1), some (vi x2), some (vi x3), some (vi x4), some (vi x5), some (vi (x6 + 1)), some (vi x7)]) rfl (by decide) dX11_feed_114 ?_
  refine sb_goto (tgt := 23) (by decide) dX11_feed_117 ?_
  obtain ⟨o1, H⟩ := H
  refine Wb.forget [true, true, true, true, true, true, true, false] ?_
  exact (H hx1 hx2 hx3 hx4 hx5 o1 hS)
theorem bX11_end_0 {g : AG} {ad : Nat → Nat} {d : Nat} {Q : AO → SG → Prop} {rc rs : Nat} {σ : SG} {x1 : Int}  (hx1 : iR x1) (hS : SR σ) (H : Cl g ad d mX11_isIn 0 0 [(vi x1), (vi 0), (vi (sc (setS σ 102 0 0) 102 6))] (setS σ 102 0 0) (Ki fun r1 s1 => ((¬ r1 = 0 → (iR 1 → SR (setS s1 102 6 x1) → Q (.inl (some (vi 1))) (setS s1 102 6 x1))) ∧ (r1 = 0 → (iR 0 → SR s1 → Q (.inl (some (vi 0))) s1))))) : Wb g ad d mX11_end Q 0 [some (.ref (ad 102)), some (vi x1)] [] σ rc rs := by
  refine sb_aload_n (pc' := 1) rfl rfl dX11_end_0 ?_
  refine sb_iconst (pc' := 2) rfl dX11_end_1 ?_
  refine sb_putI (pc' := 5) rfl fi_102_0 (Or.inl rfl) wd_1550 dX11_end_2 ?_
  refine sb_iload_n (pc' := 6) rfl rfl dX11_end_5 ?_
  refine sb_iconst (pc' := 7) rfl dX11_end_6 ?_
  refine sb_aload_n (pc' := 8) rfl rfl dX11_end_7 ?_
  refine sb_getI (pc' := 11) rfl fi_102_6 wd_1556 dX11_end_8 ?_
  obtain ⟨d1, hd1, H⟩ := H
  refine sb_callS (pc' := 14) rfl rfl (rc := rc) (rs := rs) (mc' := 0) (ms' := 0) (As := [(vi x1), (vi 0), (vi (sc (setS σ 102 0 0) 102 6))]) (st := [])  rfl rfl (Nat.le_of_ble_eq_true rfl) hd1 kX11_isIn ⟨wd_1719, wd_1720⟩ dX11_end_11 (Eb.mono H ?_)
  rintro o s1 ⟨r1, rfl, hr1, hs1, H⟩
  show Wb g ad d mX11_end Q 14 [some (.ref (ad 102)), some (vi x1)] [(vi r1)] s1 rc rs
  refine sb_if_ne (pc' := 17) (tgt := 19) rfl (by decide) hr1 dX11_end_14 ?_ ?_
  · intro cc; have H := H.1 cc
    refine sb_aload_n (pc' := 20) rfl rfl dX11_end_19 ?_
    refine sb_iload_n (pc' := 21) rfl rfl dX11_end_20 ?_
    refine sb_putI (pc' := 24) rfl fi_102_6 (Or.inl rfl) wd_1556 dX11_end_21 ?_
    refine sb_iconst (pc' := 25) rfl dX11_end_24 ?_
    exact sb_iret rfl (nar_z2 (Or.inr rfl)) dX11_end_25 (H (iR_lit rfl) (SR_setS hs1 hx1))
  · intro cc; have H := H.2 cc
    refine sb_iconst (pc' := 18) rfl dX11_end_17 ?_
    exact sb_iret rfl (nar_z2 (Or.inl rfl)) dX11_end_18 (H (iR_lit rfl) hs1)
theorem bX11_begins_0 {g : AG} {ad : Nat → Nat} {d : Nat} {Q : AO → SG → Prop} {rc rs : Nat} {σ : SG}    (hS : SR σ) (H : (iR 0 → SR σ → Wb g ad d mX11_begins Q 2 [some (.ref (ad 102)), some (vi 0)] [] σ rc rs)) : Wb g ad d mX11_begins Q 0 [some (.ref (ad 102)), none] [] σ rc rs := by
  refine sb_iconst (pc' := 1) rfl dX11_begins_0 ?_
  refine sb_istore_n (pc' := 2) rfl (L' := [some (.ref (ad 102)), some (vi 0)]) rfl (by decide) dX11_begins_1 ?_
  exact (H (iR_lit rfl) hS)
theorem bX11_begins_2 {g : AG} {ad : Nat → Nat} {d : Nat} {Q : AO → SG → Prop} {rc rs : Nat} {σ : SG} {x1 : Int}  (hx1 : iR x1) (hS : SR σ) (H : ((855 ≤ x1 → (SR (setS (setS (setS (setS (setS (setS (setS (setS σ 102 9 ((-1))) 102 7 (sc (setS σ 102 9 ((-1))) 102 6)) 102 6 0) 102 8 0) 102 12 0) 102 14 0) 102 18 0) 102 20 0) → Q (.inl none) (setS (setS (setS (setS (setS (setS (setS (setS σ 102 9 ((-1))) 102 7 (sc (setS σ 102 9 ((-1))) 102 6)) 102 6 0) 102 8 0) 102 12 0) 102 14 0) 102 18 0) 102 20 0))) ∧ (¬ 855 ≤ x1 → (0 ≤ x1 ∧ x1 < 855) ∧ iR (x1 + 1) ∧ (iR (x1 + 1) → SR (setI σ 104 x1 (ia σ 103 x1)) → Wb g ad d mX11_begins Q 2 [some (.ref (ad 102)), some (vi (x1 + 1))] [] (setI σ 104 x1 (ia σ 103 x1)) rc rs)))) : Wb g ad d mX11_begins Q 2 [some (.ref (ad 102)), some (vi x1)] [] σ rc rs := by
  refine sb_iload_n (pc' := 3) rfl rfl dX11_begins_2 ?_
  refine sb_sipush (pc' := 6) rfl (z := 855) (by decide) dX11_begins_3 ?_
  refine sb_icmp_ge (pc' := 9) (tgt := 27) rfl (by decide) hx1 (iR_lit rfl) dX11_begins_6 ?_ ?_
  · intro cc; have H := H.1 cc
    refine sb_aload_n (pc' := 28) rfl rfl dX11_begins_27 ?_
    refine sb_iconst (pc' := 29) rfl dX11_begins_28 ?_
    refine sb_putI (pc' := 32) rfl fi_102_9 (Or.inl rfl) wd_1559 dX11_begins_29 ?_
    refine sb_aload_n (pc' := 33) rfl rfl dX11_begins_32 ?_
    refine sb_aload_n (pc' := 34) rfl rfl dX11_begins_33 ?_
    refine sb_getI (pc' := 37) rfl fi_102_6 wd_1556 dX11_begins_34 ?_
    refine sb_putI (pc' := 40) rfl fi_102_7 (Or.inl rfl) wd_1557 dX11_begins_37 ?_
    refine sb_aload_n (pc' := 41) rfl rfl dX11_begins_40 ?_
    refine sb_iconst (pc' := 42) rfl dX11_begins_41 ?_
    refine sb_putI (pc' := 45) rfl fi_102_6 (Or.inl rfl) wd_1556 dX11_begins_42 ?_
    refine sb_aload_n (pc' := 46) rfl rfl dX11_begins_45 ?_
    refine sb_iconst (pc' := 47) rfl dX11_begins_46 ?_
    refine sb_putI (pc' := 50) rfl fi_102_8 (Or.inl rfl) wd_1558 dX11_begins_47 ?_
    refine sb_aload_n (pc' := 51) rfl rfl dX11_begins_50 ?_
    refine sb_iconst (pc' := 52) rfl dX11_begins_51 ?_
    refine sb_putI (pc' := 55) rfl fi_102_12 (Or.inl rfl) wd_1562 dX11_begins_52 ?_
    refine sb_aload_n (pc' := 56) rfl rfl dX11_begins_55 ?_
    refine sb_iconst (pc' := 57) rfl dX11_begins_56 ?_
    refine sb_putI (pc' := 60) rfl fi_102_14 (Or.inl rfl) wd_1564 dX11_begins_57 ?_
    refine sb_aload_n (pc' := 61) rfl rfl dX11_begins_60 ?_
    refine sb_iconst (pc' := 62) rfl dX11_begins_61 ?_
    refine sb_putI (pc' := 65) rfl fi_102_18 (Or.inl rfl) wd_1568 dX11_begins_62 ?_
    refine sb_aload_n (pc' := 66) rfl rfl dX11_begins_65 ?_
    refine sb_iconst (pc' := 67) rfl dX11_begins_66 ?_
    refine sb_putI (pc' := 70) rfl fi_102_20 (Or.inr (Or.inl rfl)) wd_1570 dX11_begins_67 ?_
    exact sb_vret rfl dX11_begins_70 (H (SR_setS (SR_setS (SR_setS (SR_setS (SR_setS (SR_setS (SR_setS (SR_setS hS (iR_lit rfl)) (SR_sc (SR_setS hS (iR_lit rfl)) _ _)) (iR_lit rfl)) (iR_lit rfl)) (iR_lit rfl)) (iR_lit rfl)) (iR_lit rfl)) (iR_lit rfl)))
  · intro cc; have H := H.2 cc
    refine sb_aload_n (pc' := 10) rfl rfl dX11_begins_9 ?_
    refine sb_getC (pc' := 13) rfl fc_102_2 wd_1552 dX11_begins_10 ?_
    refine sb_iload_n (pc' := 14) rfl rfl dX11_begins_13 ?_
    refine sb_aload_n (pc' := 15) rfl rfl dX11_begins_14 ?_
    refine sb_getC (pc' := 18) rfl fc_102_1 wd_1551 dX11_begins_15 ?_
    refine sb_iload_n (pc' := 19) rfl rfl dX11_begins_18 ?_
    obtain ⟨o1, H⟩ := H
    refine sb_iald (pc' := 20) rfl aI_103 o1.1 o1.2 dX11_begins_19 ?_
    refine sb_iast (pc' := 21) rfl aI_104 o1.1 o1.2  dX11_begins_20 ?_
    refine sb_iinc (pc' := 24) rfl rfl (L' := [some (.ref (ad 102)), some (vi (x1 + 1))]) rfl (by decide) dX11_begins_21 ?_
    refine sb_goto (tgt := 2) (by decide) dX11_begins_24 ?_
    obtain ⟨o2, H⟩ := H
    exact (H o2 (SR_setI hS (SR_ia hS _ _)))
theorem bX11_isRight_0 {g : AG} {ad : Nat → Nat} {d : Nat} {Q : AO → SG → Prop} {rc rs : Nat} {σ : SG}    (hS : SR σ) (H : ((¬ (sc σ 102 9) = ((-1)) → ((¬ (sc (setS σ 102 0 1) 102 9) = ((-1)) → (iR 0 → SR (setS σ 102 0 1) → Wb g ad d mX11_isRight Q 29 [some (.ref (ad 102)), some (vi 0)] [] (setS σ 102 0 1) rc rs)) ∧ ((sc (setS σ 102 0 1) 102 9) = ((-1)) → (iR 1 → SR (setS σ 102 0 1) → Q (.inl (some (vi 1))) (setS σ 102 0 1))))) ∧ ((sc σ 102 9) = ((-1)) → ((¬ (sc (setS σ 102 0 0) 102 9) = ((-1)) → (iR 0 → SR (setS σ 102 0 0) → Wb g ad d mX11_isRight Q 29 [some (.ref (ad 102)), some (vi 0)] [] (setS σ 102 0 0) rc rs)) ∧ ((sc (setS σ 102 0 0) 102 9) = ((-1)) → (iR 1 → SR (setS σ 102 0 0) → Q (.inl (some (vi 1))) (setS σ 102 0 0))))))) : Wb g ad d mX11_isRight Q 0 [some (.ref (ad 102)), none] [] σ rc rs := by
  refine sb_aload_n (pc' := 1) rfl rfl dX11_isRight_0 ?_
  refine sb_aload_n (pc' := 2) rfl rfl dX11_isRight_1 ?_
  refine sb_getI (pc' := 5) rfl fi_102_9 wd_1559 dX11_isRight_2 ?_
  refine sb_iconst (pc' := 6) rfl dX11_isRight_5 ?_
  refine sb_icmp_ne (pc' := 9) (tgt := 13) rfl (by decide) (SR_sc hS _ _) (iR_lit rfl) dX11_isRight_6 ?_ ?_
  · intro cc; have H := H.1 cc
    refine sb_iconst (pc' := 14) rfl dX11_isRight_13 ?_
    refine sb_putI (pc' := 17) rfl fi_102_0 (Or.inl rfl) wd_1550 dX11_isRight_14 ?_
    refine sb_aload_n (pc' := 18) rfl rfl dX11_isRight_17 ?_
    refine sb_getI (pc' := 21) rfl fi_102_9 wd_1559 dX11_isRight_18 ?_
    refine sb_iconst (pc' := 22) rfl dX11_isRight_21 ?_
    refine sb_icmp_ne (pc' := 25) (tgt := 27) rfl (by decide) (SR_sc (SR_setS hS (iR_lit rfl)) _ _) (iR_lit rfl) dX11_isRight_22 ?_ ?_
    · intro cc; have H := H.1 cc
      refine sb_iconst (pc' := 28) rfl dX11_isRight_27 ?_
      refine sb_istore_n (pc' := 29) rfl (L' := [some (.ref (ad 102)), some (vi 0)]) rfl (by decide) dX11_isRight_28 ?_
      exact (H (iR_lit rfl) (SR_setS hS (iR_lit rfl)))
    · intro cc; have H := H.2 cc
      refine sb_iconst (pc' := 26) rfl dX11_isRight_25 ?_
      exact sb_iret rfl (nar_z2 (Or.inr rfl)) dX11_isRight_26 (H (iR_lit rfl) (SR_setS hS (iR_lit rfl)))
  · intro cc; have H := H.2 cc
    refine sb_iconst (pc' := 10) rfl dX11_isRight_9 ?_
    refine sb_goto (tgt := 14) (by decide) dX11_isRight_10 ?_
    refine sb_putI (pc' := 17) rfl fi_102_0 (Or.inl rfl) wd_1550 dX11_isRight_14 ?_
    refine sb_aload_n (pc' := 18) rfl rfl dX11_isRight_17 ?_
    refine sb_getI (pc' := 21) rfl fi_102_9 wd_1559 dX11_isRight_18 ?_
    refine sb_iconst (pc' := 22) rfl dX11_isRight_21 ?_
    refine sb_icmp_ne (pc' := 25) (tgt := 27) rfl (by decide) (SR_sc (SR_setS hS (iR_lit rfl)) _ _) (iR_lit rfl) dX11_isRight_22 ?_ ?_
    · intro cc; have H := H.1 cc
      refine sb_iconst (pc' := 28) rfl dX11_isRight_27 ?_
      refine sb_istore_n (pc' := 29) rfl (L' := [some (.ref (ad 102)), some (vi 0)]) rfl (by decide) dX11_isRight_28 ?_
      exact (H (iR_lit rfl) (SR_setS hS (iR_lit rfl)))
    · intro cc; have H := H.2 cc
      refine sb_iconst (pc' := 26) rfl dX11_isRight_25 ?_
      exact sb_iret rfl (nar_z2 (Or.inr rfl)) dX11_isRight_26 (H (iR_lit rfl) (SR_setS hS (iR_lit rfl)))
theorem bX11_isRight_29 {g : AG} {ad : Nat → Nat} {d : Nat} {Q : AO → SG → Prop} {rc rs : Nat} {σ : SG} {x1 : Int}  (hx1 : iR x1) (hS : SR σ) (H : ((855 ≤ x1 → (iR 0 → SR σ → Q (.inl (some (vi 0))) σ)) ∧ (¬ 855 ≤ x1 → (0 ≤ x1 ∧ x1 < 855) ∧ iR (x1 + 1) ∧ (iR (x1 + 1) → SR (setI σ 103 x1 (ia σ 104 x1)) → Wb g ad d mX11_isRight Q 29 [some (.ref (ad 102)), some (vi (x1 + 1))] [] (setI σ 103 x1 (ia σ 104 x1)) rc rs)))) : Wb g ad d mX11_isRight Q 29 [some (.ref (ad 102)), some (vi x1)] [] σ rc rs := by
  refine sb_iload_n (pc' := 30) rfl rfl dX11_isRight_29 ?_
  refine sb_sipush (pc' := 33) rfl (z := 855) (by decide) dX11_isRight_30 ?_
  refine sb_icmp_ge (pc' := 36) (tgt := 54) rfl (by decide) hx1 (iR_lit rfl) dX11_isRight_33 ?_ ?_
  · intro cc; have H := H.1 cc
    refine sb_iconst (pc' := 55) rfl dX11_isRight_54 ?_
    exact sb_iret rfl (nar_z2 (Or.inl rfl)) dX11_isRight_55 (H (iR_lit rfl) hS)
  · intro cc; have H := H.2 cc
    refine sb_aload_n (pc' := 37) rfl rfl dX11_isRight_36 ?_
    refine sb_getC (pc' := 40) rfl fc_102_1 wd_1551 dX11_isRight_37 ?_
    refine sb_iload_n (pc' := 41) rfl rfl dX11_isRight_40 ?_
    refine sb_aload_n (pc' := 42) rfl rfl dX11_isRight_41 ?_
    refine sb_getC (pc' := 45) rfl fc_102_2 wd_1552 dX11_isRight_42 ?_
    refine sb_iload_n (pc' := 46) rfl rfl dX11_isRight_45 ?_
    obtain ⟨o1, H⟩ := H
    refine sb_iald (pc' := 47) rfl aI_104 o1.1 o1.2 dX11_isRight_46 ?_
    refine sb_iast (pc' := 48) rfl aI_103 o1.1 o1.2  dX11_isRight_47 ?_
    refine sb_iinc (pc' := 51) rfl rfl (L' := [some (.ref (ad 102)), some (vi (x1 + 1))]) rfl (by decide) dX11_isRight_48 ?_
    refine sb_goto (tgt := 29) (by decide) dX11_isRight_51 ?_
    obtain ⟨o2, H⟩ := H
    exact (H o2 (SR_setI hS (SR_ia hS _ _)))
theorem bX11_here_0 {g : AG} {ad : Nat → Nat} {d : Nat} {Q : AO → SG → Prop} {rc rs : Nat} {σ : SG}    (hS : SR σ) (H : (((sc σ 102 7) ≤ (sc σ 102 8) → (iR (sc σ 102 8) → SR σ → Q (.inl (some (vi (sc σ 102 8)))) σ)) ∧ (¬ (sc σ 102 7) ≤ (sc σ 102 8) → (0 ≤ sc σ 102 8 ∧ sc σ 102 8 < 400) ∧ ((¬ (ia σ 106 (sc σ 102 8)) = 32 → (iR (sc σ 102 8) → SR σ → Q (.inl (some (vi (sc σ 102 8)))) σ)) ∧ ((ia σ 106 (sc σ 102 8)) = 32 → iR ((sc σ 102 8) + 1) ∧ (SR (setS σ 102 8 ((sc σ 102 8) + 1)) → Wb g ad d mX11_here Q 0 [some (.ref (ad 102))] [] (setS σ 102 8 ((sc σ 102 8) + 1)) rc rs)))))) : Wb g ad d mX11_here Q 0 [some (.ref (ad 102))] [] σ rc rs := by
  refine sb_aload_n (pc' := 1) rfl rfl dX11_here_0 ?_
  refine sb_getI (pc' := 4) rfl fi_102_8 wd_1558 dX11_here_1 ?_
  refine sb_aload_n (pc' := 5) rfl rfl dX11_here_4 ?_
  refine sb_getI (pc' := 8) rfl fi_102_7 wd_1557 dX11_here_5 ?_
  refine sb_icmp_ge (pc' := 11) (tgt := 38) rfl (by decide) (SR_sc hS _ _) (SR_sc hS _ _) dX11_here_8 ?_ ?_
  · intro cc; have H := H.1 cc
    refine sb_aload_n (pc' := 39) rfl rfl dX11_here_38 ?_
    refine sb_getI (pc' := 42) rfl fi_102_8 wd_1558 dX11_here_39 ?_
    exact sb_iret rfl rfl dX11_here_42 (H (SR_sc hS _ _) hS)
  · intro cc; have H := H.2 cc
    refine sb_aload_n (pc' := 12) rfl rfl dX11_here_11 ?_
    refine sb_getC (pc' := 15) rfl fc_102_5 wd_1555 dX11_here_12 ?_
    refine sb_aload_n (pc' := 16) rfl rfl dX11_here_15 ?_
    refine sb_getI (pc' := 19) rfl fi_102_8 wd_1558 dX11_here_16 ?_
    obtain ⟨o1, H⟩ := H
    refine sb_iald (pc' := 20) rfl aI_106 o1.1 o1.2 dX11_here_19 ?_
    refine sb_bipush (pc' := 22) rfl (z := 32) (by decide) dX11_here_20 ?_
    refine sb_icmp_ne (pc' := 25) (tgt := 38) rfl (by decide) (SR_ia hS _ _) (iR_lit rfl) dX11_here_22 ?_ ?_
    · intro cc; have H := H.1 cc
      refine sb_aload_n (pc' := 39) rfl rfl dX11_here_38 ?_
      refine sb_getI (pc' := 42) rfl fi_102_8 wd_1558 dX11_here_39 ?_
      exact sb_iret rfl rfl dX11_here_42 (H (SR_sc hS _ _) hS)
    · intro cc; have H := H.2 cc
      refine sb_aload_n (pc' := 26) rfl rfl dX11_here_25 ?_
      refine sb_dup (pc' := 27) rfl rfl dX11_here_26 ?_
      refine sb_getI (pc' := 30) rfl fi_102_8 wd_1558 dX11_here_27 ?_
      refine sb_iconst (pc' := 31) rfl dX11_here_30 ?_
      refine sb_iadd (pc' := 32) rfl dX11_here_31 ?_
      obtain ⟨o2, H⟩ := H
      refine sb_putI (pc' := 35) rfl fi_102_8 (Or.inl rfl) wd_1558 dX11_here_32 ?_
      refine sb_goto (tgt := 0) (by decide) dX11_here_35 ?_
      exact (H (SR_setS hS o2))
theorem bX11_wrong_0 {g : AG} {ad : Nat → Nat} {d : Nat} {Q : AO → SG → Prop} {rc rs : Nat} {σ : SG} {x1 : Int}  (hx1 : iR x1) (hS : SR σ) (H : ((¬ (sc σ 102 9) = ((-1)) → (SR σ → Q (.inl none) σ)) ∧ ((sc σ 102 9) = ((-1)) → (SR (setS σ 102 9 x1) → Q (.inl none) (setS σ 102 9 x1))))) : Wb g ad d mX11_wrong Q 0 [some (.ref (ad 102)), some (vi x1)] [] σ rc rs := by
  refine sb_aload_n (pc' := 1) rfl rfl dX11_wrong_0 ?_
  refine sb_getI (pc' := 4) rfl fi_102_9 wd_1559 dX11_wrong_1 ?_
  refine sb_iconst (pc' := 5) rfl dX11_wrong_4 ?_
  refine sb_icmp_ne (pc' := 8) (tgt := 13) rfl (by decide) (SR_sc hS _ _) (iR_lit rfl) dX11_wrong_5 ?_ ?_
  · intro cc; have H := H.1 cc
    exact sb_vret rfl dX11_wrong_13 (H hS)
  · intro cc; have H := H.2 cc
    refine sb_aload_n (pc' := 9) rfl rfl dX11_wrong_8 ?_
    refine sb_iload_n (pc' := 10) rfl rfl dX11_wrong_9 ?_
    refine sb_putI (pc' := 13) rfl fi_102_9 (Or.inl rfl) wd_1559 dX11_wrong_10 ?_
    exact sb_vret rfl dX11_wrong_13 (H (SR_setS hS hx1))
theorem bX11_isSign_0 {g : AG} {ad : Nat → Nat} {d : Nat} {Q : AO → SG → Prop} {rc rs : Nat} {σ : SG} {x1 : Int}  (hx1 : iR x1) (hS : SR σ) (H : Cl g ad d mX11_here 0 0 [(.ref (ad 102))] σ (Ki fun r1 s1 => (((sc s1 102 7) ≤ r1 → (iR 0 → SR s1 → Q (.inl (some (vi 0))) s1)) ∧ (¬ (sc s1 102 7) ≤ r1 → (0 ≤ sc s1 102 8 ∧ sc s1 102 8 < 400) ∧ ((¬ (ia s1 106 (sc s1 102 8)) = x1 → (iR 0 → SR s1 → Q (.inl (some (vi 0))) s1)) ∧ ((ia s1 106 (sc s1 102 8)) = x1 → (iR 1 → SR s1 → Q (.inl (some (vi 1))) s1))))))) : Wb g ad d mX11_isSign Q 0 [some (.ref (ad 102)), some (vi x1)] [] σ rc rs := by
  refine sb_aload_n (pc' := 1) rfl rfl dX11_isSign_0 ?_
  obtain ⟨d1, hd1, H⟩ := H
  refine sb_callV (pc' := 4) rfl rfl (rc := rc) (rs := rs) (mc' := 0) (ms' := 0) (As := []) (st := []) of_102 rfl rfl (Nat.le_of_ble_eq_true rfl) hd1 kX11_here ⟨wd_1734, wd_1736, wd_100⟩ dX11_isSign_1 (Eb.mono H ?_)
  rintro o s1 ⟨r1, rfl, hr1, hs1, H⟩
  show Wb g ad d mX11_isSign Q 4 [some (.ref (ad 102)), some (vi x1)] [(vi r1)] s1 rc rs
  refine sb_aload_n (pc' := 5) rfl rfl dX11_isSign_4 ?_
  refine sb_getI (pc' := 8) rfl fi_102_7 wd_1557 dX11_isSign_5 ?_
  refine sb_icmp_ge (pc' := 11) (tgt := 28) rfl (by decide) hr1 (SR_sc hs1 _ _) dX11_isSign_8 ?_ ?_
  · intro cc; have H := H.1 cc
    refine sb_iconst (pc' := 29) rfl dX11_isSign_28 ?_
    exact sb_iret rfl (nar_z2 (Or.inl rfl)) dX11_isSign_29 (H (iR_lit rfl) hs1)
  · intro cc; have H := H.2 cc
    refine sb_aload_n (pc' := 12) rfl rfl dX11_isSign_11 ?_
    refine sb_getC (pc' := 15) rfl fc_102_5 wd_1555 dX11_isSign_12 ?_
    refine sb_aload_n (pc' := 16) rfl rfl dX11_isSign_15 ?_
    refine sb_getI (pc' := 19) rfl fi_102_8 wd_1558 dX11_isSign_16 ?_
    obtain ⟨o2, H⟩ := H
    refine sb_iald (pc' := 20) rfl aI_106 o2.1 o2.2 dX11_isSign_19 ?_
    refine sb_iload_n (pc' := 21) rfl rfl dX11_isSign_20 ?_
    refine sb_icmp_ne (pc' := 24) (tgt := 28) rfl (by decide) (SR_ia hs1 _ _) hx1 dX11_isSign_21 ?_ ?_
    · intro cc; have H := H.1 cc
      refine sb_iconst (pc' := 29) rfl dX11_isSign_28 ?_
      exact sb_iret rfl (nar_z2 (Or.inl rfl)) dX11_isSign_29 (H (iR_lit rfl) hs1)
    · intro cc; have H := H.2 cc
      refine sb_iconst (pc' := 25) rfl dX11_isSign_24 ?_
      refine sb_goto (tgt := 29) (by decide) dX11_isSign_25 ?_
      exact sb_iret rfl (nar_z2 (Or.inr rfl)) dX11_isSign_29 (H (iR_lit rfl) hs1)
theorem bX11_isLetter_0 {g : AG} {ad : Nat → Nat} {d : Nat} {Q : AO → SG → Prop} {rc rs : Nat} {σ : SG}    (hS : SR σ) (H : Cl g ad d mX11_here 0 0 [(.ref (ad 102))] σ (Ki fun r1 s1 => (((sc s1 102 7) ≤ r1 → (iR 0 → SR s1 → Q (.inl (some (vi 0))) s1)) ∧ (¬ (sc s1 102 7) ≤ r1 → (0 ≤ sc s1 102 8 ∧ sc s1 102 8 < 400) ∧ Cl g ad d mX11_isIn 0 0 [(vi (ia s1 106 (sc s1 102 8))), (vi 97), (vi 122)] s1 (Ki fun r3 s3 => ((r3 = 0 → (iR 0 → SR s3 → Q (.inl (some (vi 0))) s3)) ∧ (¬ r3 = 0 → (iR 1 → SR s3 → Q (.inl (some (vi 1))) s3)))))))) : Wb g ad d mX11_isLetter Q 0 [some (.ref (ad 102))] [] σ rc rs := by
  refine sb_aload_n (pc' := 1) rfl rfl dX11_isLetter_0 ?_
  obtain ⟨d1, hd1, H⟩ := H
  refine sb_callV (pc' := 4) rfl rfl (rc := rc) (rs := rs) (mc' := 0) (ms' := 0) (As := []) (st := []) of_102 rfl rfl (Nat.le_of_ble_eq_true rfl) hd1 kX11_here ⟨wd_1734, wd_1736, wd_100⟩ dX11_isLetter_1 (Eb.mono H ?_)
  rintro o s1 ⟨r1, rfl, hr1, hs1, H⟩
  show Wb g ad d mX11_isLetter Q 4 [some (.ref (ad 102))] [(vi r1)] s1 rc rs
  refine sb_aload_n (pc' := 5) rfl rfl dX11_isLetter_4 ?_
  refine sb_getI (pc' := 8) rfl fi_102_7 wd_1557 dX11_isLetter_5 ?_
  refine sb_icmp_ge (pc' := 11) (tgt := 34) rfl (by decide) hr1 (SR_sc hs1 _ _) dX11_isLetter_8 ?_ ?_
  · intro cc; have H := H.1 cc
    refine sb_iconst (pc' := 35) rfl dX11_isLetter_34 ?_
    exact sb_iret rfl (nar_z2 (Or.inl rfl)) dX11_isLetter_35 (H (iR_lit rfl) hs1)
  · intro cc; have H := H.2 cc
    refine sb_aload_n (pc' := 12) rfl rfl dX11_isLetter_11 ?_
    refine sb_getC (pc' := 15) rfl fc_102_5 wd_1555 dX11_isLetter_12 ?_
    refine sb_aload_n (pc' := 16) rfl rfl dX11_isLetter_15 ?_
    refine sb_getI (pc' := 19) rfl fi_102_8 wd_1558 dX11_isLetter_16 ?_
    obtain ⟨o2, H⟩ := H
    refine sb_iald (pc' := 20) rfl aI_106 o2.1 o2.2 dX11_isLetter_19 ?_
    refine sb_bipush (pc' := 22) rfl (z := 97) (by decide) dX11_isLetter_20 ?_
    refine sb_bipush (pc' := 24) rfl (z := 122) (by decide) dX11_isLetter_22 ?_
    obtain ⟨d3, hd3, H⟩ := H
    refine sb_callS (pc' := 27) rfl rfl (rc := rc) (rs := rs) (mc' := 0) (ms' := 0) (As := [(vi (ia s1 106 (sc s1 102 8))), (vi 97), (vi 122)]) (st := [])  rfl rfl (Nat.le_of_ble_eq_true rfl) hd3 kX11_isIn ⟨wd_1719, wd_1720⟩ dX11_isLetter_24 (Eb.mono H ?_)
    rintro o s3 ⟨r3, rfl, hr3, hs3, H⟩
    show Wb g ad d mX11_isLetter Q 27 [some (.ref (ad 102))] [(vi r3)] s3 rc rs
    refine sb_if_eq (pc' := 30) (tgt := 34) rfl (by decide) hr3 dX11_isLetter_27 ?_ ?_
    · intro cc; have H := H.1 cc
      refine sb_iconst (pc' := 35) rfl dX11_isLetter_34 ?_
      exact sb_iret rfl (nar_z2 (Or.inl rfl)) dX11_isLetter_35 (H (iR_lit rfl) hs3)
    · intro cc; have H := H.2 cc
      refine sb_iconst (pc' := 31) rfl dX11_isLetter_30 ?_
      refine sb_goto (tgt := 35) (by decide) dX11_isLetter_31 ?_
      exact sb_iret rfl (nar_z2 (Or.inr rfl)) dX11_isLetter_35 (H (iR_lit rfl) hs3)
theorem bX11_mustSign_0 {g : AG} {ad : Nat → Nat} {d : Nat} {Q : AO → SG → Prop} {rc rs : Nat} {σ : SG} {x1 : Int}  (hx1 : iR x1) (hS : SR σ) (H : (((sc σ 102 9) = ((-1)) → Cl g ad d mX11_isSign 0 0 [(.ref (ad 102)), (vi x1)] σ (Ki fun r1 s1 => ((r1 = 0 → Cl g ad d mX11_wrong 0 0 [(.ref (ad 102)), (vi (sc s1 102 8))] s1 (Kv fun s2 => (SR s2 → Q (.inl none) s2))) ∧ (¬ r1 = 0 → iR ((sc s1 102 8) + 1) ∧ (SR (setS s1 102 8 ((sc s1 102 8) + 1)) → Q (.inl none) (setS s1 102 8 ((sc s1 102 8) + 1))))))) ∧ (¬ (sc σ 102 9) = ((-1)) → (SR σ → Q (.inl none) σ)))) : Wb g ad d mX11_mustSign Q 0 [some (.ref (ad 102)), some (vi x1)] [] σ rc rs := by
  refine sb_aload_n (pc' := 1) rfl rfl dX11_mustSign_0 ?_
  refine sb_getI (pc' := 4) rfl fi_102_9 wd_1559 dX11_mustSign_1 ?_
  refine sb_iconst (pc' := 5) rfl dX11_mustSign_4 ?_
  refine sb_icmp_eq (pc' := 8) (tgt := 9) rfl (by decide) (SR_sc hS _ _) (iR_lit rfl) dX11_mustSign_5 ?_ ?_
  · intro cc; have H := H.1 cc
    refine sb_aload_n (pc' := 10) rfl rfl dX11_mustSign_9 ?_
    refine sb_iload_n (pc' := 11) rfl rfl dX11_mustSign_10 ?_
    obtain ⟨d1, hd1, H⟩ := H
    refine sb_callV (pc' := 14) rfl rfl (rc := rc) (rs := rs) (mc' := 0) (ms' := 0) (As := [(vi x1)]) (st := []) of_102 rfl rfl (Nat.le_of_ble_eq_true rfl) hd1 kX11_isSign ⟨wd_1766, wd_1768, wd_108⟩ dX11_mustSign_11 (Eb.mono H ?_)
    rintro o s1 ⟨r1, rfl, hr1, hs1, H⟩
    show Wb g ad d mX11_mustSign Q 14 [some (.ref (ad 102)), some (vi x1)] [(vi r1)] s1 rc rs
    refine sb_if_eq (pc' := 17) (tgt := 30) rfl (by decide) hr1 dX11_mustSign_14 ?_ ?_
    · intro cc; have H := H.1 cc
      refine sb_aload_n (pc' := 31) rfl rfl dX11_mustSign_30 ?_
      refine sb_aload_n (pc' := 32) rfl rfl dX11_mustSign_31 ?_
      refine sb_getI (pc' := 35) rfl fi_102_8 wd_1558 dX11_mustSign_32 ?_
      obtain ⟨d2, hd2, H⟩ := H
      refine sb_callV (pc' := 38) rfl rfl (rc := rc) (rs := rs) (mc' := 0) (ms' := 0) (As := [(vi (sc s1 102 8))]) (st := []) of_102 rfl rfl (Nat.le_of_ble_eq_true rfl) hd2 kX11_wrong ⟨wd_1738, wd_1740, wd_101⟩ dX11_mustSign_35 (Eb.mono H ?_)
      rintro o s2 ⟨rfl, hs2, H⟩
      show Wb g ad d mX11_mustSign Q 38 [some (.ref (ad 102)), some (vi x1)] [] s2 rc rs
      exact sb_vret rfl dX11_mustSign_38 (H hs2)
    · intro cc; have H := H.2 cc
      refine sb_aload_n (pc' := 18) rfl rfl dX11_mustSign_17 ?_
      refine sb_dup (pc' := 19) rfl rfl dX11_mustSign_18 ?_
      refine sb_getI (pc' := 22) rfl fi_102_8 wd_1558 dX11_mustSign_19 ?_
      refine sb_iconst (pc' := 23) rfl dX11_mustSign_22 ?_
      refine sb_iadd (pc' := 24) rfl dX11_mustSign_23 ?_
      obtain ⟨o3, H⟩ := H
      refine sb_putI (pc' := 27) rfl fi_102_8 (Or.inl rfl) wd_1558 dX11_mustSign_24 ?_
      refine sb_goto (tgt := 38) (by decide) dX11_mustSign_27 ?_
      exact sb_vret rfl dX11_mustSign_38 (H (SR_setS hs1 o3))
  · intro cc; have H := H.2 cc
    exact sb_vret rfl dX11_mustSign_8 (H hS)
theorem bX11_isSpelt_0 {g : AG} {ad : Nat → Nat} {d : Nat} {Q : AO → SG → Prop} {rc rs : Nat} {σ : SG} {x1 x2 x3 : Int}  (hx1 : iR x1) (hx2 : iR x2) (hx3 : iR x3) (hS : SR σ) (H : (0 ≤ 9 + (9 * x1) ∧ 9 + (9 * x1) < 855) ∧ (((ia σ 103 (9 + (9 * x1))) = x3 → (iR x1 → iR x2 → iR x3 → iR 0 → SR σ → Wb g ad d mX11_isSpelt Q 21 [some (.ref (ad 102)), some (vi x1), some (vi x2), some (vi x3), some (vi 0)] [] σ rc rs)) ∧ (¬ (ia σ 103 (9 + (9 * x1))) = x3 → (iR 0 → SR σ → Q (.inl (some (vi 0))) σ)))) : Wb g ad d mX11_isSpelt Q 0 [some (.ref (ad 102)), some (vi x1), some (vi x2), some (vi x3), none] [] σ rc rs := by
  refine sb_aload_n (pc' := 1) rfl rfl dX11_isSpelt_0 ?_
  refine sb_getC (pc' := 4) rfl fc_102_1 wd_1551 dX11_isSpelt_1 ?_
  refine sb_bipush (pc' := 6) rfl (z := 9) (by decide) dX11_isSpelt_4 ?_
  refine sb_bipush (pc' := 8) rfl (z := 9) (by decide) dX11_isSpelt_6 ?_
  refine sb_iload_n (pc' := 9) rfl rfl dX11_isSpelt_8 ?_
  refine sb_imul (pc' := 10) rfl dX11_isSpelt_9 ?_
  refine sb_iadd (pc' := 11) rfl dX11_isSpelt_10 ?_
  obtain ⟨o1, H⟩ := H
  refine sb_iald (pc' := 12) rfl aI_103 o1.1 o1.2 dX11_isSpelt_11 ?_
  refine sb_iload_n (pc' := 13) rfl rfl dX11_isSpelt_12 ?_
  refine sb_icmp_eq (pc' := 16) (tgt := 18) rfl (by decide) (SR_ia hS _ _) hx3 dX11_isSpelt_13 ?_ ?_
  · intro cc; have H := H.1 cc
    refine sb_iconst (pc' := 19) rfl dX11_isSpelt_18 ?_
    refine sb_istore (pc' := 21) rfl (L' := [some (.ref (ad 102)), some (vi x1), some (vi x2), some (vi x3), some (vi 0)]) rfl (by decide) dX11_isSpelt_19 ?_
    exact (H hx1 hx2 hx3 (iR_lit rfl) hS)
  · intro cc; have H := H.2 cc
    refine sb_iconst (pc' := 17) rfl dX11_isSpelt_16 ?_
    exact sb_iret rfl (nar_z2 (Or.inl rfl)) dX11_isSpelt_17 (H (iR_lit rfl) hS)
theorem bX11_isSpelt_21 {g : AG} {ad : Nat → Nat} {d : Nat} {Q : AO → SG → Prop} {rc rs : Nat} {σ : SG} {x1 x2 x3 x4 : Int}  (hx1 : iR x1) (hx2 : iR x2) (hx3 : iR x3) (hx4 : iR x4) (hS : SR σ) (H : ((x3 ≤ x4 → (iR 1 → SR σ → Q (.inl (some (vi 1))) σ)) ∧ (¬ x3 ≤ x4 → (0 ≤ ((9 + (9 * x1)) + 1) + x4 ∧ ((9 + (9 * x1)) + 1) + x4 < 855) ∧ (0 ≤ x2 + x4 ∧ x2 + x4 < 400) ∧ iR ((ia σ 106 (x2 + x4)) - 97) ∧ (((ia σ 103 (((9 + (9 * x1)) + 1) + x4)) = ((ia σ 106 (x2 + x4)) - 97) → iR (x4 + 1) ∧ (iR x1 → iR x2 → iR x3 → iR (x4 + 1) → SR σ → Wb g ad d mX11_isSpelt Q 21 [some (.ref (ad 102)), some (vi x1), some (vi x2), some (vi x3), some (vi (x4 + 1))] [] σ rc rs)) ∧ (¬ (ia σ 103 (((9 + (9 * x1)) + 1) + x4)) = ((ia σ 106 (x2 + x4)) - 97) → (iR 0 → SR σ → Q (.inl (some (vi 0))) σ)))))) : Wb g ad d mX11_isSpelt Q 21 [some (.ref (ad 102)), some (vi x1), some (vi x2), some (vi x3), some (vi x4)] [] σ rc rs := by
  refine sb_iload (pc' := 23) rfl rfl dX11_isSpelt_21 ?_
  refine sb_iload_n (pc' := 24) rfl rfl dX11_isSpelt_23 ?_
  refine sb_icmp_ge (pc' := 27) (tgt := 67) rfl (by decide) hx4 hx3 dX11_isSpelt_24 ?_ ?_
  · intro cc; have H := H.1 cc
    refine sb_iconst (pc' := 68) rfl dX11_isSpelt_67 ?_
    exact sb_iret rfl (nar_z2 (Or.inr rfl)) dX11_isSpelt_68 (H (iR_lit rfl) hS)
  · intro cc; have H := H.2 cc
    refine sb_aload_n (pc' := 28) rfl rfl dX11_isSpelt_27 ?_
    refine sb_getC (pc' := 31) rfl fc_102_1 wd_1551 dX11_isSpelt_28 ?_
    refine sb_bipush (pc' := 33) rfl (z := 9) (by decide) dX11_isSpelt_31 ?_
    refine sb_bipush (pc' := 35) rfl (z := 9) (by decide) dX11_isSpelt_33 ?_
    refine sb_iload_n (pc' := 36) rfl rfl dX11_isSpelt_35 ?_
    refine sb_imul (pc' := 37) rfl dX11_isSpelt_36 ?_
    refine sb_iadd (pc' := 38) rfl dX11_isSpelt_37 ?_
    refine sb_iconst (pc' := 39) rfl dX11_isSpelt_38 ?_
    refine sb_iadd (pc' := 40) rfl dX11_isSpelt_39 ?_
    refine sb_iload (pc' := 42) rfl rfl dX11_isSpelt_40 ?_
    refine sb_iadd (pc' := 43) rfl dX11_isSpelt_42 ?_
    obtain ⟨o1, H⟩ := H
    refine sb_iald (pc' := 44) rfl aI_103 o1.1 o1.2 dX11_isSpelt_43 ?_
    refine sb_aload_n (pc' := 45) rfl rfl dX11_isSpelt_44 ?_
    refine sb_getC (pc' := 48) rfl fc_102_5 wd_1555 dX11_isSpelt_45 ?_
    refine sb_iload_n (pc' := 49) rfl rfl dX11_isSpelt_48 ?_
    refine sb_iload (pc' := 51) rfl rfl dX11_isSpelt_49 ?_
    refine sb_iadd (pc' := 52) rfl dX11_isSpelt_51 ?_
    obtain ⟨o2, H⟩ := H
    refine sb_iald (pc' := 53) rfl aI_106 o2.1 o2.2 dX11_isSpelt_52 ?_
    refine sb_bipush (pc' := 55) rfl (z := 97) (by decide) dX11_isSpelt_53 ?_
    refine sb_isub (pc' := 56) rfl dX11_isSpelt_55 ?_
    obtain ⟨o3, H⟩ := H
    refine sb_icmp_eq (pc' := 59) (tgt := 61) rfl (by decide) (SR_ia hS _ _) o3 dX11_isSpelt_56 ?_ ?_
    · intro cc; have H := H.1 cc
      refine sb_iinc (pc' := 64) rfl rfl (L' := [some (.ref (ad 102)), some (vi x1), some (vi x2), some (vi x3), some (vi (x4 + 1))]) rfl (by decide) dX11_isSpelt_61 ?_
      refine sb_goto (tgt := 21) (by decide) dX11_isSpelt_64 ?_
      obtain ⟨o4, H⟩ := H
      exact (H hx1 hx2 hx3 o4 hS)
    · intro cc; have H := H.2 cc
      refine sb_iconst (pc' := 60) rfl dX11_isSpelt_59 ?_
      exact sb_iret rfl (nar_z2 (Or.inl rfl)) dX11_isSpelt_60 (H (iR_lit rfl) hS)
theorem bX11_word_0 {g : AG} {ad : Nat → Nat} {d : Nat} {Q : AO → SG → Prop} {rc rs : Nat} {σ : SG} {x1 : Int}  (hx1 : iR x1) (hS : SR σ) (H : (((sc σ 102 9) = ((-1)) → Cl g ad d mX11_here 0 0 [(.ref (ad 102))] σ (Ki fun r1 s1 => (iR x1 → iR r1 → SR s1 → Wb g ad d mX11_word Q 15 [some (.ref (ad 102)), some (vi x1), some (vi r1), none, none, none] [] s1 rc rs))) ∧ (¬ (sc σ 102 9) = ((-1)) → (iR 0 → SR σ → Q (.inl (some (vi 0))) σ)))) : Wb g ad d mX11_word Q 0 [some (.ref (ad 102)), some (vi x1), none, none, none, none] [] σ rc rs := by
  refine sb_aload_n (pc' := 1) rfl rfl dX11_word_0 ?_
  refine sb_getI (pc' := 4) rfl fi_102_9 wd_1559 dX11_word_1 ?_
  refine sb_iconst (pc' := 5) rfl dX11_word_4 ?_
  refine sb_icmp_eq (pc' := 8) (tgt := 10) rfl (by decide) (SR_sc hS _ _) (iR_lit rfl) dX11_word_5 ?_ ?_
  · intro cc; have H := H.1 cc
    refine sb_aload_n (pc' := 11) rfl rfl dX11_word_10 ?_
    obtain ⟨d1, hd1, H⟩ := H
    refine sb_callV (pc' := 14) rfl rfl (rc := rc) (rs := rs) (mc' := 0) (ms' := 0) (As := []) (st := []) of_102 rfl rfl (Nat.le_of_ble_eq_true rfl) hd1 kX11_here ⟨wd_1734, wd_1736, wd_100⟩ dX11_word_11 (Eb.mono H ?_)
    rintro o s1 ⟨r1, rfl, hr1, hs1, H⟩
    show Wb g ad d mX11_word Q 14 [some (.ref (ad 102)), some (vi x1), none, none, none, none] [(vi r1)] s1 rc rs
    refine sb_istore_n (pc' := 15) rfl (L' := [some (.ref (ad 102)), some (vi x1), some (vi r1), none, none, none]) rfl (by decide) dX11_word_14 ?_
    exact (H hx1 hr1 hs1)
  · intro cc; have H := H.2 cc
    refine sb_iconst (pc' := 9) rfl dX11_word_8 ?_
    exact sb_iret rfl rfl dX11_word_9 (H (iR_lit rfl) hS)
theorem bX11_word_15 {g : AG} {ad : Nat → Nat} {d : Nat} {Q : AO → SG → Prop} {rc rs : Nat} {σ : SG} {x1 x2 : Int}  (hx1 : iR x1) (hx2 : iR x2) (hS : SR σ) (H : (((sc σ 102 7) ≤ (sc σ 102 8) → iR ((sc σ 102 8) - x2) ∧ ((((sc σ 102 8) - x2) = 0 → Cl g ad d mX11_wrong 0 0 [(.ref (ad 102)), (vi x2)] σ (Kv fun s2 => (iR 0 → SR s2 → Q (.inl (some (vi 0))) s2))) ∧ (¬ ((sc σ 102 8) - x2) = 0 → ((((sc σ 102 8) - x2) ≤ 8 → (iR x1 → iR x2 → iR ((sc σ 102 8) - x2) → iR 0 → SR σ → Wb g ad d mX11_word Q 85 [some (.ref (ad 102)), some (vi x1), some (vi x2), some (vi ((sc σ 102 8) - x2)), some (vi 0), none] [] σ rc rs)) ∧ (¬ ((sc σ 102 8) - x2) ≤ 8 → Cl g ad d mX11_wrong 0 0 [(.ref (ad 102)), (vi x2)] σ (Kv fun s3 => (iR 0 → SR s3 → Q (.inl (some (vi 0))) s3))))))) ∧ (¬ (sc σ 102 7) ≤ (sc σ 102 8) → (0 ≤ sc σ 102 8 ∧ sc σ 102 8 < 400) ∧ Cl g ad d mX11_isIn 0 0 [(vi (ia σ 106 (sc σ 102 8))), (vi 97), (vi 122)] σ (Ki fun r5 s5 => ((r5 = 0 → iR ((sc s5 102 8) - x2) ∧ ((((sc s5 102 8) - x2) = 0 → Cl g ad d mX11_wrong 0 0 [(.ref (ad 102)), (vi x2)] s5 (Kv fun s7 => (iR 0 → SR s7 → Q (.inl (some (vi 0))) s7))) ∧ (¬ ((sc s5 102 8) - x2) = 0 → ((((sc s5 102 8) - x2) ≤ 8 → (iR x1 → iR x2 → iR ((sc s5 102 8) - x2) → iR 0 → SR s5 → Wb g ad d mX11_word Q 85 [some (.ref (ad 102)), some (vi x1), some (vi x2), some (vi ((sc s5 102 8) - x2)), some (vi 0), none] [] s5 rc rs)) ∧ (¬ ((sc s5 102 8) - x2) ≤ 8 → Cl g ad d mX11_wrong 0 0 [(.ref (ad 102)), (vi x2)] s5 (Kv fun s8 => (iR 0 → SR s8 → Q (.inl (some (vi 0))) s8))))))) ∧ (¬ r5 = 0 → iR ((sc s5 102 8) + 1) ∧ (iR x1 → iR x2 → SR (setS s5 102 8 ((sc s5 102 8) + 1)) → Wb g ad d mX11_word Q 15 [some (.ref (ad 102)), some (vi x1), some (vi x2), none, none, none] [] (setS s5 102 8 ((sc s5 102 8) + 1)) rc rs))))))) : Wb g ad d mX11_word Q 15 [some (.ref (ad 102)), some (vi x1), some (vi x2), none, none, none] [] σ rc rs := by
  refine sb_aload_n (pc' := 16) rfl rfl dX11_word_15 ?_
  refine sb_getI (pc' := 19) rfl fi_102_8 wd_1558 dX11_word_16 ?_
  refine sb_aload_n (pc' := 20) rfl rfl dX11_word_19 ?_
  refine sb_getI (pc' := 23) rfl fi_102_7 wd_1557 dX11_word_20 ?_
  refine sb_icmp_ge (pc' := 26) (tgt := 58) rfl (by decide) (SR_sc hS _ _) (SR_sc hS _ _) dX11_word_23 ?_ ?_
  · intro cc; have H := H.1 cc
    refine sb_aload_n (pc' := 59) rfl rfl dX11_word_58 ?_
    refine sb_getI (pc' := 62) rfl fi_102_8 wd_1558 dX11_word_59 ?_
    refine sb_iload_n (pc' := 63) rfl rfl dX11_word_62 ?_
    refine sb_isub (pc' := 64) rfl dX11_word_63 ?_
    refine sb_istore_n (pc' := 65) rfl (L' := [some (.ref (ad 102)), some (vi x1), some (vi x2), some (vi ((sc σ 102 8) - x2)), none, none]) rfl (by decide) dX11_word_64 ?_
    refine sb_iload_n (pc' := 66) rfl rfl dX11_word_65 ?_
    obtain ⟨o1, H⟩ := H
    refine sb_if_eq (pc' := 69) (tgt := 75) rfl (by decide) o1 dX11_word_66 ?_ ?_
    · intro cc; have H := H.1 cc
      refine sb_aload_n (pc' := 76) rfl rfl dX11_word_75 ?_
      refine sb_iload_n (pc' := 77) rfl rfl dX11_word_76 ?_
      obtain ⟨d2, hd2, H⟩ := H
      refine sb_callV (pc' := 80) rfl rfl (rc := rc) (rs := rs) (mc' := 0) (ms' := 0) (As := [(vi x2)]) (st := []) of_102 rfl rfl (Nat.le_of_ble_eq_true rfl) hd2 kX11_wrong ⟨wd_1738, wd_1740, wd_101⟩ dX11_word_77 (Eb.mono H ?_)
      rintro o s2 ⟨rfl, hs2, H⟩
      show Wb g ad d mX11_word Q 80 [some (.ref (ad 102)), some (vi x1), some (vi x2), some (vi ((sc σ 102 8) - x2)), none, none] [] s2 rc rs
      refine sb_iconst (pc' := 81) rfl dX11_word_80 ?_
      exact sb_iret rfl rfl dX11_word_81 (H (iR_lit rfl) hs2)
    · intro cc; have H := H.2 cc
      refine sb_iload_n (pc' := 70) rfl rfl dX11_word_69 ?_
      refine sb_bipush (pc' := 72) rfl (z := 8) (by decide) dX11_word_70 ?_
      refine sb_icmp_le (pc' := 75) (tgt := 82) rfl (by decide) o1 (iR_lit rfl) dX11_word_72 ?_ ?_
      · intro cc; have H := H.1 cc
        refine sb_iconst (pc' := 83) rfl dX11_word_82 ?_
        refine sb_istore (pc' := 85) rfl (L' := [some (.ref (ad 102)), some (vi x1), some (vi x2), some (vi ((sc σ 102 8) - x2)), some (vi 0), none]) rfl (by decide) dX11_word_83 ?_
        exact (H hx1 hx2 o1 (iR_lit rfl) hS)
      · intro cc; have H := H.2 cc
        refine sb_aload_n (pc' := 76) rfl rfl dX11_word_75 ?_
        refine sb_iload_n (pc' := 77) rfl rfl dX11_word_76 ?_
        obtain ⟨d3, hd3, H⟩ := H
        refine sb_callV (pc' := 80) rfl rfl (rc := rc) (rs := rs) (mc' := 0) (ms' := 0) (As := [(vi x2)]) (st := []) of_102 rfl rfl (Nat.le_of_ble_eq_true rfl) hd3 kX11_wrong ⟨wd_1738, wd_1740, wd_101⟩ dX11_word_77 (Eb.mono H ?_)
        rintro o s3 ⟨rfl, hs3, H⟩
        show Wb g ad d mX11_word Q 80 [some (.ref (ad 102)), some (vi x1), some (vi x2), some (vi ((sc σ 102 8) - x2)), none, none] [] s3 rc rs
        refine sb_iconst (pc' := 81) rfl dX11_word_80 ?_
        exact sb_iret rfl rfl dX11_word_81 (H (iR_lit rfl) hs3)
  · intro cc; have H := H.2 cc
    refine sb_aload_n (pc' := 27) rfl rfl dX11_word_26 ?_
    refine sb_getC (pc' := 30) rfl fc_102_5 wd_1555 dX11_word_27 ?_
    refine sb_aload_n (pc' := 31) rfl rfl dX11_word_30 ?_
    refine sb_getI (pc' := 34) rfl fi_102_8 wd_1558 dX11_word_31 ?_
    obtain ⟨o4, H⟩ := H
    refine sb_iald (pc' := 35) rfl aI_106 o4.1 o4.2 dX11_word_34 ?_
    refine sb_bipush (pc' := 37) rfl (z := 97) (by decide) dX11_word_35 ?_
    refine sb_bipush (pc' := 39) rfl (z := 122) (by decide) dX11_word_37 ?_
    obtain ⟨d5, hd5, H⟩ := H
    refine sb_callS (pc' := 42) rfl rfl (rc := rc) (rs := rs) (mc' := 0) (ms' := 0) (As := [(vi (ia σ 106 (sc σ 102 8))), (vi 97), (vi 122)]) (st := [])  rfl rfl (Nat.le_of_ble_eq_true rfl) hd5 kX11_isIn ⟨wd_1719, wd_1720⟩ dX11_word_39 (Eb.mono H ?_)
    rintro o s5 ⟨r5, rfl, hr5, hs5, H⟩
    show Wb g ad d mX11_word Q 42 [some (.ref (ad 102)), some (vi x1), some (vi x2), none, none, none] [(vi r5)] s5 rc rs
    refine sb_if_eq (pc' := 45) (tgt := 58) rfl (by decide) hr5 dX11_word_42 ?_ ?_
    · intro cc; have H := H.1 cc
      refine sb_aload_n (pc' := 59) rfl rfl dX11_word_58 ?_
      refine sb_getI (pc' := 62) rfl fi_102_8 wd_1558 dX11_word_59 ?_
      refine sb_iload_n (pc' := 63) rfl rfl dX11_word_62 ?_
      refine sb_isub (pc' := 64) rfl dX11_word_63 ?_
      refine sb_istore_n (pc' := 65) rfl (L' := [some (.ref (ad 102)), some (vi x1), some (vi x2), some (vi ((sc s5 102 8) - x2)), none, none]) rfl (by decide) dX11_word_64 ?_
      refine sb_iload_n (pc' := 66) rfl rfl dX11_word_65 ?_
      obtain ⟨o6, H⟩ := H
      refine sb_if_eq (pc' := 69) (tgt := 75) rfl (by decide) o6 dX11_word_66 ?_ ?_
      · intro cc; have H := H.1 cc
        refine sb_aload_n (pc' := 76) rfl rfl dX11_word_75 ?_
        refine sb_iload_n (pc' := 77) rfl rfl dX11_word_76 ?_
        obtain ⟨d7, hd7, H⟩ := H
        refine sb_callV (pc' := 80) rfl rfl (rc := rc) (rs := rs) (mc' := 0) (ms' := 0) (As := [(vi x2)]) (st := []) of_102 rfl rfl (Nat.le_of_ble_eq_true rfl) hd7 kX11_wrong ⟨wd_1738, wd_1740, wd_101⟩ dX11_word_77 (Eb.mono H ?_)
        rintro o s7 ⟨rfl, hs7, H⟩
        show Wb g ad d mX11_word Q 80 [some (.ref (ad 102)), some (vi x1), some (vi x2), some (vi ((sc s5 102 8) - x2)), none, none] [] s7 rc rs
        refine sb_iconst (pc' := 81) rfl dX11_word_80 ?_
        exact sb_iret rfl rfl dX11_word_81 (H (iR_lit rfl) hs7)
      · intro cc; have H := H.2 cc
        refine sb_iload_n (pc' := 70) rfl rfl dX11_word_69 ?_
        refine sb_bipush (pc' := 72) rfl (z := 8) (by decide) dX11_word_70 ?_
        refine sb_icmp_le (pc' := 75) (tgt := 82) rfl (by decide) o6 (iR_lit rfl) dX11_word_72 ?_ ?_
        · intro cc; have H := H.1 cc
          refine sb_iconst (pc' := 83) rfl dX11_word_82 ?_
          refine sb_istore (pc' := 85) rfl (L' := [some (.ref (ad 102)), some (vi x1), some (vi x2), some (vi ((sc s5 102 8) - x2)), some (vi 0), none]) rfl (by decide) dX11_word_83 ?_
          exact (H hx1 hx2 o6 (iR_lit rfl) hs5)
        · intro cc; have H := H.2 cc
          refine sb_aload_n (pc' := 76) rfl rfl dX11_word_75 ?_
          refine sb_iload_n (pc' := 77) rfl rfl dX11_word_76 ?_
          obtain ⟨d8, hd8, H⟩ := H
          refine sb_callV (pc' := 80) rfl rfl (rc := rc) (rs := rs) (mc' := 0) (ms' := 0) (As := [(vi x2)]) (st := []) of_102 rfl rfl (Nat.le_of_ble_eq_true rfl) hd8 kX11_wrong ⟨wd_1738, wd_1740, wd_101⟩ dX11_word_77 (Eb.mono H ?_)
          rintro o s8 ⟨rfl, hs8, H⟩
          show Wb g ad d mX11_word Q 80 [some (.ref (ad 102)), some (vi x1), some (vi x2), some (vi ((sc s5 102 8) - x2)), none, none] [] s8 rc rs
          refine sb_iconst (pc' := 81) rfl dX11_word_80 ?_
          exact sb_iret rfl rfl dX11_word_81 (H (iR_lit rfl) hs8)
    · intro cc; have H := H.2 cc
      refine sb_aload_n (pc' := 46) rfl rfl dX11_word_45 ?_
      refine sb_dup (pc' := 47) rfl rfl dX11_word_46 ?_
      refine sb_getI (pc' := 50) rfl fi_102_8 wd_1558 dX11_word_47 ?_
      refine sb_iconst (pc' := 51) rfl dX11_word_50 ?_
      refine sb_iadd (pc' := 52) rfl dX11_word_51 ?_
      obtain ⟨o9, H⟩ := H
      refine sb_putI (pc' := 55) rfl fi_102_8 (Or.inl rfl) wd_1558 dX11_word_52 ?_
      refine sb_goto (tgt := 15) (by decide) dX11_word_55 ?_
      exact (H hx1 hx2 (SR_setS hs5 o9))
theorem bX11_word_85 {g : AG} {ad : Nat → Nat} {d : Nat} {Q : AO → SG → Prop} {rc rs : Nat} {σ : SG} {x1 x2 x3 x4 : Int}  (hx1 : iR x1) (hx2 : iR x2) (hx3 : iR x3) (hx4 : iR x4) (hS : SR σ) (H : (((ia σ 103 0) ≤ x4 → ((¬ x1 = 0 → ((¬ (ia σ 103 0) = 40 → (0 ≤ 9 + (9 * (ia σ 103 0)) ∧ 9 + (9 * (ia σ 103 0)) < 855) ∧ iR (9 + (9 * (ia σ 103 0))) ∧ (iR x1 → iR x2 → iR x3 → iR (9 + (9 * (ia σ 103 0))) → iR 0 → SR (setI σ 103 (9 + (9 * (ia σ 103 0))) x3) → Wb g ad d mX11_word Q 166 [some (.ref (ad 102)), some (vi x1), some (vi x2), some (vi x3), some (vi (9 + (9 * (ia σ 103 0)))), some (vi 0)] [] (setI σ 103 (9 + (9 * (ia σ 103 0))) x3) rc rs)) ∧ ((ia σ 103 0) = 40 → Cl g ad d mX11_wrong 0 0 [(.ref (ad 102)), (vi x2)] σ (Kv fun s3 => (iR 0 → SR s3 → Q (.inl (some (vi 0))) s3))))) ∧ (x1 = 0 → (iR ((-2)) → SR σ → Q (.inl (some (vi ((-2))))) σ)))) ∧ (¬ (ia σ 103 0) ≤ x4 → Cl g ad d mX11_isSpelt 0 0 [(.ref (ad 102)), (vi x4), (vi x2), (vi x3)] σ (Ki fun r4 s4 => ((r4 = 0 → iR (x4 + 1) ∧ (iR x1 → iR x2 → iR x3 → iR (x4 + 1) → SR s4 → Wb g ad d mX11_word Q 85 [some (.ref (ad 102)), some (vi x1), some (vi x2), some (vi x3), some (vi (x4 + 1)), none] [] s4 rc rs)) ∧ (¬ r4 = 0 → (iR x4 → SR s4 → Q (.inl (some (vi x4))) s4))))))) : Wb g ad d mX11_word Q 85 [some (.ref (ad 102)), some (vi x1), some (vi x2), some (vi x3), some (vi x4), none] [] σ rc rs := by
  refine sb_iload (pc' := 87) rfl rfl dX11_word_85 ?_
  refine sb_aload_n (pc' := 88) rfl rfl dX11_word_87 ?_
  refine sb_getC (pc' := 91) rfl fc_102_1 wd_1551 dX11_word_88 ?_
  refine sb_iconst (pc' := 92) rfl dX11_word_91 ?_
  refine sb_iald (pc' := 93) rfl aI_103 (by decide) (by decide) dX11_word_92 ?_
  refine sb_icmp_ge (pc' := 96) (tgt := 116) rfl (by decide) hx4 (SR_ia hS _ _) dX11_word_93 ?_ ?_
  · intro cc; have H := H.1 cc
    refine sb_iload_n (pc' := 117) rfl rfl dX11_word_116 ?_
    refine sb_if_ne (pc' := 120) (tgt := 123) rfl (by decide) hx1 dX11_word_117 ?_ ?_
    · intro cc; have H := H.1 cc
      refine sb_aload_n (pc' := 124) rfl rfl dX11_word_123 ?_
      refine sb_getC (pc' := 127) rfl fc_102_1 wd_1551 dX11_word_124 ?_
      refine sb_iconst (pc' := 128) rfl dX11_word_127 ?_
      refine sb_iald (pc' := 129) rfl aI_103 (by decide) (by decide) dX11_word_128 ?_
      refine sb_bipush (pc' := 131) rfl (z := 40) (by decide) dX11_word_129 ?_
      refine sb_icmp_ne (pc' := 134) (tgt := 141) rfl (by decide) (SR_ia hS _ _) (iR_lit rfl) dX11_word_131 ?_ ?_
      · intro cc; have H := H.1 cc
        refine sb_bipush (pc' := 143) rfl (z := 9) (by decide) dX11_word_141 ?_
        refine sb_bipush (pc' := 145) rfl (z := 9) (by decide) dX11_word_143 ?_
        refine sb_aload_n (pc' := 146) rfl rfl dX11_word_145 ?_
        refine sb_getC (pc' := 149) rfl fc_102_1 wd_1551 dX11_word_146 ?_
        refine sb_iconst (pc' := 150) rfl dX11_word_149 ?_
        refine sb_iald (pc' := 151) rfl aI_103 (by decide) (by decide) dX11_word_150 ?_
        refine sb_imul (pc' := 152) rfl dX11_word_151 ?_
        refine sb_iadd (pc' := 153) rfl dX11_word_152 ?_
        refine sb_istore (pc' := 155) rfl (L' := [some (.ref (ad 102)), some (vi x1), some (vi x2), some (vi x3), some (vi (9 + (9 * (ia σ 103 0)))), none]) rfl (by decide) dX11_word_153 ?_
        refine sb_aload_n (pc' := 156) rfl rfl dX11_word_155 ?_
        refine sb_getC (pc' := 159) rfl fc_102_1 wd_1551 dX11_word_156 ?_
        refine sb_iload (pc' := 161) rfl rfl dX11_word_159 ?_
        refine sb_iload_n (pc' := 162) rfl rfl dX11_word_161 ?_
        obtain ⟨o1, H⟩ := H
        refine sb_iast (pc' := 163) rfl aI_103 o1.1 o1.2  dX11_word_162 ?_
        refine sb_iconst (pc' := 164) rfl dX11_word_163 ?_
        refine sb_istore (pc' := 166) rfl (L' := [some (.ref (ad 102)), some (vi x1), some (vi x2), some (vi x3), some (vi (9 + (9 * (ia σ 103 0)))), some (vi 0)]) rfl (by decide) dX11_word_164 ?_
        obtain ⟨o2, H⟩ := H
        exact (H hx1 hx2 hx3 o2 (iR_lit rfl) (SR_setI hS hx3))
      · intro cc; have H := H.2 cc
        refine sb_aload_n (pc' := 135) rfl rfl dX11_word_134 ?_
        refine sb_iload_n (pc' := 136) rfl rfl dX11_word_135 ?_
        obtain ⟨d3, hd3, H⟩ := H
        refine sb_callV (pc' := 139) rfl rfl (rc := rc) (rs := rs) (mc' := 0) (ms' := 0) (As := [(vi x2)]) (st := []) of_102 rfl rfl (Nat.le_of_ble_eq_true rfl) hd3 kX11_wrong ⟨wd_1738, wd_1740, wd_101⟩ dX11_word_136 (Eb.mono H ?_)
        rintro o s3 ⟨rfl, hs3, H⟩
        show Wb g ad d mX11_word Q 139 [some (.ref (ad 102)), some (vi x1), some (vi x2), some (vi x3), some (vi x4), none] [] s3 rc rs
        refine sb_iconst (pc' := 140) rfl dX11_word_139 ?_
        exact sb_iret rfl rfl dX11_word_140 (H (iR_lit rfl) hs3)
    · intro cc; have H := H.2 cc
      refine sb_bipush (pc' := 122) rfl (z := (-2)) (by decide) dX11_word_120 ?_
      exact sb_iret rfl rfl dX11_word_122 (H (iR_lit rfl) hS)
  · intro cc; have H := H.2 cc
    refine sb_aload_n (pc' := 97) rfl rfl dX11_word_96 ?_
    refine sb_iload (pc' := 99) rfl rfl dX11_word_97 ?_
    refine sb_iload_n (pc' := 100) rfl rfl dX11_word_99 ?_
    refine sb_iload_n (pc' := 101) rfl rfl dX11_word_100 ?_
    obtain ⟨d4, hd4, H⟩ := H
    refine sb_callV (pc' := 104) rfl rfl (rc := rc) (rs := rs) (mc' := 0) (ms' := 0) (As := [(vi x4), (vi x2), (vi x3)]) (st := []) of_102 rfl rfl (Nat.le_of_ble_eq_true rfl) hd4 kX11_isSpelt ⟨wd_1758, wd_1760, wd_106⟩ dX11_word_101 (Eb.mono H ?_)
    rintro o s4 ⟨r4, rfl, hr4, hs4, H⟩
    show Wb g ad d mX11_word Q 104 [some (.ref (ad 102)), some (vi x1), some (vi x2), some (vi x3), some (vi x4), none] [(vi r4)] s4 rc rs
    refine sb_if_eq (pc' := 107) (tgt := 110) rfl (by decide) hr4 dX11_word_104 ?_ ?_
    · intro cc; have H := H.1 cc
      refine sb_iinc (pc' := 113) rfl rfl (L' := [some (.ref (ad 102)), some (vi x1), some (vi x2), some (vi x3), some (vi (x4 + 1)), none]) rfl (by decide) dX11_word_110 ?_
      refine sb_goto (tgt := 85) (by decide) dX11_word_113 ?_
      obtain ⟨o5, H⟩ := H
      exact (H hx1 hx2 hx3 o5 hs4)
    · intro cc; have H := H.2 cc
      refine sb_iload (pc' := 109) rfl rfl dX11_word_107 ?_
      exact sb_iret rfl rfl dX11_word_109 (H hx4 hs4)
theorem bX11_word_166 {g : AG} {ad : Nat → Nat} {d : Nat} {Q : AO → SG → Prop} {rc rs : Nat} {σ : SG} {x1 x2 x3 x4 x5 : Int}  (hx1 : iR x1) (hx2 : iR x2) (hx3 : iR x3) (hx4 : iR x4) (hx5 : iR x5) (hS : SR σ) (H : ((8 ≤ x5 → iR ((ia σ 103 0) + 1) ∧ iR ((ia (setI σ 103 0 ((ia σ 103 0) + 1)) 103 0) - 1) ∧ (iR ((ia (setI σ 103 0 ((ia σ 103 0) + 1)) 103 0) - 1) → SR (setI σ 103 0 ((ia σ 103 0) + 1)) → Q (.inl (some (vi ((ia (setI σ 103 0 ((ia σ 103 0) + 1)) 103 0) - 1)))) (setI σ 103 0 ((ia σ 103 0) + 1)))) ∧ (¬ 8 ≤ x5 → ((x3 ≤ x5 → (0 ≤ (x4 + 1) + x5 ∧ (x4 + 1) + x5 < 855) ∧ iR (x5 + 1) ∧ (iR x1 → iR x2 → iR x3 → iR x4 → iR (x5 + 1) → SR (setI σ 103 ((x4 + 1) + x5) 0) → Wb g ad d mX11_word Q 166 [some (.ref (ad 102)), some (vi x1), some (vi x2), some (vi x3), some (vi x4), some (vi (x5 + 1))] [] (setI σ 103 ((x4 + 1) + x5) 0) rc rs)) ∧ (¬ x3 ≤ x5 → (0 ≤ x2 + x5 ∧ x2 + x5 < 400) ∧ (0 ≤ (x4 + 1) + x5 ∧ (x4 + 1) + x5 < 855) ∧ iR ((ia σ 106 (x2 + x5)) - 97) ∧ iR (x5 + 1) ∧ (iR x1 → iR x2 → iR x3 → iR x4 → iR (x5 + 1) → SR (setI σ 103 ((x4 + 1) + x5) ((ia σ 106 (x2 + x5)) - 97)) → Wb g ad d mX11_word Q 166 [some (.ref (ad 102)), some (vi x1), some (vi x2), some (vi x3), some (vi x4), some (vi (x5 + 1))] [] (setI σ 103 ((x4 + 1) + x5) ((ia σ 106 (x2 + x5)) - 97)) rc rs)))))) : Wb g ad d mX11_word Q 166 [some (.ref (ad 102)), some (vi x1), some (vi x2), some (vi x3), some (vi x4), some (vi x5)] [] σ rc rs := by
  refine sb_iload (pc' := 168) rfl rfl dX11_word_166 ?_
  refine sb_bipush (pc' := 170) rfl (z := 8) (by decide) dX11_word_168 ?_
  refine sb_icmp_ge (pc' := 173) (tgt := 213) rfl (by decide) hx5 (iR_lit rfl) dX11_word_170 ?_ ?_
  · intro cc; have H := H.1 cc
    refine sb_aload_n (pc' := 214) rfl rfl dX11_word_213 ?_
    refine sb_getC (pc' := 217) rfl fc_102_1 wd_1551 dX11_word_214 ?_
    refine sb_iconst (pc' := 218) rfl dX11_word_217 ?_
    refine sb_dup2 (pc' := 219) rfl rfl rfl dX11_word_218 ?_
    refine sb_iald (pc' := 220) rfl aI_103 (by decide) (by decide) dX11_word_219 ?_
    refine sb_iconst (pc' := 221) rfl dX11_word_220 ?_
    refine sb_iadd (pc' := 222) rfl dX11_word_221 ?_
    obtain ⟨o1, H⟩ := H
    refine sb_iast (pc' := 223) rfl aI_103 (by decide) (by decide)  dX11_word_222 ?_
    refine sb_aload_n (pc' := 224) rfl rfl dX11_word_223 ?_
    refine sb_getC (pc' := 227) rfl fc_102_1 wd_1551 dX11_word_224 ?_
    refine sb_iconst (pc' := 228) rfl dX11_word_227 ?_
    refine sb_iald (pc' := 229) rfl aI_103 (by decide) (by decide) dX11_word_228 ?_
    refine sb_iconst (pc' := 230) rfl dX11_word_229 ?_
    refine sb_isub (pc' := 231) rfl dX11_word_230 ?_
    obtain ⟨o2, H⟩ := H
    exact sb_iret rfl rfl dX11_word_231 (H o2 (SR_setI hS o1))
  · intro cc; have H := H.2 cc
    refine sb_aload_n (pc' := 174) rfl rfl dX11_word_173 ?_
    refine sb_getC (pc' := 177) rfl fc_102_1 wd_1551 dX11_word_174 ?_
    refine sb_iload (pc' := 179) rfl rfl dX11_word_177 ?_
    refine sb_iconst (pc' := 180) rfl dX11_word_179 ?_
    refine sb_iadd (pc' := 181) rfl dX11_word_180 ?_
    refine sb_iload (pc' := 183) rfl rfl dX11_word_181 ?_
    refine sb_iadd (pc' := 184) rfl dX11_word_183 ?_
    refine sb_iload (pc' := 186) rfl rfl dX11_word_184 ?_
    refine sb_iload_n (pc' := 187) rfl rfl dX11_word_186 ?_
    refine sb_icmp_ge (pc' := 190) (tgt := 205) rfl (by decide) hx5 hx3 dX11_word_187 ?_ ?_
    · intro cc; have H := H.1 cc
      refine sb_iconst (pc' := 206) rfl dX11_word_205 ?_
      obtain ⟨o3, H⟩ := H
      refine sb_iast (pc' := 207) rfl aI_103 o3.1 o3.2  dX11_word_206 ?_
      refine sb_iinc (pc' := 210) rfl rfl (L' := [some (.ref (ad 102)), some (vi x1), some (vi x2), some (vi x3), some (vi x4), some (vi (x5 + 1))]) rfl (by decide) dX11_word_207 ?_
      refine sb_goto (tgt := 166) (by decide) dX11_word_210 ?_
      obtain ⟨o4, H⟩ := H
      exact (H hx1 hx2 hx3 hx4 o4 (SR_setI hS (iR_lit rfl)))
    · intro cc; have H := H.2 cc
      refine sb_aload_n (pc' := 191) rfl rfl dX11_word_190 ?_
      refine sb_getC (pc' := 194) rfl fc_102_5 wd_1555 dX11_word_191 ?_
      refine sb_iload_n (pc' := 195) rfl rfl dX11_word_194 ?_
      refine sb_iload (pc' := 197) rfl rfl dX11_word_195 ?_
      refine sb_iadd (pc' := 198) rfl dX11_word_197 ?_
      obtain ⟨o5, H⟩ := H
      refine sb_iald (pc' := 199) rfl aI_106 o5.1 o5.2 dX11_word_198 ?_
      refine sb_bipush (pc' := 201) rfl (z := 97) (by decide) dX11_word_199 ?_
      refine sb_isub (pc' := 202) rfl dX11_word_201 ?_
      refine sb_goto (tgt := 206) (by decide) dX11_word_202 ?_
      obtain ⟨o6, H⟩ := H
      obtain ⟨o7, H⟩ := H
      refine sb_iast (pc' := 207) rfl aI_103 o6.1 o6.2  dX11_word_206 ?_
      refine sb_iinc (pc' := 210) rfl rfl (L' := [some (.ref (ad 102)), some (vi x1), some (vi x2), some (vi x3), some (vi x4), some (vi (x5 + 1))]) rfl (by decide) dX11_word_207 ?_
      refine sb_goto (tgt := 166) (by decide) dX11_word_210 ?_
      obtain ⟨o8, H⟩ := H
      exact (H hx1 hx2 hx3 hx4 o8 (SR_setI hS o7))
theorem bX11_number_0 {g : AG} {ad : Nat → Nat} {d : Nat} {Q : AO → SG → Prop} {rc rs : Nat} {σ : SG} {x1 : Int}  (hx1 : iR x1) (hS : SR σ) (H : (((sc σ 102 9) = ((-1)) → Cl g ad d mX11_here 0 0 [(.ref (ad 102))] σ (Ki fun r1 s1 => (iR x1 → iR r1 → iR 0 → SR s1 → Wb g ad d mX11_number Q 17 [some (.ref (ad 102)), some (vi x1), some (vi r1), some (vi 0)] [] s1 rc rs))) ∧ (¬ (sc σ 102 9) = ((-1)) → (iR 0 → SR σ → Q (.inl (some (vi 0))) σ)))) : Wb g ad d mX11_number Q 0 [some (.ref (ad 102)), some (vi x1), none, none] [] σ rc rs := by
  refine sb_aload_n (pc' := 1) rfl rfl dX11_number_0 ?_
  refine sb_getI (pc' := 4) rfl fi_102_9 wd_1559 dX11_number_1 ?_
  refine sb_iconst (pc' := 5) rfl dX11_number_4 ?_
  refine sb_icmp_eq (pc' := 8) (tgt := 10) rfl (by decide) (SR_sc hS _ _) (iR_lit rfl) dX11_number_5 ?_ ?_
  · intro cc; have H := H.1 cc
    refine sb_aload_n (pc' := 11) rfl rfl dX11_number_10 ?_
    obtain ⟨d1, hd1, H⟩ := H
    refine sb_callV (pc' := 14) rfl rfl (rc := rc) (rs := rs) (mc' := 0) (ms' := 0) (As := []) (st := []) of_102 rfl rfl (Nat.le_of_ble_eq_true rfl) hd1 kX11_here ⟨wd_1734, wd_1736, wd_100⟩ dX11_number_11 (Eb.mono H ?_)
    rintro o s1 ⟨r1, rfl, hr1, hs1, H⟩
    show Wb g ad d mX11_number Q 14 [some (.ref (ad 102)), some (vi x1), none, none] [(vi r1)] s1 rc rs
    refine sb_istore_n (pc' := 15) rfl (L' := [some (.ref (ad 102)), some (vi x1), some (vi r1), none]) rfl (by decide) dX11_number_14 ?_
    refine sb_iconst (pc' := 16) rfl dX11_number_15 ?_
    refine sb_istore_n (pc' := 17) rfl (L' := [some (.ref (ad 102)), some (vi x1), some (vi r1), some (vi 0)]) rfl (by decide) dX11_number_16 ?_
    exact (H hx1 hr1 (iR_lit rfl) hs1)
  · intro cc; have H := H.2 cc
    refine sb_iconst (pc' := 9) rfl dX11_number_8 ?_
    exact sb_iret rfl rfl dX11_number_9 (H (iR_lit rfl) hS)
theorem bX11_number_17 {g : AG} {ad : Nat → Nat} {d : Nat} {Q : AO → SG → Prop} {rc rs : Nat} {σ : SG} {x1 x2 x3 : Int}  (hx1 : iR x1) (hx2 : iR x2) (hx3 : iR x3) (hS : SR σ) (H : (((sc σ 102 7) ≤ (sc σ 102 8) → (iR x1 → iR x2 → iR x3 → SR σ → Wb g ad d mX11_number Q 88 [some (.ref (ad 102)), some (vi x1), some (vi x2), some (vi x3)] [] σ rc rs)) ∧ (¬ (sc σ 102 7) ≤ (sc σ 102 8) → (0 ≤ sc σ 102 8 ∧ sc σ 102 8 < 400) ∧ Cl g ad d mX11_isIn 0 0 [(vi (ia σ 106 (sc σ 102 8))), (vi 48), (vi 57)] σ (Ki fun r2 s2 => ((r2 = 0 → (iR x1 → iR x2 → iR x3 → SR s2 → Wb g ad d mX11_number Q 88 [some (.ref (ad 102)), some (vi x1), some (vi x2), some (vi x3)] [] s2 rc rs)) ∧ (¬ r2 = 0 → iR ((sc s2 102 8) - x2) ∧ ((3 < ((sc s2 102 8) - x2) → (iR x1 → iR x2 → iR x3 → SR s2 → Wb g ad d mX11_number Q 88 [some (.ref (ad 102)), some (vi x1), some (vi x2), some (vi x3)] [] s2 rc rs)) ∧ (¬ 3 < ((sc s2 102 8) - x2) → (0 ≤ sc s2 102 8 ∧ sc s2 102 8 < 400) ∧ iR ((sc s2 102 8) + 1) ∧ iR (((10 * x3) + (ia s2 106 (sc s2 102 8))) - 48) ∧ (iR x1 → iR x2 → iR (((10 * x3) + (ia s2 106 (sc s2 102 8))) - 48) → SR (setS s2 102 8 ((sc s2 102 8) + 1)) → Wb g ad d mX11_number Q 17 [some (.ref (ad 102)), some (vi x1), some (vi x2), some (vi (((10 * x3) + (ia s2 106 (sc s2 102 8))) - 48))] [] (setS s2 102 8 ((sc s2 102 8) + 1)) rc rs))))))))) : Wb g ad d mX11_number Q 17 [some (.ref (ad 102)), some (vi x1), some (vi x2), some (vi x3)] [] σ rc rs := by
  refine sb_aload_n (pc' := 18) rfl rfl dX11_number_17 ?_
  refine sb_getI (pc' := 21) rfl fi_102_8 wd_1558 dX11_number_18 ?_
  refine sb_aload_n (pc' := 22) rfl rfl dX11_number_21 ?_
  refine sb_getI (pc' := 25) rfl fi_102_7 wd_1557 dX11_number_22 ?_
  refine sb_icmp_ge (pc' := 28) (tgt := 88) rfl (by decide) (SR_sc hS _ _) (SR_sc hS _ _) dX11_number_25 ?_ ?_
  · intro cc; have H := H.1 cc
    exact (H hx1 hx2 hx3 hS)
  · intro cc; have H := H.2 cc
    refine sb_aload_n (pc' := 29) rfl rfl dX11_number_28 ?_
    refine sb_getC (pc' := 32) rfl fc_102_5 wd_1555 dX11_number_29 ?_
    refine sb_aload_n (pc' := 33) rfl rfl dX11_number_32 ?_
    refine sb_getI (pc' := 36) rfl fi_102_8 wd_1558 dX11_number_33 ?_
    obtain ⟨o1, H⟩ := H
    refine sb_iald (pc' := 37) rfl aI_106 o1.1 o1.2 dX11_number_36 ?_
    refine sb_bipush (pc' := 39) rfl (z := 48) (by decide) dX11_number_37 ?_
    refine sb_bipush (pc' := 41) rfl (z := 57) (by decide) dX11_number_39 ?_
    obtain ⟨d2, hd2, H⟩ := H
    refine sb_callS (pc' := 44) rfl rfl (rc := rc) (rs := rs) (mc' := 0) (ms' := 0) (As := [(vi (ia σ 106 (sc σ 102 8))), (vi 48), (vi 57)]) (st := [])  rfl rfl (Nat.le_of_ble_eq_true rfl) hd2 kX11_isIn ⟨wd_1719, wd_1720⟩ dX11_number_41 (Eb.mono H ?_)
    rintro o s2 ⟨r2, rfl, hr2, hs2, H⟩
    show Wb g ad d mX11_number Q 44 [some (.ref (ad 102)), some (vi x1), some (vi x2), some (vi x3)] [(vi r2)] s2 rc rs
    refine sb_if_eq (pc' := 47) (tgt := 88) rfl (by decide) hr2 dX11_number_44 ?_ ?_
    · intro cc; have H := H.1 cc
      exact (H hx1 hx2 hx3 hs2)
    · intro cc; have H := H.2 cc
      refine sb_aload_n (pc' := 48) rfl rfl dX11_number_47 ?_
      refine sb_getI (pc' := 51) rfl fi_102_8 wd_1558 dX11_number_48 ?_
      refine sb_iload_n (pc' := 52) rfl rfl dX11_number_51 ?_
      refine sb_isub (pc' := 53) rfl dX11_number_52 ?_
      refine sb_iconst (pc' := 54) rfl dX11_number_53 ?_
      obtain ⟨o3, H⟩ := H
      refine sb_icmp_gt (pc' := 57) (tgt := 88) rfl (by decide) o3 (iR_lit rfl) dX11_number_54 ?_ ?_
      · intro cc; have H := H.1 cc
        exact (H hx1 hx2 hx3 hs2)
      · intro cc; have H := H.2 cc
        refine sb_bipush (pc' := 59) rfl (z := 10) (by decide) dX11_number_57 ?_
        refine sb_iload_n (pc' := 60) rfl rfl dX11_number_59 ?_
        refine sb_imul (pc' := 61) rfl dX11_number_60 ?_
        refine sb_aload_n (pc' := 62) rfl rfl dX11_number_61 ?_
        refine sb_getC (pc' := 65) rfl fc_102_5 wd_1555 dX11_number_62 ?_
        refine sb_aload_n (pc' := 66) rfl rfl dX11_number_65 ?_
        refine sb_getI (pc' := 69) rfl fi_102_8 wd_1558 dX11_number_66 ?_
        obtain ⟨o4, H⟩ := H
        refine sb_iald (pc' := 70) rfl aI_106 o4.1 o4.2 dX11_number_69 ?_
        refine sb_iadd (pc' := 71) rfl dX11_number_70 ?_
        refine sb_bipush (pc' := 73) rfl (z := 48) (by decide) dX11_number_71 ?_
        refine sb_isub (pc' := 74) rfl dX11_number_73 ?_
        refine sb_istore_n (pc' := 75) rfl (L' := [some (.ref (ad 102)), some (vi x1), some (vi x2), some (vi (((10 * x3) + (ia s2 106 (sc s2 102 8))) - 48))]) rfl (by decide) dX11_number_74 ?_
        refine sb_aload_n (pc' := 76) rfl rfl dX11_number_75 ?_
        refine sb_dup (pc' := 77) rfl rfl dX11_number_76 ?_
        refine sb_getI (pc' := 80) rfl fi_102_8 wd_1558 dX11_number_77 ?_
        refine sb_iconst (pc' := 81) rfl dX11_number_80 ?_
        refine sb_iadd (pc' := 82) rfl dX11_number_81 ?_
        obtain ⟨o5, H⟩ := H
        refine sb_putI (pc' := 85) rfl fi_102_8 (Or.inl rfl) wd_1558 dX11_number_82 ?_
        refine sb_goto (tgt := 17) (by decide) dX11_number_85 ?_
        obtain ⟨o6, H⟩ := H
        exact (H hx1 hx2 o6 (SR_setS hs2 o5))
theorem bX11_number_88 {g : AG} {ad : Nat → Nat} {d : Nat} {Q : AO → SG → Prop} {rc rs : Nat} {σ : SG} {x1 x2 x3 : Int}  (hx1 : iR x1) (hx2 : iR x2) (hx3 : iR x3) (hS : SR σ) (H : (((sc σ 102 8) = x2 → (iR x1 → iR x2 → iR x3 → SR σ → Wb g ad d mX11_number Q 111 [some (.ref (ad 102)), some (vi x1), some (vi x2), some (vi x3)] [] σ rc rs)) ∧ (¬ (sc σ 102 8) = x2 → iR ((sc σ 102 8) - x2) ∧ ((3 < ((sc σ 102 8) - x2) → (iR x1 → iR x2 → iR x3 → SR σ → Wb g ad d mX11_number Q 111 [some (.ref (ad 102)), some (vi x1), some (vi x2), some (vi x3)] [] σ rc rs)) ∧ (¬ 3 < ((sc σ 102 8) - x2) → ((x3 ≤ x1 → (iR x1 → iR x2 → iR x3 → SR σ → Wb g ad d mX11_number Q 116 [some (.ref (ad 102)), some (vi x1), some (vi x2), some (vi x3)] [] σ rc rs)) ∧ (¬ x3 ≤ x1 → (iR x1 → iR x2 → iR x3 → SR σ → Wb g ad d mX11_number Q 111 [some (.ref (ad 102)), some (vi x1), some (vi x2), some (vi x3)] [] σ rc rs)))))))) : Wb g ad d mX11_number Q 88 [some (.ref (ad 102)), some (vi x1), some (vi x2), some (vi x3)] [] σ rc rs := by
  refine sb_aload_n (pc' := 89) rfl rfl dX11_number_88 ?_
  refine sb_getI (pc' := 92) rfl fi_102_8 wd_1558 dX11_number_89 ?_
  refine sb_iload_n (pc' := 93) rfl rfl dX11_number_92 ?_
  refine sb_icmp_eq (pc' := 96) (tgt := 111) rfl (by decide) (SR_sc hS _ _) hx2 dX11_number_93 ?_ ?_
  · intro cc; have H := H.1 cc
    exact (H hx1 hx2 hx3 hS)
  · intro cc; have H := H.2 cc
    refine sb_aload_n (pc' := 97) rfl rfl dX11_number_96 ?_
    refine sb_getI (pc' := 100) rfl fi_102_8 wd_1558 dX11_number_97 ?_
    refine sb_iload_n (pc' := 101) rfl rfl dX11_number_100 ?_
    refine sb_isub (pc' := 102) rfl dX11_number_101 ?_
    refine sb_iconst (pc' := 103) rfl dX11_number_102 ?_
    obtain ⟨o1, H⟩ := H
    refine sb_icmp_gt (pc' := 106) (tgt := 111) rfl (by decide) o1 (iR_lit rfl) dX11_number_103 ?_ ?_
    · intro cc; have H := H.1 cc
      exact (H hx1 hx2 hx3 hS)
    · intro cc; have H := H.2 cc
      refine sb_iload_n (pc' := 107) rfl rfl dX11_number_106 ?_
      refine sb_iload_n (pc' := 108) rfl rfl dX11_number_107 ?_
      refine sb_icmp_le (pc' := 111) (tgt := 116) rfl (by decide) hx3 hx1 dX11_number_108 ?_ ?_
      · intro cc; have H := H.1 cc
        exact (H hx1 hx2 hx3 hS)
      · intro cc; have H := H.2 cc
        exact (H hx1 hx2 hx3 hS)
theorem bX11_number_111 {g : AG} {ad : Nat → Nat} {d : Nat} {Q : AO → SG → Prop} {rc rs : Nat} {σ : SG} {x1 x2 x3 : Int}  (hx1 : iR x1) (hx2 : iR x2) (hx3 : iR x3) (hS : SR σ) (H : Cl g ad d mX11_wrong 0 0 [(.ref (ad 102)), (vi x2)] σ (Kv fun s1 => (iR x1 → iR x2 → iR x3 → SR s1 → Wb g ad d mX11_number Q 116 [some (.ref (ad 102)), some (vi x1), some (vi x2), some (vi x3)] [] s1 rc rs))) : Wb g ad d mX11_number Q 111 [some (.ref (ad 102)), some (vi x1), some (vi x2), some (vi x3)] [] σ rc rs := by
  refine sb_aload_n (pc' := 112) rfl rfl dX11_number_111 ?_
  refine sb_iload_n (pc' := 113) rfl rfl dX11_number_112 ?_
  obtain ⟨d1, hd1, H⟩ := H
  refine sb_callV (pc' := 116) rfl rfl (rc := rc) (rs := rs) (mc' := 0) (ms' := 0) (As := [(vi x2)]) (st := []) of_102 rfl rfl (Nat.le_of_ble_eq_true rfl) hd1 kX11_wrong ⟨wd_1738, wd_1740, wd_101⟩ dX11_number_113 (Eb.mono H ?_)
  rintro o s1 ⟨rfl, hs1, H⟩
  show Wb g ad d mX11_number Q 116 [some (.ref (ad 102)), some (vi x1), some (vi x2), some (vi x3)] [] s1 rc rs
  exact (H hx1 hx2 hx3 hs1)
theorem bX11_number_116 {g : AG} {ad : Nat → Nat} {d : Nat} {Q : AO → SG → Prop} {rc rs : Nat} {σ : SG} {x1 x2 x3 : Int}  (hx1 : iR x1) (hx2 : iR x2) (hx3 : iR x3) (hS : SR σ) (H : (iR x3 → SR σ → Q (.inl (some (vi x3))) σ)) : Wb g ad d mX11_number Q 116 [some (.ref (ad 102)), some (vi x1), some (vi x2), some (vi x3)] [] σ rc rs := by
  refine sb_iload_n (pc' := 117) rfl rfl dX11_number_116 ?_
  exact sb_iret rfl rfl dX11_number_117 (H hx3 hS)
theorem bX11_wordsInto_0 {g : AG} {ad : Nat → Nat} {d : Nat} {Q : AO → SG → Prop} {rc rs : Nat} {σ : SG} {x2 x3 x4 : Int} {c1 n1 : Nat} (hc1 : aI c1 n1) (hx2 : iR x2) (hx3 : iR x3) (hx4 : iR x4) (hS : SR σ) (H : (iR x2 → iR x3 → iR x4 → iR 0 → SR σ → Wb g ad d mX11_wordsInto Q 3 [some (.ref (ad 102)), some (.ref (ad c1)), some (vi x2), some (vi x3), some (vi x4), some (vi 0), none] [] σ rc rs)) : Wb g ad d mX11_wordsInto Q 0 [some (.ref (ad 102)), some (.ref (ad c1)), some (vi x2), some (vi x3), some (vi x4), none, none] [] σ rc rs := by
  refine sb_iconst (pc' := 1) rfl dX11_wordsInto_0 ?_
  refine sb_istore (pc' := 3) rfl (L' := [some (.ref (ad 102)), some (.ref (ad c1)), some (vi x2), some (vi x3), some (vi x4), some (vi 0), none]) rfl (by decide) dX11_wordsInto_1 ?_
  exact (H hx2 hx3 hx4 (iR_lit rfl) hS)
theorem bX11_wordsInto_3 {g : AG} {ad : Nat → Nat} {d : Nat} {Q : AO → SG → Prop} {rc rs : Nat} {σ : SG} {x2 x3 x4 x5 : Int} {c1 n1 : Nat} (hc1 : aI c1 n1) (hx2 : iR x2) (hx3 : iR x3) (hx4 : iR x4) (hx5 : iR x5) (hS : SR σ) (H : ((¬ (sc σ 102 9) = ((-1)) → (iR x5 → SR σ → Q (.inl (some (vi x5))) σ)) ∧ ((sc σ 102 9) = ((-1)) → Cl g ad d mX11_isLetter 0 0 [(.ref (ad 102))] σ (Ki fun r1 s1 => ((r1 = 0 → (iR x5 → SR s1 → Q (.inl (some (vi x5))) s1)) ∧ (¬ r1 = 0 → ((¬ x5 = x3 → Cl g ad d mX11_word 0 0 [(.ref (ad 102)), (vi x4)] s1 (Ki fun r2 s2 => ((¬ (sc s2 102 9) = ((-1)) → iR (x5 + 1) ∧ (iR x2 → iR x3 → iR x4 → iR (x5 + 1) → SR s2 → Wb g ad d mX11_wordsInto Q 3 [some (.ref (ad 102)), some (.ref (ad c1)), some (vi x2), some (vi x3), some (vi x4), some (vi (x5 + 1)), none] [] s2 rc rs)) ∧ ((sc s2 102 9) = ((-1)) → (0 ≤ x2 + x5 ∧ x2 + x5 < n1) ∧ iR (x5 + 1) ∧ (iR x2 → iR x3 → iR x4 → iR (x5 + 1) → SR (setI s2 c1 (x2 + x5) r2) → Wb g ad d mX11_wordsInto Q 3 [some (.ref (ad 102)), some (.ref (ad c1)), some (vi x2), some (vi x3), some (vi x4), some (vi (x5 + 1)), none] [] (setI s2 c1 (x2 + x5) r2) rc rs))))) ∧ (x5 = x3 → Cl g ad d mX11_wrong 0 0 [(.ref (ad 102)), (vi (sc s1 102 8))] s1 (Kv fun s6 => Cl g ad d mX11_word 0 0 [(.ref (ad 102)), (vi x4)] s6 (Ki fun r7 s7 => ((¬ (sc s7 102 9) = ((-1)) → iR (x5 + 1) ∧ (iR x2 → iR x3 → iR x4 → iR (x5 + 1) → SR s7 → Wb g ad d mX11_wordsInto Q 3 [some (.ref (ad 102)), some (.ref (ad c1)), some (vi x2), some (vi x3), some (vi x4), some (vi (x5 + 1)), none] [] s7 rc rs)) ∧ ((sc s7 102 9) = ((-1)) → (0 ≤ x2 + x5 ∧ x2 + x5 < n1) ∧ iR (x5 + 1) ∧ (iR x2 → iR x3 → iR x4 → iR (x5 + 1) → SR (setI s7 c1 (x2 + x5) r7) → Wb g ad d mX11_wordsInto Q 3 [some (.ref (ad 102)), some (.ref (ad c1)), some (vi x2), some (vi x3), some (vi x4), some (vi (x5 + 1)), none] [] (setI s7 c1 (x2 + x5) r7) rc rs))))))))))))) : Wb g ad d mX11_wordsInto Q 3 [some (.ref (ad 102)), some (.ref (ad c1)), some (vi x2), some (vi x3), some (vi x4), some (vi x5), none] [] σ rc rs := by
  refine sb_aload_n (pc' := 4) rfl rfl dX11_wordsInto_3 ?_
  refine sb_getI (pc' := 7) rfl fi_102_9 wd_1559 dX11_wordsInto_4 ?_
  refine sb_iconst (pc' := 8) rfl dX11_wordsInto_7 ?_
  refine sb_icmp_ne (pc' := 11) (tgt := 62) rfl (by decide) (SR_sc hS _ _) (iR_lit rfl) dX11_wordsInto_8 ?_ ?_
  · intro cc; have H := H.1 cc
    refine sb_iload (pc' := 64) rfl rfl dX11_wordsInto_62 ?_
    exact sb_iret rfl rfl dX11_wordsInto_64 (H hx5 hS)
  · intro cc; have H := H.2 cc
    refine sb_aload_n (pc' := 12) rfl rfl dX11_wordsInto_11 ?_
    obtain ⟨d1, hd1, H⟩ := H
    refine sb_callV (pc' := 15) rfl rfl (rc := rc) (rs := rs) (mc' := 0) (ms' := 0) (As := []) (st := []) of_102 rfl rfl (Nat.le_of_ble_eq_true rfl) hd1 kX11_isLetter ⟨wd_1750, wd_1752, wd_104⟩ dX11_wordsInto_12 (Eb.mono H ?_)
    rintro o s1 ⟨r1, rfl, hr1, hs1, H⟩
    show Wb g ad d mX11_wordsInto Q 15 [some (.ref (ad 102)), some (.ref (ad c1)), some (vi x2), some (vi x3), some (vi x4), some (vi x5), none] [(vi r1)] s1 rc rs
    refine sb_if_eq (pc' := 18) (tgt := 62) rfl (by decide) hr1 dX11_wordsInto_15 ?_ ?_
    · intro cc; have H := H.1 cc
      refine sb_iload (pc' := 64) rfl rfl dX11_wordsInto_62 ?_
      exact sb_iret rfl rfl dX11_wordsInto_64 (H hx5 hs1)
    · intro cc; have H := H.2 cc
      refine sb_iload (pc' := 20) rfl rfl dX11_wordsInto_18 ?_
      refine sb_iload_n (pc' := 21) rfl rfl dX11_wordsInto_20 ?_
      refine sb_icmp_ne (pc' := 24) (tgt := 32) rfl (by decide) hx5 hx3 dX11_wordsInto_21 ?_ ?_
      · intro cc; have H := H.1 cc
        refine sb_aload_n (pc' := 33) rfl rfl dX11_wordsInto_32 ?_
        refine sb_iload (pc' := 35) rfl rfl dX11_wordsInto_33 ?_
        obtain ⟨d2, hd2, H⟩ := H
        refine sb_callV (pc' := 38) rfl rfl (rc := rc) (rs := rs) (mc' := 0) (ms' := 0) (As := [(vi x4)]) (st := []) of_102 rfl rfl (Nat.le_of_ble_eq_true rfl) hd2 kX11_word ⟨wd_1754, wd_1756, wd_105⟩ dX11_wordsInto_35 (Eb.mono H ?_)
        rintro o s2 ⟨r2, rfl, hr2, hs2, H⟩
        show Wb g ad d mX11_wordsInto Q 38 [some (.ref (ad 102)), some (.ref (ad c1)), some (vi x2), some (vi x3), some (vi x4), some (vi x5), none] [(vi r2)] s2 rc rs
        refine sb_istore (pc' := 40) rfl (L' := [some (.ref (ad 102)), some (.ref (ad c1)), some (vi x2), some (vi x3), some (vi x4), some (vi x5), some (vi r2)]) rfl (by decide) dX11_wordsInto_38 ?_
        refine sb_aload_n (pc' := 41) rfl rfl dX11_wordsInto_40 ?_
        refine sb_getI (pc' := 44) rfl fi_102_9 wd_1559 dX11_wordsInto_41 ?_
        refine sb_iconst (pc' := 45) rfl dX11_wordsInto_44 ?_
        refine sb_icmp_ne (pc' := 48) (tgt := 56) rfl (by decide) (SR_sc hs2 _ _) (iR_lit rfl) dX11_wordsInto_45 ?_ ?_
        · intro cc; have H := H.1 cc
          refine sb_iinc (pc' := 59) rfl rfl (L' := [some (.ref (ad 102)), some (.ref (ad c1)), some (vi x2), some (vi x3), some (vi x4), some (vi (x5 + 1)), some (vi r2)]) rfl (by decide) dX11_wordsInto_56 ?_
          refine sb_goto (tgt := 3) (by decide) dX11_wordsInto_59 ?_
          obtain ⟨o3, H⟩ := H
          refine Wb.forget [true, true, true, true, true, true, false] ?_
          exact (H hx2 hx3 hx4 o3 hs2)
        · intro cc; have H := H.2 cc
          refine sb_aload_n (pc' := 49) rfl rfl dX11_wordsInto_48 ?_
          refine sb_iload_n (pc' := 50) rfl rfl dX11_wordsInto_49 ?_
          refine sb_iload (pc' := 52) rfl rfl dX11_wordsInto_50 ?_
          refine sb_iadd (pc' := 53) rfl dX11_wordsInto_52 ?_
          refine sb_iload (pc' := 55) rfl rfl dX11_wordsInto_53 ?_
          obtain ⟨o4, H⟩ := H
          refine sb_iast (pc' := 56) rfl hc1 o4.1 o4.2  dX11_wordsInto_55 ?_
          refine sb_iinc (pc' := 59) rfl rfl (L' := [some (.ref (ad 102)), some (.ref (ad c1)), some (vi x2), some (vi x3), some (vi x4), some (vi (x5 + 1)), some (vi r2)]) rfl (by decide) dX11_wordsInto_56 ?_
          refine sb_goto (tgt := 3) (by decide) dX11_wordsInto_59 ?_
          obtain ⟨o5, H⟩ := H
          refine Wb.forget [true, true, true, true, true, true, false] ?_
          exact (H hx2 hx3 hx4 o5 (SR_setI hs2 hr2))
      · intro cc; have H := H.2 cc
        refine sb_aload_n (pc' := 25) rfl rfl dX11_wordsInto_24 ?_
        refine sb_aload_n (pc' := 26) rfl rfl dX11_wordsInto_25 ?_
        refine sb_getI (pc' := 29) rfl fi_102_8 wd_1558 dX11_wordsInto_26 ?_
        obtain ⟨d6, hd6, H⟩ := H
        refine sb_callV (pc' := 32) rfl rfl (rc := rc) (rs := rs) (mc' := 0) (ms' := 0) (As := [(vi (sc s1 102 8))]) (st := []) of_102 rfl rfl (Nat.le_of_ble_eq_true rfl) hd6 kX11_wrong ⟨wd_1738, wd_1740, wd_101⟩ dX11_wordsInto_29 (Eb.mono H ?_)
        rintro o s6 ⟨rfl, hs6, H⟩
        show Wb g ad d mX11_wordsInto Q 32 [some (.ref (ad 102)), some (.ref (ad c1)), some (vi x2), some (vi x3), some (vi x4), some (vi x5), none] [] s6 rc rs
        refine sb_aload_n (pc' := 33) rfl rfl dX11_wordsInto_32 ?_
        refine sb_iload (pc' := 35) rfl rfl dX11_wordsInto_33 ?_
        obtain ⟨d7, hd7, H⟩ := H
        refine sb_callV (pc' := 38) rfl rfl (rc := rc) (rs := rs) (mc' := 0) (ms' := 0) (As := [(vi x4)]) (st := []) of_102 rfl rfl (Nat.le_of_ble_eq_true rfl) hd7 kX11_word ⟨wd_1754, wd_1756, wd_105⟩ dX11_wordsInto_35 (Eb.mono H ?_)
        rintro o s7 ⟨r7, rfl, hr7, hs7, H⟩
        show Wb g ad d mX11_wordsInto Q 38 [some (.ref (ad 102)), some (.ref (ad c1)), some (vi x2), some (vi x3), some (vi x4), some (vi x5), none] [(vi r7)] s7 rc rs
        refine sb_istore (pc' := 40) rfl (L' := [some (.ref (ad 102)), some (.ref (ad c1)), some (vi x2), some (vi x3), some (vi x4), some (vi x5), some (vi r7)]) rfl (by decide) dX11_wordsInto_38 ?_
        refine sb_aload_n (pc' := 41) rfl rfl dX11_wordsInto_40 ?_
        refine sb_getI (pc' := 44) rfl fi_102_9 wd_1559 dX11_wordsInto_41 ?_
        refine sb_iconst (pc' := 45) rfl dX11_wordsInto_44 ?_
        refine sb_icmp_ne (pc' := 48) (tgt := 56) rfl (by decide) (SR_sc hs7 _ _) (iR_lit rfl) dX11_wordsInto_45 ?_ ?_
        · intro cc; have H := H.1 cc
          refine sb_iinc (pc' := 59) rfl rfl (L' := [some (.ref (ad 102)), some (.ref (ad c1)), some (vi x2), some (vi x3), some (vi x4), some (vi (x5 + 1)), some (vi r7)]) rfl (by decide) dX11_wordsInto_56 ?_
          refine sb_goto (tgt := 3) (by decide) dX11_wordsInto_59 ?_
          obtain ⟨o8, H⟩ := H
          refine Wb.forget [true, true, true, true, true, true, false] ?_
          exact (H hx2 hx3 hx4 o8 hs7)
        · intro cc; have H := H.2 cc
          refine sb_aload_n (pc' := 49) rfl rfl dX11_wordsInto_48 ?_
          refine sb_iload_n (pc' := 50) rfl rfl dX11_wordsInto_49 ?_
          refine sb_iload (pc' := 52) rfl rfl dX11_wordsInto_50 ?_
          refine sb_iadd (pc' := 53) rfl dX11_wordsInto_52 ?_
          refine sb_iload (pc' := 55) rfl rfl dX11_wordsInto_53 ?_
          obtain ⟨o9, H⟩ := H
          refine sb_iast (pc' := 56) rfl hc1 o9.1 o9.2  dX11_wordsInto_55 ?_
          refine sb_iinc (pc' := 59) rfl rfl (L' := [some (.ref (ad 102)), some (.ref (ad c1)), some (vi x2), some (vi x3), some (vi x4), some (vi (x5 + 1)), some (vi r7)]) rfl (by decide) dX11_wordsInto_56 ?_
          refine sb_goto (tgt := 3) (by decide) dX11_wordsInto_59 ?_
          obtain ⟨o10, H⟩ := H
          refine Wb.forget [true, true, true, true, true, true, false] ?_
          exact (H hx2 hx3 hx4 o10 (SR_setI hs7 hr7))
theorem bX11_entry_0 {g : AG} {ad : Nat → Nat} {d : Nat} {Q : AO → SG → Prop} {rc rs : Nat} {σ : SG}    (hS : SR σ) (H : Cl g ad d mX11_here 0 0 [(.ref (ad 102))] σ (Ki fun r1 s1 => (0 ≤ sc σ 102 12 ∧ sc σ 102 12 < 12) ∧ Cl g ad d mX11_wordsInto 0 0 [(.ref (ad 102)), (.ref (ad 107)), (vi ((10 * (sc σ 102 12)) + 1)), (vi 3), (vi 1)] (setI s1 108 (sc σ 102 12) r1) (Ki fun r3 s3 => (0 ≤ 10 * (sc σ 102 12) ∧ 10 * (sc σ 102 12) < 120) ∧ ((¬ (ia (setI s3 107 (10 * (sc σ 102 12)) r3) 107 (10 * (sc σ 102 12))) = 0 → Cl g ad d mX11_mustSign 0 0 [(.ref (ad 102)), (vi 61)] (setI s3 107 (10 * (sc σ 102 12)) r3) (Kv fun s5 => Cl g ad d mX11_wordsInto 0 0 [(.ref (ad 102)), (.ref (ad 107)), (vi (((10 * (sc σ 102 12)) + 4) + 1)), (vi 3), (vi 1)] s5 (Ki fun r6 s6 => (0 ≤ (10 * (sc σ 102 12)) + 4 ∧ (10 * (sc σ 102 12)) + 4 < 120) ∧ Cl g ad d mX11_number 0 0 [(.ref (ad 102)), (vi 99)] (setI s6 107 ((10 * (sc σ 102 12)) + 4) r6) (Ki fun r8 s8 => (0 ≤ (10 * (sc σ 102 12)) + 8 ∧ (10 * (sc σ 102 12)) + 8 < 120) ∧ (SR (setI s8 107 ((10 * (sc σ 102 12)) + 8) r8) → Q (.inl none) (setI s8 107 ((10 * (sc σ 102 12)) + 8) r8)))))) ∧ ((ia (setI s3 107 (10 * (sc σ 102 12)) r3) 107 (10 * (sc σ 102 12))) = 0 → Cl g ad d mX11_here 0 0 [(.ref (ad 102))] (setI s3 107 (10 * (sc σ 102 12)) r3) (Ki fun r10 s10 => Cl g ad d mX11_wrong 0 0 [(.ref (ad 102)), (vi r10)] s10 (Kv fun s11 => Cl g ad d mX11_mustSign 0 0 [(.ref (ad 102)), (vi 61)] s11 (Kv fun s12 => Cl g ad d mX11_wordsInto 0 0 [(.ref (ad 102)), (.ref (ad 107)), (vi (((10 * (sc σ 102 12)) + 4) + 1)), (vi 3), (vi 1)] s12 (Ki fun r13 s13 => (0 ≤ (10 * (sc σ 102 12)) + 4 ∧ (10 * (sc σ 102 12)) + 4 < 120) ∧ Cl g ad d mX11_number 0 0 [(.ref (ad 102)), (vi 99)] (setI s13 107 ((10 * (sc σ 102 12)) + 4) r13) (Ki fun r15 s15 => (0 ≤ (10 * (sc σ 102 12)) + 8 ∧ (10 * (sc σ 102 12)) + 8 < 120) ∧ (SR (setI s15 107 ((10 * (sc σ 102 12)) + 8) r15) → Q (.inl none) (setI s15 107 ((10 * (sc σ 102 12)) + 8) r15)))))))))))) : Wb g ad d mX11_entry Q 0 [some (.ref (ad 102)), none] [] σ rc rs := by
  refine sb_bipush (pc' := 2) rfl (z := 10) (by decide) dX11_entry_0 ?_
  refine sb_aload_n (pc' := 3) rfl rfl dX11_entry_2 ?_
  refine sb_getI (pc' := 6) rfl fi_102_12 wd_1562 dX11_entry_3 ?_
  refine sb_imul (pc' := 7) rfl dX11_entry_6 ?_
  refine sb_istore_n (pc' := 8) rfl (L' := [some (.ref (ad 102)), some (vi (10 * (sc σ 102 12)))]) rfl (by decide) dX11_entry_7 ?_
  refine sb_aload_n (pc' := 9) rfl rfl dX11_entry_8 ?_
  refine sb_getC (pc' := 12) rfl fc_102_11 wd_1561 dX11_entry_9 ?_
  refine sb_aload_n (pc' := 13) rfl rfl dX11_entry_12 ?_
  refine sb_getI (pc' := 16) rfl fi_102_12 wd_1562 dX11_entry_13 ?_
  refine sb_aload_n (pc' := 17) rfl rfl dX11_entry_16 ?_
  obtain ⟨d1, hd1, H⟩ := H
  refine sb_callV (pc' := 20) rfl rfl (rc := rc) (rs := rs) (mc' := 0) (ms' := 0) (As := []) (st := [(vi (sc σ 102 12)), (.ref (ad 108))]) of_102 rfl rfl (Nat.le_of_ble_eq_true rfl) hd1 kX11_here ⟨wd_1734, wd_1736, wd_100⟩ dX11_entry_17 (Eb.mono H ?_)
  rintro o s1 ⟨r1, rfl, hr1, hs1, H⟩
  show Wb g ad d mX11_entry Q 20 [some (.ref (ad 102)), some (vi (10 * (sc σ 102 12)))] [(vi r1), (vi (sc σ 102 12)), (.ref (ad 108))] s1 rc rs
  obtain ⟨o2, H⟩ := H
  refine sb_iast (pc' := 21) rfl aI_108 o2.1 o2.2  dX11_entry_20 ?_
  refine sb_aload_n (pc' := 22) rfl rfl dX11_entry_21 ?_
  refine sb_getC (pc' := 25) rfl fc_102_10 wd_1560 dX11_entry_22 ?_
  refine sb_iload_n (pc' := 26) rfl rfl dX11_entry_25 ?_
  refine sb_aload_n (pc' := 27) rfl rfl dX11_entry_26 ?_
  refine sb_aload_n (pc' := 28) rfl rfl dX11_entry_27 ?_
  refine sb_getC (pc' := 31) rfl fc_102_10 wd_1560 dX11_entry_28 ?_
  refine sb_iload_n (pc' := 32) rfl rfl dX11_entry_31 ?_
  refine sb_iconst (pc' := 33) rfl dX11_entry_32 ?_
  refine sb_iadd (pc' := 34) rfl dX11_entry_33 ?_
  refine sb_iconst (pc' := 35) rfl dX11_entry_34 ?_
  refine sb_iconst (pc' := 36) rfl dX11_entry_35 ?_
  obtain ⟨d3, hd3, H⟩ := H
  refine sb_callV (pc' := 39) rfl rfl (rc := rc) (rs := rs) (mc' := 0) (ms' := 0) (As := [(.ref (ad 107)), (vi ((10 * (sc σ 102 12)) + 1)), (vi 3), (vi 1)]) (st := [(vi (10 * (sc σ 102 12))), (.ref (ad 107))]) of_102 rfl rfl (Nat.le_of_ble_eq_true rfl) hd3 kX11_wordsInto ⟨wd_1746, wd_1748, wd_103⟩ dX11_entry_36 (Eb.mono H ?_)
  rintro o s3 ⟨r3, rfl, hr3, hs3, H⟩
  show Wb g ad d mX11_entry Q 39 [some (.ref (ad 102)), some (vi (10 * (sc σ 102 12)))] [(vi r3), (vi (10 * (sc σ 102 12))), (.ref (ad 107))] s3 rc rs
  obtain ⟨o4, H⟩ := H
  refine sb_iast (pc' := 40) rfl aI_107 o4.1 o4.2  dX11_entry_39 ?_
  refine sb_aload_n (pc' := 41) rfl rfl dX11_entry_40 ?_
  refine sb_getC (pc' := 44) rfl fc_102_10 wd_1560 dX11_entry_41 ?_
  refine sb_iload_n (pc' := 45) rfl rfl dX11_entry_44 ?_
  refine sb_iald (pc' := 46) rfl aI_107 o4.1 o4.2 dX11_entry_45 ?_
  refine sb_if_ne (pc' := 49) (tgt := 57) rfl (by decide) (SR_ia (SR_setI hs3 hr3) _ _) dX11_entry_46 ?_ ?_
  · intro cc; have H := H.1 cc
    refine sb_aload_n (pc' := 58) rfl rfl dX11_entry_57 ?_
    refine sb_bipush (pc' := 60) rfl (z := 61) (by decide) dX11_entry_58 ?_
    obtain ⟨d5, hd5, H⟩ := H
    refine sb_callV (pc' := 63) rfl rfl (rc := rc) (rs := rs) (mc' := 0) (ms' := 0) (As := [(vi 61)]) (st := []) of_102 rfl rfl (Nat.le_of_ble_eq_true rfl) hd5 kX11_mustSign ⟨wd_1762, wd_1764, wd_107⟩ dX11_entry_60 (Eb.mono H ?_)
    rintro o s5 ⟨rfl, hs5, H⟩
    show Wb g ad d mX11_entry Q 63 [some (.ref (ad 102)), some (vi (10 * (sc σ 102 12)))] [] s5 rc rs
    refine sb_aload_n (pc' := 64) rfl rfl dX11_entry_63 ?_
    refine sb_getC (pc' := 67) rfl fc_102_10 wd_1560 dX11_entry_64 ?_
    refine sb_iload_n (pc' := 68) rfl rfl dX11_entry_67 ?_
    refine sb_iconst (pc' := 69) rfl dX11_entry_68 ?_
    refine sb_iadd (pc' := 70) rfl dX11_entry_69 ?_
    refine sb_aload_n (pc' := 71) rfl rfl dX11_entry_70 ?_
    refine sb_aload_n (pc' := 72) rfl rfl dX11_entry_71 ?_
    refine sb_getC (pc' := 75) rfl fc_102_10 wd_1560 dX11_entry_72 ?_
    refine sb_iload_n (pc' := 76) rfl rfl dX11_entry_75 ?_
    refine sb_iconst (pc' := 77) rfl dX11_entry_76 ?_
    refine sb_iadd (pc' := 78) rfl dX11_entry_77 ?_
    refine sb_iconst (pc' := 79) rfl dX11_entry_78 ?_
    refine sb_iadd (pc' := 80) rfl dX11_entry_79 ?_
    refine sb_iconst (pc' := 81) rfl dX11_entry_80 ?_
    refine sb_iconst (pc' := 82) rfl dX11_entry_81 ?_
    obtain ⟨d6, hd6, H⟩ := H
    refine sb_callV (pc' := 85) rfl rfl (rc := rc) (rs := rs) (mc' := 0) (ms' := 0) (As := [(.ref (ad 107)), (vi (((10 * (sc σ 102 12)) + 4) + 1)), (vi 3), (vi 1)]) (st := [(vi ((10 * (sc σ 102 12)) + 4)), (.ref (ad 107))]) of_102 rfl rfl (Nat.le_of_ble_eq_true rfl) hd6 kX11_wordsInto ⟨wd_1746, wd_1748, wd_103⟩ dX11_entry_82 (Eb.mono H ?_)
    rintro o s6 ⟨r6, rfl, hr6, hs6, H⟩
    show Wb g ad d mX11_entry Q 85 [some (.ref (ad 102)), some (vi (10 * (sc σ 102 12)))] [(vi r6), (vi ((10 * (sc σ 102 12)) + 4)), (.ref (ad 107))] s6 rc rs
    obtain ⟨o7, H⟩ := H
    refine sb_iast (pc' := 86) rfl aI_107 o7.1 o7.2  dX11_entry_85 ?_
    refine sb_aload_n (pc' := 87) rfl rfl dX11_entry_86 ?_
    refine sb_getC (pc' := 90) rfl fc_102_10 wd_1560 dX11_entry_87 ?_
    refine sb_iload_n (pc' := 91) rfl rfl dX11_entry_90 ?_
    refine sb_bipush (pc' := 93) rfl (z := 8) (by decide) dX11_entry_91 ?_
    refine sb_iadd (pc' := 94) rfl dX11_entry_93 ?_
    refine sb_aload_n (pc' := 95) rfl rfl dX11_entry_94 ?_
    refine sb_bipush (pc' := 97) rfl (z := 99) (by decide) dX11_entry_95 ?_
    obtain ⟨d8, hd8, H⟩ := H
    refine sb_callV (pc' := 100) rfl rfl (rc := rc) (rs := rs) (mc' := 0) (ms' := 0) (As := [(vi 99)]) (st := [(vi ((10 * (sc σ 102 12)) + 8)), (.ref (ad 107))]) of_102 rfl rfl (Nat.le_of_ble_eq_true rfl) hd8 kX11_number ⟨wd_1770, wd_1772, wd_109⟩ dX11_entry_97 (Eb.mono H ?_)
    rintro o s8 ⟨r8, rfl, hr8, hs8, H⟩
    show Wb g ad d mX11_entry Q 100 [some (.ref (ad 102)), some (vi (10 * (sc σ 102 12)))] [(vi r8), (vi ((10 * (sc σ 102 12)) + 8)), (.ref (ad 107))] s8 rc rs
    obtain ⟨o9, H⟩ := H
    refine sb_iast (pc' := 101) rfl aI_107 o9.1 o9.2  dX11_entry_100 ?_
    exact sb_vret rfl dX11_entry_101 (H (SR_setI hs8 hr8))
  · intro cc; have H := H.2 cc
    refine sb_aload_n (pc' := 50) rfl rfl dX11_entry_49 ?_
    refine sb_aload_n (pc' := 51) rfl rfl dX11_entry_50 ?_
    obtain ⟨d10, hd10, H⟩ := H
    refine sb_callV (pc' := 54) rfl rfl (rc := rc) (rs := rs) (mc' := 0) (ms' := 0) (As := []) (st := [(.ref (ad 102))]) of_102 rfl rfl (Nat.le_of_ble_eq_true rfl) hd10 kX11_here ⟨wd_1734, wd_1736, wd_100⟩ dX11_entry_51 (Eb.mono H ?_)
    rintro o s10 ⟨r10, rfl, hr10, hs10, H⟩
    show Wb g ad d mX11_entry Q 54 [some (.ref (ad 102)), some (vi (10 * (sc σ 102 12)))] [(vi r10), (.ref (ad 102))] s10 rc rs
    obtain ⟨d11, hd11, H⟩ := H
    refine sb_callV (pc' := 57) rfl rfl (rc := rc) (rs := rs) (mc' := 0) (ms' := 0) (As := [(vi r10)]) (st := []) of_102 rfl rfl (Nat.le_of_ble_eq_true rfl) hd11 kX11_wrong ⟨wd_1738, wd_1740, wd_101⟩ dX11_entry_54 (Eb.mono H ?_)
    rintro o s11 ⟨rfl, hs11, H⟩
    show Wb g ad d mX11_entry Q 57 [some (.ref (ad 102)), some (vi (10 * (sc σ 102 12)))] [] s11 rc rs
    refine sb_aload_n (pc' := 58) rfl rfl dX11_entry_57 ?_
    refine sb_bipush (pc' := 60) rfl (z := 61) (by decide) dX11_entry_58 ?_
    obtain ⟨d12, hd12, H⟩ := H
    refine sb_callV (pc' := 63) rfl rfl (rc := rc) (rs := rs) (mc' := 0) (ms' := 0) (As := [(vi 61)]) (st := []) of_102 rfl rfl (Nat.le_of_ble_eq_true rfl) hd12 kX11_mustSign ⟨wd_1762, wd_1764, wd_107⟩ dX11_entry_60 (Eb.mono H ?_)
    rintro o s12 ⟨rfl, hs12, H⟩
    show Wb g ad d mX11_entry Q 63 [some (.ref (ad 102)), some (vi (10 * (sc σ 102 12)))] [] s12 rc rs
    refine sb_aload_n (pc' := 64) rfl rfl dX11_entry_63 ?_
    refine sb_getC (pc' := 67) rfl fc_102_10 wd_1560 dX11_entry_64 ?_
    refine sb_iload_n (pc' := 68) rfl rfl dX11_entry_67 ?_
    refine sb_iconst (pc' := 69) rfl dX11_entry_68 ?_
    refine sb_iadd (pc' := 70) rfl dX11_entry_69 ?_
    refine sb_aload_n (pc' := 71) rfl rfl dX11_entry_70 ?_
    refine sb_aload_n (pc' := 72) rfl rfl dX11_entry_71 ?_
    refine sb_getC (pc' := 75) rfl fc_102_10 wd_1560 dX11_entry_72 ?_
    refine sb_iload_n (pc' := 76) rfl rfl dX11_entry_75 ?_
    refine sb_iconst (pc' := 77) rfl dX11_entry_76 ?_
    refine sb_iadd (pc' := 78) rfl dX11_entry_77 ?_
    refine sb_iconst (pc' := 79) rfl dX11_entry_78 ?_
    refine sb_iadd (pc' := 80) rfl dX11_entry_79 ?_
    refine sb_iconst (pc' := 81) rfl dX11_entry_80 ?_
    refine sb_iconst (pc' := 82) rfl dX11_entry_81 ?_
    obtain ⟨d13, hd13, H⟩ := H
    refine sb_callV (pc' := 85) rfl rfl (rc := rc) (rs := rs) (mc' := 0) (ms' := 0) (As := [(.ref (ad 107)), (vi (((10 * (sc σ 102 12)) + 4) + 1)), (vi 3), (vi 1)]) (st := [(vi ((10 * (sc σ 102 12)) + 4)), (.ref (ad 107))]) of_102 rfl rfl (Nat.le_of_ble_eq_true rfl) hd13 kX11_wordsInto ⟨wd_1746, wd_1748, wd_103⟩ dX11_entry_82 (Eb.mono H ?_)
    rintro o s13 ⟨r13, rfl, hr13, hs13, H⟩
    show Wb g ad d mX11_entry Q 85 [some (.ref (ad 102)), some (vi (10 * (sc σ 102 12)))] [(vi r13), (vi ((10 * (sc σ 102 12)) + 4)), (.ref (ad 107))] s13 rc rs
    obtain ⟨o14, H⟩ := H
    refine sb_iast (pc' := 86) rfl aI_107 o14.1 o14.2  dX11_entry_85 ?_
    refine sb_aload_n (pc' := 87) rfl rfl dX11_entry_86 ?_
    refine sb_getC (pc' := 90) rfl fc_102_10 wd_1560 dX11_entry_87 ?_
    refine sb_iload_n (pc' := 91) rfl rfl dX11_entry_90 ?_
    refine sb_bipush (pc' := 93) rfl (z := 8) (by decide) dX11_entry_91 ?_
    refine sb_iadd (pc' := 94) rfl dX11_entry_93 ?_
    refine sb_aload_n (pc' := 95) rfl rfl dX11_entry_94 ?_
    refine sb_bipush (pc' := 97) rfl (z := 99) (by decide) dX11_entry_95 ?_
    obtain ⟨d15, hd15, H⟩ := H
    refine sb_callV (pc' := 100) rfl rfl (rc := rc) (rs := rs) (mc' := 0) (ms' := 0) (As := [(vi 99)]) (st := [(vi ((10 * (sc σ 102 12)) + 8)), (.ref (ad 107))]) of_102 rfl rfl (Nat.le_of_ble_eq_true rfl) hd15 kX11_number ⟨wd_1770, wd_1772, wd_109⟩ dX11_entry_97 (Eb.mono H ?_)
    rintro o s15 ⟨r15, rfl, hr15, hs15, H⟩
    show Wb g ad d mX11_entry Q 100 [some (.ref (ad 102)), some (vi (10 * (sc σ 102 12)))] [(vi r15), (vi ((10 * (sc σ 102 12)) + 8)), (.ref (ad 107))] s15 rc rs
    obtain ⟨o16, H⟩ := H
    refine sb_iast (pc' := 101) rfl aI_107 o16.1 o16.2  dX11_entry_100 ?_
    exact sb_vret rfl dX11_entry_101 (H (SR_setI hs15 hr15))
theorem bX11_pair_0 {g : AG} {ad : Nat → Nat} {d : Nat} {Q : AO → SG → Prop} {rc rs : Nat} {σ : SG}    (hS : SR σ) (H : Cl g ad d mX11_here 0 0 [(.ref (ad 102))] σ (Ki fun r1 s1 => (0 ≤ sc σ 102 12 ∧ sc σ 102 12 < 12) ∧ Cl g ad d mX11_isSign 0 0 [(.ref (ad 102)), (vi 94)] (setI s1 108 (sc σ 102 12) r1) (Ki fun r3 s3 => ((r3 = 0 → iR (10 * (sc σ 102 12)) ∧ (iR (10 * (sc σ 102 12)) → iR r3 → SR s3 → Wb g ad d mX11_pair Q 42 [some (.ref (ad 102)), some (vi (10 * (sc σ 102 12))), some (vi r3), none] [] s3 rc rs)) ∧ (¬ r3 = 0 → iR ((sc s3 102 8) + 1) ∧ iR (10 * (sc σ 102 12)) ∧ (iR (10 * (sc σ 102 12)) → iR r3 → SR (setS s3 102 8 ((sc s3 102 8) + 1)) → Wb g ad d mX11_pair Q 42 [some (.ref (ad 102)), some (vi (10 * (sc σ 102 12))), some (vi r3), none] [] (setS s3 102 8 ((sc s3 102 8) + 1)) rc rs)))))) : Wb g ad d mX11_pair Q 0 [some (.ref (ad 102)), none, none, none] [] σ rc rs := by
  refine sb_bipush (pc' := 2) rfl (z := 10) (by decide) dX11_pair_0 ?_
  refine sb_aload_n (pc' := 3) rfl rfl dX11_pair_2 ?_
  refine sb_getI (pc' := 6) rfl fi_102_12 wd_1562 dX11_pair_3 ?_
  refine sb_imul (pc' := 7) rfl dX11_pair_6 ?_
  refine sb_istore_n (pc' := 8) rfl (L' := [some (.ref (ad 102)), some (vi (10 * (sc σ 102 12))), none, none]) rfl (by decide) dX11_pair_7 ?_
  refine sb_aload_n (pc' := 9) rfl rfl dX11_pair_8 ?_
  refine sb_getC (pc' := 12) rfl fc_102_11 wd_1561 dX11_pair_9 ?_
  refine sb_aload_n (pc' := 13) rfl rfl dX11_pair_12 ?_
  refine sb_getI (pc' := 16) rfl fi_102_12 wd_1562 dX11_pair_13 ?_
  refine sb_aload_n (pc' := 17) rfl rfl dX11_pair_16 ?_
  obtain ⟨d1, hd1, H⟩ := H
  refine sb_callV (pc' := 20) rfl rfl (rc := rc) (rs := rs) (mc' := 0) (ms' := 0) (As := []) (st := [(vi (sc σ 102 12)), (.ref (ad 108))]) of_102 rfl rfl (Nat.le_of_ble_eq_true rfl) hd1 kX11_here ⟨wd_1734, wd_1736, wd_100⟩ dX11_pair_17 (Eb.mono H ?_)
  rintro o s1 ⟨r1, rfl, hr1, hs1, H⟩
  show Wb g ad d mX11_pair Q 20 [some (.ref (ad 102)), some (vi (10 * (sc σ 102 12))), none, none] [(vi r1), (vi (sc σ 102 12)), (.ref (ad 108))] s1 rc rs
  obtain ⟨o2, H⟩ := H
  refine sb_iast (pc' := 21) rfl aI_108 o2.1 o2.2  dX11_pair_20 ?_
  refine sb_aload_n (pc' := 22) rfl rfl dX11_pair_21 ?_
  refine sb_bipush (pc' := 24) rfl (z := 94) (by decide) dX11_pair_22 ?_
  obtain ⟨d3, hd3, H⟩ := H
  refine sb_callV (pc' := 27) rfl rfl (rc := rc) (rs := rs) (mc' := 0) (ms' := 0) (As := [(vi 94)]) (st := []) of_102 rfl rfl (Nat.le_of_ble_eq_true rfl) hd3 kX11_isSign ⟨wd_1766, wd_1768, wd_108⟩ dX11_pair_24 (Eb.mono H ?_)
  rintro o s3 ⟨r3, rfl, hr3, hs3, H⟩
  show Wb g ad d mX11_pair Q 27 [some (.ref (ad 102)), some (vi (10 * (sc σ 102 12))), none, none] [(vi r3)] s3 rc rs
  refine sb_istore_n (pc' := 28) rfl (L' := [some (.ref (ad 102)), some (vi (10 * (sc σ 102 12))), some (vi r3), none]) rfl (by decide) dX11_pair_27 ?_
  refine sb_iload_n (pc' := 29) rfl rfl dX11_pair_28 ?_
  refine sb_if_eq (pc' := 32) (tgt := 42) rfl (by decide) hr3 dX11_pair_29 ?_ ?_
  · intro cc; have H := H.1 cc
    obtain ⟨o4, H⟩ := H
    exact (H o4 hr3 hs3)
  · intro cc; have H := H.2 cc
    refine sb_aload_n (pc' := 33) rfl rfl dX11_pair_32 ?_
    refine sb_dup (pc' := 34) rfl rfl dX11_pair_33 ?_
    refine sb_getI (pc' := 37) rfl fi_102_8 wd_1558 dX11_pair_34 ?_
    refine sb_iconst (pc' := 38) rfl dX11_pair_37 ?_
    refine sb_iadd (pc' := 39) rfl dX11_pair_38 ?_
    obtain ⟨o5, H⟩ := H
    refine sb_putI (pc' := 42) rfl fi_102_8 (Or.inl rfl) wd_1558 dX11_pair_39 ?_
    obtain ⟨o6, H⟩ := H
    exact (H o6 hr3 (SR_setS hs3 o5))
theorem bX11_pair_42 {g : AG} {ad : Nat → Nat} {d : Nat} {Q : AO → SG → Prop} {rc rs : Nat} {σ : SG} {x1 x2 : Int}  (hx1 : iR x1) (hx2 : iR x2) (hS : SR σ) (H : ((x2 = 0 → Cl g ad d mX11_word 0 0 [(.ref (ad 102)), (vi 1)] σ (Ki fun r1 s1 => (0 ≤ x1 ∧ x1 < 120) ∧ ((¬ (sc (setI s1 107 x1 r1) 102 9) = ((-1)) → (iR x1 → iR x2 → SR (setI s1 107 x1 r1) → Wb g ad d mX11_pair Q 82 [some (.ref (ad 102)), some (vi x1), some (vi x2), none] [] (setI s1 107 x1 r1) rc rs)) ∧ ((sc (setI s1 107 x1 r1) 102 9) = ((-1)) → Cl g ad d mX11_isSign 0 0 [(.ref (ad 102)), (vi 36)] (setI s1 107 x1 r1) (Ki fun r3 s3 => ((r3 = 0 → (iR x1 → iR x2 → SR s3 → Wb g ad d mX11_pair Q 82 [some (.ref (ad 102)), some (vi x1), some (vi x2), none] [] s3 rc rs)) ∧ (¬ r3 = 0 → iR ((sc s3 102 8) + 1) ∧ (iR x1 → iR x2 → iR 1 → SR (setS s3 102 8 ((sc s3 102 8) + 1)) → Wb g ad d mX11_pair Q 98 [some (.ref (ad 102)), some (vi x1), some (vi x2), some (vi 1)] [] (setS s3 102 8 ((sc s3 102 8) + 1)) rc rs)))))))) ∧ (¬ x2 = 0 → (0 ≤ x1 ∧ x1 < 120) ∧ ((¬ (sc (setI σ 107 x1 ((-1))) 102 9) = ((-1)) → (iR x1 → iR x2 → SR (setI σ 107 x1 ((-1))) → Wb g ad d mX11_pair Q 82 [some (.ref (ad 102)), some (vi x1), some (vi x2), none] [] (setI σ 107 x1 ((-1))) rc rs)) ∧ ((sc (setI σ 107 x1 ((-1))) 102 9) = ((-1)) → Cl g ad d mX11_isSign 0 0 [(.ref (ad 102)), (vi 36)] (setI σ 107 x1 ((-1))) (Ki fun r6 s6 => ((r6 = 0 → (iR x1 → iR x2 → SR s6 → Wb g ad d mX11_pair Q 82 [some (.ref (ad 102)), some (vi x1), some (vi x2), none] [] s6 rc rs)) ∧ (¬ r6 = 0 → iR ((sc s6 102 8) + 1) ∧ (iR x1 → iR x2 → iR 1 → SR (setS s6 102 8 ((sc s6 102 8) + 1)) → Wb g ad d mX11_pair Q 98 [some (.ref (ad 102)), some (vi x1), some (vi x2), some (vi 1)] [] (setS s6 102 8 ((sc s6 102 8) + 1)) rc rs))))))))) : Wb g ad d mX11_pair Q 42 [some (.ref (ad 102)), some (vi x1), some (vi x2), none] [] σ rc rs := by
  refine sb_aload_n (pc' := 43) rfl rfl dX11_pair_42 ?_
  refine sb_getC (pc' := 46) rfl fc_102_10 wd_1560 dX11_pair_43 ?_
  refine sb_iload_n (pc' := 47) rfl rfl dX11_pair_46 ?_
  refine sb_iload_n (pc' := 48) rfl rfl dX11_pair_47 ?_
  refine sb_if_eq (pc' := 51) (tgt := 55) rfl (by decide) hx2 dX11_pair_48 ?_ ?_
  · intro cc; have H := H.1 cc
    refine sb_aload_n (pc' := 56) rfl rfl dX11_pair_55 ?_
    refine sb_iconst (pc' := 57) rfl dX11_pair_56 ?_
    obtain ⟨d1, hd1, H⟩ := H
    refine sb_callV (pc' := 60) rfl rfl (rc := rc) (rs := rs) (mc' := 0) (ms' := 0) (As := [(vi 1)]) (st := [(vi x1), (.ref (ad 107))]) of_102 rfl rfl (Nat.le_of_ble_eq_true rfl) hd1 kX11_word ⟨wd_1754, wd_1756, wd_105⟩ dX11_pair_57 (Eb.mono H ?_)
    rintro o s1 ⟨r1, rfl, hr1, hs1, H⟩
    show Wb g ad d mX11_pair Q 60 [some (.ref (ad 102)), some (vi x1), some (vi x2), none] [(vi r1), (vi x1), (.ref (ad 107))] s1 rc rs
    obtain ⟨o2, H⟩ := H
    refine sb_iast (pc' := 61) rfl aI_107 o2.1 o2.2  dX11_pair_60 ?_
    refine sb_aload_n (pc' := 62) rfl rfl dX11_pair_61 ?_
    refine sb_getI (pc' := 65) rfl fi_102_9 wd_1559 dX11_pair_62 ?_
    refine sb_iconst (pc' := 66) rfl dX11_pair_65 ?_
    refine sb_icmp_ne (pc' := 69) (tgt := 82) rfl (by decide) (SR_sc (SR_setI hs1 hr1) _ _) (iR_lit rfl) dX11_pair_66 ?_ ?_
    · intro cc; have H := H.1 cc
      exact (H hx1 hx2 (SR_setI hs1 hr1))
    · intro cc; have H := H.2 cc
      refine sb_aload_n (pc' := 70) rfl rfl dX11_pair_69 ?_
      refine sb_bipush (pc' := 72) rfl (z := 36) (by decide) dX11_pair_70 ?_
      obtain ⟨d3, hd3, H⟩ := H
      refine sb_callV (pc' := 75) rfl rfl (rc := rc) (rs := rs) (mc' := 0) (ms' := 0) (As := [(vi 36)]) (st := []) of_102 rfl rfl (Nat.le_of_ble_eq_true rfl) hd3 kX11_isSign ⟨wd_1766, wd_1768, wd_108⟩ dX11_pair_72 (Eb.mono H ?_)
      rintro o s3 ⟨r3, rfl, hr3, hs3, H⟩
      show Wb g ad d mX11_pair Q 75 [some (.ref (ad 102)), some (vi x1), some (vi x2), none] [(vi r3)] s3 rc rs
      refine sb_if_eq (pc' := 78) (tgt := 82) rfl (by decide) hr3 dX11_pair_75 ?_ ?_
      · intro cc; have H := H.1 cc
        exact (H hx1 hx2 hs3)
      · intro cc; have H := H.2 cc
        refine sb_iconst (pc' := 79) rfl dX11_pair_78 ?_
        refine sb_goto (tgt := 83) (by decide) dX11_pair_79 ?_
        refine sb_istore_n (pc' := 84) rfl (L' := [some (.ref (ad 102)), some (vi x1), some (vi x2), some (vi 1)]) rfl (by decide) dX11_pair_83 ?_
        refine sb_iload_n (pc' := 85) rfl rfl dX11_pair_84 ?_
        refine sb_if_eq (pc' := 88) (tgt := 98) rfl (by decide) (iR_lit rfl) dX11_pair_85 ?_ ?_
        · intro cc; exact absurd cc (by decide)
        · intro cc
          refine sb_aload_n (pc' := 89) rfl rfl dX11_pair_88 ?_
          refine sb_dup (pc' := 90) rfl rfl dX11_pair_89 ?_
          refine sb_getI (pc' := 93) rfl fi_102_8 wd_1558 dX11_pair_90 ?_
          refine sb_iconst (pc' := 94) rfl dX11_pair_93 ?_
          refine sb_iadd (pc' := 95) rfl dX11_pair_94 ?_
          obtain ⟨o4, H⟩ := H
          refine sb_putI (pc' := 98) rfl fi_102_8 (Or.inl rfl) wd_1558 dX11_pair_95 ?_
          exact (H hx1 hx2 (iR_lit rfl) (SR_setS hs3 o4))
  · intro cc; have H := H.2 cc
    refine sb_iconst (pc' := 52) rfl dX11_pair_51 ?_
    refine sb_goto (tgt := 60) (by decide) dX11_pair_52 ?_
    obtain ⟨o5, H⟩ := H
    refine sb_iast (pc' := 61) rfl aI_107 o5.1 o5.2  dX11_pair_60 ?_
    refine sb_aload_n (pc' := 62) rfl rfl dX11_pair_61 ?_
    refine sb_getI (pc' := 65) rfl fi_102_9 wd_1559 dX11_pair_62 ?_
    refine sb_iconst (pc' := 66) rfl dX11_pair_65 ?_
    refine sb_icmp_ne (pc' := 69) (tgt := 82) rfl (by decide) (SR_sc (SR_setI hS (iR_lit rfl)) _ _) (iR_lit rfl) dX11_pair_66 ?_ ?_
    · intro cc; have H := H.1 cc
      exact (H hx1 hx2 (SR_setI hS (iR_lit rfl)))
    · intro cc; have H := H.2 cc
      refine sb_aload_n (pc' := 70) rfl rfl dX11_pair_69 ?_
      refine sb_bipush (pc' := 72) rfl (z := 36) (by decide) dX11_pair_70 ?_
      obtain ⟨d6, hd6, H⟩ := H
      refine sb_callV (pc' := 75) rfl rfl (rc := rc) (rs := rs) (mc' := 0) (ms' := 0) (As := [(vi 36)]) (st := []) of_102 rfl rfl (Nat.le_of_ble_eq_true rfl) hd6 kX11_isSign ⟨wd_1766, wd_1768, wd_108⟩ dX11_pair_72 (Eb.mono H ?_)
      rintro o s6 ⟨r6, rfl, hr6, hs6, H⟩
      show Wb g ad d mX11_pair Q 75 [some (.ref (ad 102)), some (vi x1), some (vi x2), none] [(vi r6)] s6 rc rs
      refine sb_if_eq (pc' := 78) (tgt := 82) rfl (by decide) hr6 dX11_pair_75 ?_ ?_
      · intro cc; have H := H.1 cc
        exact (H hx1 hx2 hs6)
      · intro cc; have H := H.2 cc
        refine sb_iconst (pc' := 79) rfl dX11_pair_78 ?_
        refine sb_goto (tgt := 83) (by decide) dX11_pair_79 ?_
        refine sb_istore_n (pc' := 84) rfl (L' := [some (.ref (ad 102)), some (vi x1), some (vi x2), some (vi 1)]) rfl (by decide) dX11_pair_83 ?_
        refine sb_iload_n (pc' := 85) rfl rfl dX11_pair_84 ?_
        refine sb_if_eq (pc' := 88) (tgt := 98) rfl (by decide) (iR_lit rfl) dX11_pair_85 ?_ ?_
        · intro cc; exact absurd cc (by decide)
        · intro cc
          refine sb_aload_n (pc' := 89) rfl rfl dX11_pair_88 ?_
          refine sb_dup (pc' := 90) rfl rfl dX11_pair_89 ?_
          refine sb_getI (pc' := 93) rfl fi_102_8 wd_1558 dX11_pair_90 ?_
          refine sb_iconst (pc' := 94) rfl dX11_pair_93 ?_
          refine sb_iadd (pc' := 95) rfl dX11_pair_94 ?_
          obtain ⟨o7, H⟩ := H
          refine sb_putI (pc' := 98) rfl fi_102_8 (Or.inl rfl) wd_1558 dX11_pair_95 ?_
          exact (H hx1 hx2 (iR_lit rfl) (SR_setS hs6 o7))
theorem bX11_pair_82 {g : AG} {ad : Nat → Nat} {d : Nat} {Q : AO → SG → Prop} {rc rs : Nat} {σ : SG} {x1 x2 : Int}  (hx1 : iR x1) (hx2 : iR x2) (hS : SR σ) (H : (iR x1 → iR x2 → iR 0 → SR σ → Wb g ad d mX11_pair Q 98 [some (.ref (ad 102)), some (vi x1), some (vi x2), some (vi 0)] [] σ rc rs)) : Wb g ad d mX11_pair Q 82 [some (.ref (ad 102)), some (vi x1), some (vi x2), none] [] σ rc rs := by
  refine sb_iconst (pc' := 83) rfl dX11_pair_82 ?_
  refine sb_istore_n (pc' := 84) rfl (L' := [some (.ref (ad 102)), some (vi x1), some (vi x2), some (vi 0)]) rfl (by decide) dX11_pair_83 ?_
  refine sb_iload_n (pc' := 85) rfl rfl dX11_pair_84 ?_
  refine sb_if_eq (pc' := 88) (tgt := 98) rfl (by decide) (iR_lit rfl) dX11_pair_85 ?_ ?_
  · intro cc
    exact (H hx1 hx2 (iR_lit rfl) hS)
  · intro cc; exact absurd cc (by decide)
theorem bX11_pair_98 {g : AG} {ad : Nat → Nat} {d : Nat} {Q : AO → SG → Prop} {rc rs : Nat} {σ : SG} {x1 x2 x3 : Int}  (hx1 : iR x1) (hx2 : iR x2) (hx3 : iR x3) (hS : SR σ) (H : ((x3 = 0 → Cl g ad d mX11_word 0 0 [(.ref (ad 102)), (vi 1)] σ (Ki fun r1 s1 => (0 ≤ x1 + 1 ∧ x1 + 1 < 120) ∧ Cl g ad d mX11_number 0 0 [(.ref (ad 102)), (vi 99)] (setI s1 107 (x1 + 1) r1) (Ki fun r3 s3 => (0 ≤ x1 + 2 ∧ x1 + 2 < 120) ∧ (SR (setI s3 107 (x1 + 2) r3) → Q (.inl none) (setI s3 107 (x1 + 2) r3))))) ∧ (¬ x3 = 0 → (0 ≤ x1 + 1 ∧ x1 + 1 < 120) ∧ Cl g ad d mX11_number 0 0 [(.ref (ad 102)), (vi 99)] (setI σ 107 (x1 + 1) ((-1))) (Ki fun r6 s6 => (0 ≤ x1 + 2 ∧ x1 + 2 < 120) ∧ (SR (setI s6 107 (x1 + 2) r6) → Q (.inl none) (setI s6 107 (x1 + 2) r6)))))) : Wb g ad d mX11_pair Q 98 [some (.ref (ad 102)), some (vi x1), some (vi x2), some (vi x3)] [] σ rc rs := by
  refine sb_aload_n (pc' := 99) rfl rfl dX11_pair_98 ?_
  refine sb_getC (pc' := 102) rfl fc_102_10 wd_1560 dX11_pair_99 ?_
  refine sb_iload_n (pc' := 103) rfl rfl dX11_pair_102 ?_
  refine sb_iconst (pc' := 104) rfl dX11_pair_103 ?_
  refine sb_iadd (pc' := 105) rfl dX11_pair_104 ?_
  refine sb_iload_n (pc' := 106) rfl rfl dX11_pair_105 ?_
  refine sb_if_eq (pc' := 109) (tgt := 113) rfl (by decide) hx3 dX11_pair_106 ?_ ?_
  · intro cc; have H := H.1 cc
    refine sb_aload_n (pc' := 114) rfl rfl dX11_pair_113 ?_
    refine sb_iconst (pc' := 115) rfl dX11_pair_114 ?_
    obtain ⟨d1, hd1, H⟩ := H
    refine sb_callV (pc' := 118) rfl rfl (rc := rc) (rs := rs) (mc' := 0) (ms' := 0) (As := [(vi 1)]) (st := [(vi (x1 + 1)), (.ref (ad 107))]) of_102 rfl rfl (Nat.le_of_ble_eq_true rfl) hd1 kX11_word ⟨wd_1754, wd_1756, wd_105⟩ dX11_pair_115 (Eb.mono H ?_)
    rintro o s1 ⟨r1, rfl, hr1, hs1, H⟩
    show Wb g ad d mX11_pair Q 118 [some (.ref (ad 102)), some (vi x1), some (vi x2), some (vi x3)] [(vi r1), (vi (x1 + 1)), (.ref (ad 107))] s1 rc rs
    obtain ⟨o2, H⟩ := H
    refine sb_iast (pc' := 119) rfl aI_107 o2.1 o2.2  dX11_pair_118 ?_
    refine sb_aload_n (pc' := 120) rfl rfl dX11_pair_119 ?_
    refine sb_getC (pc' := 123) rfl fc_102_10 wd_1560 dX11_pair_120 ?_
    refine sb_iload_n (pc' := 124) rfl rfl dX11_pair_123 ?_
    refine sb_iconst (pc' := 125) rfl dX11_pair_124 ?_
    refine sb_iadd (pc' := 126) rfl dX11_pair_125 ?_
    refine sb_aload_n (pc' := 127) rfl rfl dX11_pair_126 ?_
    refine sb_bipush (pc' := 129) rfl (z := 99) (by decide) dX11_pair_127 ?_
    obtain ⟨d3, hd3, H⟩ := H
    refine sb_callV (pc' := 132) rfl rfl (rc := rc) (rs := rs) (mc' := 0) (ms' := 0) (As := [(vi 99)]) (st := [(vi (x1 + 2)), (.ref (ad 107))]) of_102 rfl rfl (Nat.le_of_ble_eq_true rfl) hd3 kX11_number ⟨wd_1770, wd_1772, wd_109⟩ dX11_pair_129 (Eb.mono H ?_)
    rintro o s3 ⟨r3, rfl, hr3, hs3, H⟩
    show Wb g ad d mX11_pair Q 132 [some (.ref (ad 102)), some (vi x1), some (vi x2), some (vi x3)] [(vi r3), (vi (x1 + 2)), (.ref (ad 107))] s3 rc rs
    obtain ⟨o4, H⟩ := H
    refine sb_iast (pc' := 133) rfl aI_107 o4.1 o4.2  dX11_pair_132 ?_
    exact sb_vret rfl dX11_pair_133 (H (SR_setI hs3 hr3))
  · intro cc; have H := H.2 cc
    refine sb_iconst (pc' := 110) rfl dX11_pair_109 ?_
    refine sb_goto (tgt := 118) (by decide) dX11_pair_110 ?_
    obtain ⟨o5, H⟩ := H
    refine sb_iast (pc' := 119) rfl aI_107 o5.1 o5.2  dX11_pair_118 ?_
    refine sb_aload_n (pc' := 120) rfl rfl dX11_pair_119 ?_
    refine sb_getC (pc' := 123) rfl fc_102_10 wd_1560 dX11_pair_120 ?_
    refine sb_iload_n (pc' := 124) rfl rfl dX11_pair_123 ?_
    refine sb_iconst (pc' := 125) rfl dX11_pair_124 ?_
    refine sb_iadd (pc' := 126) rfl dX11_pair_125 ?_
    refine sb_aload_n (pc' := 127) rfl rfl dX11_pair_126 ?_
    refine sb_bipush (pc' := 129) rfl (z := 99) (by decide) dX11_pair_127 ?_
    obtain ⟨d6, hd6, H⟩ := H
    refine sb_callV (pc' := 132) rfl rfl (rc := rc) (rs := rs) (mc' := 0) (ms' := 0) (As := [(vi 99)]) (st := [(vi (x1 + 2)), (.ref (ad 107))]) of_102 rfl rfl (Nat.le_of_ble_eq_true rfl) hd6 kX11_number ⟨wd_1770, wd_1772, wd_109⟩ dX11_pair_129 (Eb.mono H ?_)
    rintro o s6 ⟨r6, rfl, hr6, hs6, H⟩
    show Wb g ad d mX11_pair Q 132 [some (.ref (ad 102)), some (vi x1), some (vi x2), some (vi x3)] [(vi r6), (vi (x1 + 2)), (.ref (ad 107))] s6 rc rs
    obtain ⟨o7, H⟩ := H
    refine sb_iast (pc' := 133) rfl aI_107 o7.1 o7.2  dX11_pair_132 ?_
    exact sb_vret rfl dX11_pair_133 (H (SR_setI hs6 hr6))
theorem bX11_reads_0 {g : AG} {ad : Nat → Nat} {d : Nat} {Q : AO → SG → Prop} {rc rs : Nat} {σ : SG} {x1 : Int}  (hx1 : iR x1) (hS : SR σ) (H : Cl g ad d mX11_here 0 0 [(.ref (ad 102))] σ (Ki fun r1 s1 => (((sc s1 102 7) ≤ r1 → (iR x1 → iR 0 → SR s1 → Wb g ad d mX11_reads Q 17 [some (.ref (ad 102)), some (vi x1), some (vi 0)] [] s1 rc rs)) ∧ (¬ (sc s1 102 7) ≤ r1 → (iR x1 → iR 1 → SR s1 → Wb g ad d mX11_reads Q 17 [some (.ref (ad 102)), some (vi x1), some (vi 1)] [] s1 rc rs))))) : Wb g ad d mX11_reads Q 0 [some (.ref (ad 102)), some (vi x1), none] [] σ rc rs := by
  refine sb_aload_n (pc' := 1) rfl rfl dX11_reads_0 ?_
  obtain ⟨d1, hd1, H⟩ := H
  refine sb_callV (pc' := 4) rfl rfl (rc := rc) (rs := rs) (mc' := 0) (ms' := 0) (As := []) (st := []) of_102 rfl rfl (Nat.le_of_ble_eq_true rfl) hd1 kX11_here ⟨wd_1734, wd_1736, wd_100⟩ dX11_reads_1 (Eb.mono H ?_)
  rintro o s1 ⟨r1, rfl, hr1, hs1, H⟩
  show Wb g ad d mX11_reads Q 4 [some (.ref (ad 102)), some (vi x1), none] [(vi r1)] s1 rc rs
  refine sb_aload_n (pc' := 5) rfl rfl dX11_reads_4 ?_
  refine sb_getI (pc' := 8) rfl fi_102_7 wd_1557 dX11_reads_5 ?_
  refine sb_icmp_ge (pc' := 11) (tgt := 15) rfl (by decide) hr1 (SR_sc hs1 _ _) dX11_reads_8 ?_ ?_
  · intro cc; have H := H.1 cc
    refine sb_iconst (pc' := 16) rfl dX11_reads_15 ?_
    refine sb_istore_n (pc' := 17) rfl (L' := [some (.ref (ad 102)), some (vi x1), some (vi 0)]) rfl (by decide) dX11_reads_16 ?_
    exact (H hx1 (iR_lit rfl) hs1)
  · intro cc; have H := H.2 cc
    refine sb_iconst (pc' := 12) rfl dX11_reads_11 ?_
    refine sb_goto (tgt := 16) (by decide) dX11_reads_12 ?_
    refine sb_istore_n (pc' := 17) rfl (L' := [some (.ref (ad 102)), some (vi x1), some (vi 1)]) rfl (by decide) dX11_reads_16 ?_
    exact (H hx1 (iR_lit rfl) hs1)
theorem bX11_reads_17 {g : AG} {ad : Nat → Nat} {d : Nat} {Q : AO → SG → Prop} {rc rs : Nat} {σ : SG} {x1 x2 : Int}  (hx1 : iR x1) (hx2 : iR x2) (hS : SR σ) (H : ((x2 = 0 → (iR x1 → iR x2 → SR σ → Wb g ad d mX11_reads Q 107 [some (.ref (ad 102)), some (vi x1), some (vi x2)] [] σ rc rs)) ∧ (¬ x2 = 0 → ((¬ (sc σ 102 9) = ((-1)) → (iR x1 → iR x2 → SR σ → Wb g ad d mX11_reads Q 107 [some (.ref (ad 102)), some (vi x1), some (vi x2)] [] σ rc rs)) ∧ ((sc σ 102 9) = ((-1)) → ((¬ (sc σ 102 12) = 12 → ((x1 = 0 → Cl g ad d mX11_pair 0 0 [(.ref (ad 102))] σ (Kv fun s1 => (iR x1 → iR x2 → SR s1 → Wb g ad d mX11_reads Q 64 [some (.ref (ad 102)), some (vi x1), some (vi x2)] [] s1 rc rs))) ∧ (¬ x1 = 0 → Cl g ad d mX11_entry 0 0 [(.ref (ad 102))] σ (Kv fun s2 => (iR x1 → iR x2 → SR s2 → Wb g ad d mX11_reads Q 64 [some (.ref (ad 102)), some (vi x1), some (vi x2)] [] s2 rc rs))))) ∧ ((sc σ 102 12) = 12 → Cl g ad d mX11_here 0 0 [(.ref (ad 102))] σ (Ki fun r3 s3 => Cl g ad d mX11_wrong 0 0 [(.ref (ad 102)), (vi r3)] s3 (Kv fun s4 => (iR x1 → iR x2 → SR s4 → Wb g ad d mX11_reads Q 64 [some (.ref (ad 102)), some (vi x1), some (vi x2)] [] s4 rc rs)))))))))) : Wb g ad d mX11_reads Q 17 [some (.ref (ad 102)), some (vi x1), some (vi x2)] [] σ rc rs := by
  refine sb_iload_n (pc' := 18) rfl rfl dX11_reads_17 ?_
  refine sb_if_eq (pc' := 21) (tgt := 107) rfl (by decide) hx2 dX11_reads_18 ?_ ?_
  · intro cc; have H := H.1 cc
    exact (H hx1 hx2 hS)
  · intro cc; have H := H.2 cc
    refine sb_aload_n (pc' := 22) rfl rfl dX11_reads_21 ?_
    refine sb_getI (pc' := 25) rfl fi_102_9 wd_1559 dX11_reads_22 ?_
    refine sb_iconst (pc' := 26) rfl dX11_reads_25 ?_
    refine sb_icmp_ne (pc' := 29) (tgt := 107) rfl (by decide) (SR_sc hS _ _) (iR_lit rfl) dX11_reads_26 ?_ ?_
    · intro cc; have H := H.1 cc
      exact (H hx1 hx2 hS)
    · intro cc; have H := H.2 cc
      refine sb_aload_n (pc' := 30) rfl rfl dX11_reads_29 ?_
      refine sb_getI (pc' := 33) rfl fi_102_12 wd_1562 dX11_reads_30 ?_
      refine sb_bipush (pc' := 35) rfl (z := 12) (by decide) dX11_reads_33 ?_
      refine sb_icmp_ne (pc' := 38) (tgt := 49) rfl (by decide) (SR_sc hS _ _) (iR_lit rfl) dX11_reads_35 ?_ ?_
      · intro cc; have H := H.1 cc
        refine sb_iload_n (pc' := 50) rfl rfl dX11_reads_49 ?_
        refine sb_if_eq (pc' := 53) (tgt := 60) rfl (by decide) hx1 dX11_reads_50 ?_ ?_
        · intro cc; have H := H.1 cc
          refine sb_aload_n (pc' := 61) rfl rfl dX11_reads_60 ?_
          obtain ⟨d1, hd1, H⟩ := H
          refine sb_callV (pc' := 64) rfl rfl (rc := rc) (rs := rs) (mc' := 0) (ms' := 0) (As := []) (st := []) of_102 rfl rfl (Nat.le_of_ble_eq_true rfl) hd1 kX11_pair ⟨wd_1774, wd_1776, wd_110⟩ dX11_reads_61 (Eb.mono H ?_)
          rintro o s1 ⟨rfl, hs1, H⟩
          show Wb g ad d mX11_reads Q 64 [some (.ref (ad 102)), some (vi x1), some (vi x2)] [] s1 rc rs
          exact (H hx1 hx2 hs1)
        · intro cc; have H := H.2 cc
          refine sb_aload_n (pc' := 54) rfl rfl dX11_reads_53 ?_
          obtain ⟨d2, hd2, H⟩ := H
          refine sb_callV (pc' := 57) rfl rfl (rc := rc) (rs := rs) (mc' := 0) (ms' := 0) (As := []) (st := []) of_102 rfl rfl (Nat.le_of_ble_eq_true rfl) hd2 kX11_entry ⟨wd_1742, wd_1744, wd_102⟩ dX11_reads_54 (Eb.mono H ?_)
          rintro o s2 ⟨rfl, hs2, H⟩
          show Wb g ad d mX11_reads Q 57 [some (.ref (ad 102)), some (vi x1), some (vi x2)] [] s2 rc rs
          refine sb_goto (tgt := 64) (by decide) dX11_reads_57 ?_
          exact (H hx1 hx2 hs2)
      · intro cc; have H := H.2 cc
        refine sb_aload_n (pc' := 39) rfl rfl dX11_reads_38 ?_
        refine sb_aload_n (pc' := 40) rfl rfl dX11_reads_39 ?_
        obtain ⟨d3, hd3, H⟩ := H
        refine sb_callV (pc' := 43) rfl rfl (rc := rc) (rs := rs) (mc' := 0) (ms' := 0) (As := []) (st := [(.ref (ad 102))]) of_102 rfl rfl (Nat.le_of_ble_eq_true rfl) hd3 kX11_here ⟨wd_1734, wd_1736, wd_100⟩ dX11_reads_40 (Eb.mono H ?_)
        rintro o s3 ⟨r3, rfl, hr3, hs3, H⟩
        show Wb g ad d mX11_reads Q 43 [some (.ref (ad 102)), some (vi x1), some (vi x2)] [(vi r3), (.ref (ad 102))] s3 rc rs
        obtain ⟨d4, hd4, H⟩ := H
        refine sb_callV (pc' := 46) rfl rfl (rc := rc) (rs := rs) (mc' := 0) (ms' := 0) (As := [(vi r3)]) (st := []) of_102 rfl rfl (Nat.le_of_ble_eq_true rfl) hd4 kX11_wrong ⟨wd_1738, wd_1740, wd_101⟩ dX11_reads_43 (Eb.mono H ?_)
        rintro o s4 ⟨rfl, hs4, H⟩
        show Wb g ad d mX11_reads Q 46 [some (.ref (ad 102)), some (vi x1), some (vi x2)] [] s4 rc rs
        refine sb_goto (tgt := 64) (by decide) dX11_reads_46 ?_
        exact (H hx1 hx2 hs4)
theorem bX11_reads_64 {g : AG} {ad : Nat → Nat} {d : Nat} {Q : AO → SG → Prop} {rc rs : Nat} {σ : SG} {x1 x2 : Int}  (hx1 : iR x1) (hx2 : iR x2) (hS : SR σ) (H : iR ((sc σ 102 12) + 1) ∧ ((¬ (sc (setS σ 102 12 ((sc σ 102 12) + 1)) 102 9) = ((-1)) → (iR x1 → iR x2 → SR (setS σ 102 12 ((sc σ 102 12) + 1)) → Wb g ad d mX11_reads Q 93 [some (.ref (ad 102)), some (vi x1), some (vi x2)] [] (setS σ 102 12 ((sc σ 102 12) + 1)) rc rs)) ∧ ((sc (setS σ 102 12 ((sc σ 102 12) + 1)) 102 9) = ((-1)) → Cl g ad d mX11_here 0 0 [(.ref (ad 102))] (setS σ 102 12 ((sc σ 102 12) + 1)) (Ki fun r2 s2 => ((¬ r2 = (sc s2 102 7) → Cl g ad d mX11_mustSign 0 0 [(.ref (ad 102)), (vi 59)] s2 (Kv fun s3 => (iR x1 → iR x2 → SR s3 → Wb g ad d mX11_reads Q 17 [some (.ref (ad 102)), some (vi x1), some (vi x2)] [] s3 rc rs))) ∧ (r2 = (sc s2 102 7) → (iR x1 → iR x2 → SR s2 → Wb g ad d mX11_reads Q 93 [some (.ref (ad 102)), some (vi x1), some (vi x2)] [] s2 rc rs))))))) : Wb g ad d mX11_reads Q 64 [some (.ref (ad 102)), some (vi x1), some (vi x2)] [] σ rc rs := by
  refine sb_aload_n (pc' := 65) rfl rfl dX11_reads_64 ?_
  refine sb_dup (pc' := 66) rfl rfl dX11_reads_65 ?_
  refine sb_getI (pc' := 69) rfl fi_102_12 wd_1562 dX11_reads_66 ?_
  refine sb_iconst (pc' := 70) rfl dX11_reads_69 ?_
  refine sb_iadd (pc' := 71) rfl dX11_reads_70 ?_
  obtain ⟨o1, H⟩ := H
  refine sb_putI (pc' := 74) rfl fi_102_12 (Or.inl rfl) wd_1562 dX11_reads_71 ?_
  refine sb_aload_n (pc' := 75) rfl rfl dX11_reads_74 ?_
  refine sb_getI (pc' := 78) rfl fi_102_9 wd_1559 dX11_reads_75 ?_
  refine sb_iconst (pc' := 79) rfl dX11_reads_78 ?_
  refine sb_icmp_ne (pc' := 82) (tgt := 93) rfl (by decide) (SR_sc (SR_setS hS o1) _ _) (iR_lit rfl) dX11_reads_79 ?_ ?_
  · intro cc; have H := H.1 cc
    exact (H hx1 hx2 (SR_setS hS o1))
  · intro cc; have H := H.2 cc
    refine sb_aload_n (pc' := 83) rfl rfl dX11_reads_82 ?_
    obtain ⟨d2, hd2, H⟩ := H
    refine sb_callV (pc' := 86) rfl rfl (rc := rc) (rs := rs) (mc' := 0) (ms' := 0) (As := []) (st := []) of_102 rfl rfl (Nat.le_of_ble_eq_true rfl) hd2 kX11_here ⟨wd_1734, wd_1736, wd_100⟩ dX11_reads_83 (Eb.mono H ?_)
    rintro o s2 ⟨r2, rfl, hr2, hs2, H⟩
    show Wb g ad d mX11_reads Q 86 [some (.ref (ad 102)), some (vi x1), some (vi x2)] [(vi r2)] s2 rc rs
    refine sb_aload_n (pc' := 87) rfl rfl dX11_reads_86 ?_
    refine sb_getI (pc' := 90) rfl fi_102_7 wd_1557 dX11_reads_87 ?_
    refine sb_icmp_ne (pc' := 93) (tgt := 98) rfl (by decide) hr2 (SR_sc hs2 _ _) dX11_reads_90 ?_ ?_
    · intro cc; have H := H.1 cc
      refine sb_aload_n (pc' := 99) rfl rfl dX11_reads_98 ?_
      refine sb_bipush (pc' := 101) rfl (z := 59) (by decide) dX11_reads_99 ?_
      obtain ⟨d3, hd3, H⟩ := H
      refine sb_callV (pc' := 104) rfl rfl (rc := rc) (rs := rs) (mc' := 0) (ms' := 0) (As := [(vi 59)]) (st := []) of_102 rfl rfl (Nat.le_of_ble_eq_true rfl) hd3 kX11_mustSign ⟨wd_1762, wd_1764, wd_107⟩ dX11_reads_101 (Eb.mono H ?_)
      rintro o s3 ⟨rfl, hs3, H⟩
      show Wb g ad d mX11_reads Q 104 [some (.ref (ad 102)), some (vi x1), some (vi x2)] [] s3 rc rs
      refine sb_goto (tgt := 17) (by decide) dX11_reads_104 ?_
      exact (H hx1 hx2 hs3)
    · intro cc; have H := H.2 cc
      exact (H hx1 hx2 hs2)
theorem bX11_reads_93 {g : AG} {ad : Nat → Nat} {d : Nat} {Q : AO → SG → Prop} {rc rs : Nat} {σ : SG} {x1 x2 : Int}  (hx1 : iR x1) (hx2 : iR x2) (hS : SR σ) (H : (iR x1 → iR 0 → SR σ → Wb g ad d mX11_reads Q 17 [some (.ref (ad 102)), some (vi x1), some (vi 0)] [] σ rc rs)) : Wb g ad d mX11_reads Q 93 [some (.ref (ad 102)), some (vi x1), some (vi x2)] [] σ rc rs := by
  refine sb_iconst (pc' := 94) rfl dX11_reads_93 ?_
  refine sb_istore_n (pc' := 95) rfl (L' := [some (.ref (ad 102)), some (vi x1), some (vi 0)]) rfl (by decide) dX11_reads_94 ?_
  refine sb_goto (tgt := 17) (by decide) dX11_reads_95 ?_
  exact (H hx1 (iR_lit rfl) hS)
theorem bX11_reads_107 {g : AG} {ad : Nat → Nat} {d : Nat} {Q : AO → SG → Prop} {rc rs : Nat} {σ : SG} {x1 x2 : Int}  (hx1 : iR x1) (hx2 : iR x2) (hS : SR σ) (H : (SR σ → Q (.inl none) σ)) : Wb g ad d mX11_reads Q 107 [some (.ref (ad 102)), some (vi x1), some (vi x2)] [] σ rc rs := by
  exact sb_vret rfl dX11_reads_107 (H hS)
theorem bX11_alike_0 {g : AG} {ad : Nat → Nat} {d : Nat} {Q : AO → SG → Prop} {rc rs : Nat} {σ : SG} {x2 x3 : Int} {c1 n1 : Nat} (hc1 : aI c1 n1) (hx2 : iR x2) (hx3 : iR x3) (hS : SR σ) (H : (iR x2 → iR x3 → iR 0 → SR σ → Wb g ad d mX11_alike Q 3 [some (.ref (ad 102)), some (.ref (ad c1)), some (vi x2), some (vi x3), some (vi 0), none, none] [] σ rc rs)) : Wb g ad d mX11_alike Q 0 [some (.ref (ad 102)), some (.ref (ad c1)), some (vi x2), some (vi x3), none, none, none] [] σ rc rs := by
  refine sb_iconst (pc' := 1) rfl dX11_alike_0 ?_
  refine sb_istore (pc' := 3) rfl (L' := [some (.ref (ad 102)), some (.ref (ad c1)), some (vi x2), some (vi x3), some (vi 0), none, none]) rfl (by decide) dX11_alike_1 ?_
  exact (H hx2 hx3 (iR_lit rfl) hS)
theorem bX11_alike_3 {g : AG} {ad : Nat → Nat} {d : Nat} {Q : AO → SG → Prop} {rc rs : Nat} {σ : SG} {x2 x3 x4 : Int} {c1 n1 : Nat} (hc1 : aI c1 n1) (hx2 : iR x2) (hx3 : iR x3) (hx4 : iR x4) (hS : SR σ) (H : (((ia σ 103 1) ≤ x4 → (iR ((-1)) → SR σ → Q (.inl (some (vi ((-1))))) σ)) ∧ (¬ (ia σ 103 1) ≤ x4 → ((x4 = x3 → (iR x2 → iR x3 → iR x4 → SR σ → Wb g ad d mX11_alike Q 63 [some (.ref (ad 102)), some (.ref (ad c1)), some (vi x2), some (vi x3), some (vi x4), none, none] [] σ rc rs)) ∧ (¬ x4 = x3 → Cl g ad d mX11_of 0 0 [(.ref (ad 102)), (vi x4), (vi 9)] σ (Ki fun r1 s1 => ((¬ r1 = 0 → (iR x2 → iR x3 → iR x4 → SR s1 → Wb g ad d mX11_alike Q 63 [some (.ref (ad 102)), some (.ref (ad c1)), some (vi x2), some (vi x3), some (vi x4), none, none] [] s1 rc rs)) ∧ (r1 = 0 → Cl g ad d mX11_of 0 0 [(.ref (ad 102)), (vi x4), (vi 0)] s1 (Ki fun r2 s2 => (0 ≤ x2 ∧ x2 < n1) ∧ ((¬ r2 = (ia s2 c1 x2) → (iR x2 → iR x3 → iR x4 → SR s2 → Wb g ad d mX11_alike Q 63 [some (.ref (ad 102)), some (.ref (ad c1)), some (vi x2), some (vi x3), some (vi x4), none, none] [] s2 rc rs)) ∧ (r2 = (ia s2 c1 x2) → Cl g ad d mX11_of 0 0 [(.ref (ad 102)), (vi x4), (vi 4)] s2 (Ki fun r4 s4 => (0 ≤ x2 + 4 ∧ x2 + 4 < n1) ∧ ((¬ r4 = (ia s4 c1 (x2 + 4)) → (iR x2 → iR x3 → iR x4 → SR s4 → Wb g ad d mX11_alike Q 63 [some (.ref (ad 102)), some (.ref (ad c1)), some (vi x2), some (vi x3), some (vi x4), none, none] [] s4 rc rs)) ∧ (r4 = (ia s4 c1 (x2 + 4)) → (iR x2 → iR x3 → iR x4 → iR 1 → iR 1 → SR s4 → Wb g ad d mX11_alike Q 69 [some (.ref (ad 102)), some (.ref (ad c1)), some (vi x2), some (vi x3), some (vi x4), some (vi 1), some (vi 1)] [] s4 rc rs))))))))))))))) : Wb g ad d mX11_alike Q 3 [some (.ref (ad 102)), some (.ref (ad c1)), some (vi x2), some (vi x3), some (vi x4), none, none] [] σ rc rs := by
  refine sb_iload (pc' := 5) rfl rfl dX11_alike_3 ?_
  refine sb_aload_n (pc' := 6) rfl rfl dX11_alike_5 ?_
  refine sb_getC (pc' := 9) rfl fc_102_1 wd_1551 dX11_alike_6 ?_
  refine sb_iconst (pc' := 10) rfl dX11_alike_9 ?_
  refine sb_iald (pc' := 11) rfl aI_103 (by decide) (by decide) dX11_alike_10 ?_
  refine sb_icmp_ge (pc' := 14) (tgt := 163) rfl (by decide) hx4 (SR_ia hS _ _) dX11_alike_11 ?_ ?_
  · intro cc; have H := H.1 cc
    refine sb_iconst (pc' := 164) rfl dX11_alike_163 ?_
    exact sb_iret rfl rfl dX11_alike_164 (H (iR_lit rfl) hS)
  · intro cc; have H := H.2 cc
    refine sb_iload (pc' := 16) rfl rfl dX11_alike_14 ?_
    refine sb_iload_n (pc' := 17) rfl rfl dX11_alike_16 ?_
    refine sb_icmp_eq (pc' := 20) (tgt := 63) rfl (by decide) hx4 hx3 dX11_alike_17 ?_ ?_
    · intro cc; have H := H.1 cc
      exact (H hx2 hx3 hx4 hS)
    · intro cc; have H := H.2 cc
      refine sb_aload_n (pc' := 21) rfl rfl dX11_alike_20 ?_
      refine sb_iload (pc' := 23) rfl rfl dX11_alike_21 ?_
      refine sb_bipush (pc' := 25) rfl (z := 9) (by decide) dX11_alike_23 ?_
      obtain ⟨d1, hd1, H⟩ := H
      refine sb_callV (pc' := 28) rfl rfl (rc := rc) (rs := rs) (mc' := 0) (ms' := 0) (As := [(vi x4), (vi 9)]) (st := []) of_102 rfl rfl (Nat.le_of_ble_eq_true rfl) hd1 kX11_of ⟨wd_1782, wd_1784, wd_112⟩ dX11_alike_25 (Eb.mono H ?_)
      rintro o s1 ⟨r1, rfl, hr1, hs1, H⟩
      show Wb g ad d mX11_alike Q 28 [some (.ref (ad 102)), some (.ref (ad c1)), some (vi x2), some (vi x3), some (vi x4), none, none] [(vi r1)] s1 rc rs
      refine sb_if_ne (pc' := 31) (tgt := 63) rfl (by decide) hr1 dX11_alike_28 ?_ ?_
      · intro cc; have H := H.1 cc
        exact (H hx2 hx3 hx4 hs1)
      · intro cc; have H := H.2 cc
        refine sb_aload_n (pc' := 32) rfl rfl dX11_alike_31 ?_
        refine sb_iload (pc' := 34) rfl rfl dX11_alike_32 ?_
        refine sb_iconst (pc' := 35) rfl dX11_alike_34 ?_
        obtain ⟨d2, hd2, H⟩ := H
        refine sb_callV (pc' := 38) rfl rfl (rc := rc) (rs := rs) (mc' := 0) (ms' := 0) (As := [(vi x4), (vi 0)]) (st := []) of_102 rfl rfl (Nat.le_of_ble_eq_true rfl) hd2 kX11_of ⟨wd_1782, wd_1784, wd_112⟩ dX11_alike_35 (Eb.mono H ?_)
        rintro o s2 ⟨r2, rfl, hr2, hs2, H⟩
        show Wb g ad d mX11_alike Q 38 [some (.ref (ad 102)), some (.ref (ad c1)), some (vi x2), some (vi x3), some (vi x4), none, none] [(vi r2)] s2 rc rs
        refine sb_aload_n (pc' := 39) rfl rfl dX11_alike_38 ?_
        refine sb_iload_n (pc' := 40) rfl rfl dX11_alike_39 ?_
        obtain ⟨o3, H⟩ := H
        refine sb_iald (pc' := 41) rfl hc1 o3.1 o3.2 dX11_alike_40 ?_
        refine sb_icmp_ne (pc' := 44) (tgt := 63) rfl (by decide) hr2 (SR_ia hs2 _ _) dX11_alike_41 ?_ ?_
        · intro cc; have H := H.1 cc
          exact (H hx2 hx3 hx4 hs2)
        · intro cc; have H := H.2 cc
          refine sb_aload_n (pc' := 45) rfl rfl dX11_alike_44 ?_
          refine sb_iload (pc' := 47) rfl rfl dX11_alike_45 ?_
          refine sb_iconst (pc' := 48) rfl dX11_alike_47 ?_
          obtain ⟨d4, hd4, H⟩ := H
          refine sb_callV (pc' := 51) rfl rfl (rc := rc) (rs := rs) (mc' := 0) (ms' := 0) (As := [(vi x4), (vi 4)]) (st := []) of_102 rfl rfl (Nat.le_of_ble_eq_true rfl) hd4 kX11_of ⟨wd_1782, wd_1784, wd_112⟩ dX11_alike_48 (Eb.mono H ?_)
          rintro o s4 ⟨r4, rfl, hr4, hs4, H⟩
          show Wb g ad d mX11_alike Q 51 [some (.ref (ad 102)), some (.ref (ad c1)), some (vi x2), some (vi x3), some (vi x4), none, none] [(vi r4)] s4 rc rs
          refine sb_aload_n (pc' := 52) rfl rfl dX11_alike_51 ?_
          refine sb_iload_n (pc' := 53) rfl rfl dX11_alike_52 ?_
          refine sb_iconst (pc' := 54) rfl dX11_alike_53 ?_
          refine sb_iadd (pc' := 55) rfl dX11_alike_54 ?_
          obtain ⟨o5, H⟩ := H
          refine sb_iald (pc' := 56) rfl hc1 o5.1 o5.2 dX11_alike_55 ?_
          refine sb_icmp_ne (pc' := 59) (tgt := 63) rfl (by decide) hr4 (SR_ia hs4 _ _) dX11_alike_56 ?_ ?_
          · intro cc; have H := H.1 cc
            exact (H hx2 hx3 hx4 hs4)
          · intro cc; have H := H.2 cc
            refine sb_iconst (pc' := 60) rfl dX11_alike_59 ?_
            refine sb_goto (tgt := 64) (by decide) dX11_alike_60 ?_
            refine sb_istore (pc' := 66) rfl (L' := [some (.ref (ad 102)), some (.ref (ad c1)), some (vi x2), some (vi x3), some (vi x4), some (vi 1), none]) rfl (by decide) dX11_alike_64 ?_
            refine sb_iconst (pc' := 67) rfl dX11_alike_66 ?_
            refine sb_istore (pc' := 69) rfl (L' := [some (.ref (ad 102)), some (.ref (ad c1)), some (vi x2), some (vi x3), some (vi x4), some (vi 1), some (vi 1)]) rfl (by decide) dX11_alike_67 ?_
            exact (H hx2 hx3 hx4 (iR_lit rfl) (iR_lit rfl) hs4)
theorem bX11_alike_63 {g : AG} {ad : Nat → Nat} {d : Nat} {Q : AO → SG → Prop} {rc rs : Nat} {σ : SG} {x2 x3 x4 : Int} {c1 n1 : Nat} (hc1 : aI c1 n1) (hx2 : iR x2) (hx3 : iR x3) (hx4 : iR x4) (hS : SR σ) (H : (iR x2 → iR x3 → iR x4 → iR 0 → iR 1 → SR σ → Wb g ad d mX11_alike Q 69 [some (.ref (ad 102)), some (.ref (ad c1)), some (vi x2), some (vi x3), some (vi x4), some (vi 0), some (vi 1)] [] σ rc rs)) : Wb g ad d mX11_alike Q 63 [some (.ref (ad 102)), some (.ref (ad c1)), some (vi x2), some (vi x3), some (vi x4), none, none] [] σ rc rs := by
  refine sb_iconst (pc' := 64) rfl dX11_alike_63 ?_
  refine sb_istore (pc' := 66) rfl (L' := [some (.ref (ad 102)), some (.ref (ad c1)), some (vi x2), some (vi x3), some (vi x4), some (vi 0), none]) rfl (by decide) dX11_alike_64 ?_
  refine sb_iconst (pc' := 67) rfl dX11_alike_66 ?_
  refine sb_istore (pc' := 69) rfl (L' := [some (.ref (ad 102)), some (.ref (ad c1)), some (vi x2), some (vi x3), some (vi x4), some (vi 0), some (vi 1)]) rfl (by decide) dX11_alike_67 ?_
  exact (H hx2 hx3 hx4 (iR_lit rfl) (iR_lit rfl) hS)
theorem bX11_alike_69 {g : AG} {ad : Nat → Nat} {d : Nat} {Q : AO → SG → Prop} {rc rs : Nat} {σ : SG} {x2 x3 x4 x5 x6 : Int} {c1 n1 : Nat} (hc1 : aI c1 n1) (hx2 : iR x2) (hx3 : iR x3) (hx4 : iR x4) (hx5 : iR x5) (hx6 : iR x6) (hS : SR σ) (H : ((3 < x6 → (iR x2 → iR x3 → iR x4 → iR x5 → iR x6 → SR σ → Wb g ad d mX11_alike Q 149 [some (.ref (ad 102)), some (.ref (ad c1)), some (vi x2), some (vi x3), some (vi x4), some (vi x5), some (vi x6)] [] σ rc rs)) ∧ (¬ 3 < x6 → ((x5 = 0 → (iR x2 → iR x3 → iR x4 → iR x5 → iR x6 → SR σ → Wb g ad d mX11_alike Q 149 [some (.ref (ad 102)), some (.ref (ad c1)), some (vi x2), some (vi x3), some (vi x4), some (vi x5), some (vi x6)] [] σ rc rs)) ∧ (¬ x5 = 0 → (0 ≤ x2 ∧ x2 < n1) ∧ (((ia σ c1 x2) < x6 → (iR x2 → iR x3 → iR x4 → iR x5 → iR x6 → SR σ → Wb g ad d mX11_alike Q 105 [some (.ref (ad 102)), some (.ref (ad c1)), some (vi x2), some (vi x3), some (vi x4), some (vi x5), some (vi x6)] [] σ rc rs)) ∧ (¬ (ia σ c1 x2) < x6 → Cl g ad d mX11_of 0 0 [(.ref (ad 102)), (vi x4), (vi x6)] σ (Ki fun r2 s2 => (0 ≤ x2 + x6 ∧ x2 + x6 < n1) ∧ ((¬ r2 = (ia s2 c1 (x2 + x6)) → (iR x2 → iR x3 → iR x4 → iR x5 → iR x6 → SR s2 → Wb g ad d mX11_alike Q 140 [some (.ref (ad 102)), some (.ref (ad c1)), some (vi x2), some (vi x3), some (vi x4), some (vi x5), some (vi x6)] [] s2 rc rs)) ∧ (r2 = (ia s2 c1 (x2 + x6)) → (iR x2 → iR x3 → iR x4 → iR x5 → iR x6 → SR s2 → Wb g ad d mX11_alike Q 105 [some (.ref (ad 102)), some (.ref (ad c1)), some (vi x2), some (vi x3), some (vi x4), some (vi x5), some (vi x6)] [] s2 rc rs))))))))))) : Wb g ad d mX11_alike Q 69 [some (.ref (ad 102)), some (.ref (ad c1)), some (vi x2), some (vi x3), some (vi x4), some (vi x5), some (vi x6)] [] σ rc rs := by
  refine sb_iload (pc' := 71) rfl rfl dX11_alike_69 ?_
  refine sb_iconst (pc' := 72) rfl dX11_alike_71 ?_
  refine sb_icmp_gt (pc' := 75) (tgt := 149) rfl (by decide) hx6 (iR_lit rfl) dX11_alike_72 ?_ ?_
  · intro cc; have H := H.1 cc
    exact (H hx2 hx3 hx4 hx5 hx6 hS)
  · intro cc; have H := H.2 cc
    refine sb_iload (pc' := 77) rfl rfl dX11_alike_75 ?_
    refine sb_if_eq (pc' := 80) (tgt := 149) rfl (by decide) hx5 dX11_alike_77 ?_ ?_
    · intro cc; have H := H.1 cc
      exact (H hx2 hx3 hx4 hx5 hx6 hS)
    · intro cc; have H := H.2 cc
      refine sb_iload (pc' := 82) rfl rfl dX11_alike_80 ?_
      refine sb_aload_n (pc' := 83) rfl rfl dX11_alike_82 ?_
      refine sb_iload_n (pc' := 84) rfl rfl dX11_alike_83 ?_
      obtain ⟨o1, H⟩ := H
      refine sb_iald (pc' := 85) rfl hc1 o1.1 o1.2 dX11_alike_84 ?_
      refine sb_icmp_gt (pc' := 88) (tgt := 105) rfl (by decide) hx6 (SR_ia hS _ _) dX11_alike_85 ?_ ?_
      · intro cc; have H := H.1 cc
        exact (H hx2 hx3 hx4 hx5 hx6 hS)
      · intro cc; have H := H.2 cc
        refine sb_aload_n (pc' := 89) rfl rfl dX11_alike_88 ?_
        refine sb_iload (pc' := 91) rfl rfl dX11_alike_89 ?_
        refine sb_iload (pc' := 93) rfl rfl dX11_alike_91 ?_
        obtain ⟨d2, hd2, H⟩ := H
        refine sb_callV (pc' := 96) rfl rfl (rc := rc) (rs := rs) (mc' := 0) (ms' := 0) (As := [(vi x4), (vi x6)]) (st := []) of_102 rfl rfl (Nat.le_of_ble_eq_true rfl) hd2 kX11_of ⟨wd_1782, wd_1784, wd_112⟩ dX11_alike_93 (Eb.mono H ?_)
        rintro o s2 ⟨r2, rfl, hr2, hs2, H⟩
        show Wb g ad d mX11_alike Q 96 [some (.ref (ad 102)), some (.ref (ad c1)), some (vi x2), some (vi x3), some (vi x4), some (vi x5), some (vi x6)] [(vi r2)] s2 rc rs
        refine sb_aload_n (pc' := 97) rfl rfl dX11_alike_96 ?_
        refine sb_iload_n (pc' := 98) rfl rfl dX11_alike_97 ?_
        refine sb_iload (pc' := 100) rfl rfl dX11_alike_98 ?_
        refine sb_iadd (pc' := 101) rfl dX11_alike_100 ?_
        obtain ⟨o3, H⟩ := H
        refine sb_iald (pc' := 102) rfl hc1 o3.1 o3.2 dX11_alike_101 ?_
        refine sb_icmp_ne (pc' := 105) (tgt := 140) rfl (by decide) hr2 (SR_ia hs2 _ _) dX11_alike_102 ?_ ?_
        · intro cc; have H := H.1 cc
          exact (H hx2 hx3 hx4 hx5 hx6 hs2)
        · intro cc; have H := H.2 cc
          exact (H hx2 hx3 hx4 hx5 hx6 hs2)
theorem bX11_alike_105 {g : AG} {ad : Nat → Nat} {d : Nat} {Q : AO → SG → Prop} {rc rs : Nat} {σ : SG} {x2 x3 x4 x5 x6 : Int} {c1 n1 : Nat} (hc1 : aI c1 n1) (hx2 : iR x2) (hx3 : iR x3) (hx4 : iR x4) (hx5 : iR x5) (hx6 : iR x6) (hS : SR σ) (H : (0 ≤ x2 + 4 ∧ x2 + 4 < n1) ∧ (((ia σ c1 (x2 + 4)) < x6 → (iR x2 → iR x3 → iR x4 → iR x5 → iR x6 → SR σ → Wb g ad d mX11_alike Q 136 [some (.ref (ad 102)), some (.ref (ad c1)), some (vi x2), some (vi x3), some (vi x4), some (vi x5), some (vi x6)] [] σ rc rs)) ∧ (¬ (ia σ c1 (x2 + 4)) < x6 → Cl g ad d mX11_of 0 0 [(.ref (ad 102)), (vi x4), (vi (4 + x6))] σ (Ki fun r2 s2 => (0 ≤ (x2 + 4) + x6 ∧ (x2 + 4) + x6 < n1) ∧ ((¬ r2 = (ia s2 c1 ((x2 + 4) + x6)) → (iR x2 → iR x3 → iR x4 → iR x5 → iR x6 → SR s2 → Wb g ad d mX11_alike Q 140 [some (.ref (ad 102)), some (.ref (ad c1)), some (vi x2), some (vi x3), some (vi x4), some (vi x5), some (vi x6)] [] s2 rc rs)) ∧ (r2 = (ia s2 c1 ((x2 + 4) + x6)) → (iR x2 → iR x3 → iR x4 → iR x5 → iR x6 → SR s2 → Wb g ad d mX11_alike Q 136 [some (.ref (ad 102)), some (.ref (ad c1)), some (vi x2), some (vi x3), some (vi x4), some (vi x5), some (vi x6)] [] s2 rc rs))))))) : Wb g ad d mX11_alike Q 105 [some (.ref (ad 102)), some (.ref (ad c1)), some (vi x2), some (vi x3), some (vi x4), some (vi x5), some (vi x6)] [] σ rc rs := by
  refine sb_iload (pc' := 107) rfl rfl dX11_alike_105 ?_
  refine sb_aload_n (pc' := 108) rfl rfl dX11_alike_107 ?_
  refine sb_iload_n (pc' := 109) rfl rfl dX11_alike_108 ?_
  refine sb_iconst (pc' := 110) rfl dX11_alike_109 ?_
  refine sb_iadd (pc' := 111) rfl dX11_alike_110 ?_
  obtain ⟨o1, H⟩ := H
  refine sb_iald (pc' := 112) rfl hc1 o1.1 o1.2 dX11_alike_111 ?_
  refine sb_icmp_gt (pc' := 115) (tgt := 136) rfl (by decide) hx6 (SR_ia hS _ _) dX11_alike_112 ?_ ?_
  · intro cc; have H := H.1 cc
    exact (H hx2 hx3 hx4 hx5 hx6 hS)
  · intro cc; have H := H.2 cc
    refine sb_aload_n (pc' := 116) rfl rfl dX11_alike_115 ?_
    refine sb_iload (pc' := 118) rfl rfl dX11_alike_116 ?_
    refine sb_iconst (pc' := 119) rfl dX11_alike_118 ?_
    refine sb_iload (pc' := 121) rfl rfl dX11_alike_119 ?_
    refine sb_iadd (pc' := 122) rfl dX11_alike_121 ?_
    obtain ⟨d2, hd2, H⟩ := H
    refine sb_callV (pc' := 125) rfl rfl (rc := rc) (rs := rs) (mc' := 0) (ms' := 0) (As := [(vi x4), (vi (4 + x6))]) (st := []) of_102 rfl rfl (Nat.le_of_ble_eq_true rfl) hd2 kX11_of ⟨wd_1782, wd_1784, wd_112⟩ dX11_alike_122 (Eb.mono H ?_)
    rintro o s2 ⟨r2, rfl, hr2, hs2, H⟩
    show Wb g ad d mX11_alike Q 125 [some (.ref (ad 102)), some (.ref (ad c1)), some (vi x2), some (vi x3), some (vi x4), some (vi x5), some (vi x6)] [(vi r2)] s2 rc rs
    refine sb_aload_n (pc' := 126) rfl rfl dX11_alike_125 ?_
    refine sb_iload_n (pc' := 127) rfl rfl dX11_alike_126 ?_
    refine sb_iconst (pc' := 128) rfl dX11_alike_127 ?_
    refine sb_iadd (pc' := 129) rfl dX11_alike_128 ?_
    refine sb_iload (pc' := 131) rfl rfl dX11_alike_129 ?_
    refine sb_iadd (pc' := 132) rfl dX11_alike_131 ?_
    obtain ⟨o3, H⟩ := H
    refine sb_iald (pc' := 133) rfl hc1 o3.1 o3.2 dX11_alike_132 ?_
    refine sb_icmp_ne (pc' := 136) (tgt := 140) rfl (by decide) hr2 (SR_ia hs2 _ _) dX11_alike_133 ?_ ?_
    · intro cc; have H := H.1 cc
      exact (H hx2 hx3 hx4 hx5 hx6 hs2)
    · intro cc; have H := H.2 cc
      exact (H hx2 hx3 hx4 hx5 hx6 hs2)
theorem bX11_alike_136 {g : AG} {ad : Nat → Nat} {d : Nat} {Q : AO → SG → Prop} {rc rs : Nat} {σ : SG} {x2 x3 x4 x5 x6 : Int} {c1 n1 : Nat} (hc1 : aI c1 n1) (hx2 : iR x2) (hx3 : iR x3) (hx4 : iR x4) (hx5 : iR x5) (hx6 : iR x6) (hS : SR σ) (H : iR (x6 + 1) ∧ (iR x2 → iR x3 → iR x4 → iR 1 → iR (x6 + 1) → SR σ → Wb g ad d mX11_alike Q 69 [some (.ref (ad 102)), some (.ref (ad c1)), some (vi x2), some (vi x3), some (vi x4), some (vi 1), some (vi (x6 + 1))] [] σ rc rs)) : Wb g ad d mX11_alike Q 136 [some (.ref (ad 102)), some (.ref (ad c1)), some (vi x2), some (vi x3), some (vi x4), some (vi x5), some (vi x6)] [] σ rc rs := by
  refine sb_iconst (pc' := 137) rfl dX11_alike_136 ?_
  refine sb_goto (tgt := 141) (by decide) dX11_alike_137 ?_
  refine sb_istore (pc' := 143) rfl (L' := [some (.ref (ad 102)), some (.ref (ad c1)), some (vi x2), some (vi x3), some (vi x4), some (vi 1), some (vi x6)]) rfl (by decide) dX11_alike_141 ?_
  refine sb_iinc (pc' := 146) rfl rfl (L' := [some (.ref (ad 102)), some (.ref (ad c1)), some (vi x2), some (vi x3), some (vi x4), some (vi 1), some (vi (x6 + 1))]) rfl (by decide) dX11_alike_143 ?_
  refine sb_goto (tgt := 69) (by decide) dX11_alike_146 ?_
  obtain ⟨o1, H⟩ := H
  exact (H hx2 hx3 hx4 (iR_lit rfl) o1 hS)
theorem bX11_alike_140 {g : AG} {ad : Nat → Nat} {d : Nat} {Q : AO → SG → Prop} {rc rs : Nat} {σ : SG} {x2 x3 x4 x5 x6 : Int} {c1 n1 : Nat} (hc1 : aI c1 n1) (hx2 : iR x2) (hx3 : iR x3) (hx4 : iR x4) (hx5 : iR x5) (hx6 : iR x6) (hS : SR σ) (H : iR (x6 + 1) ∧ (iR x2 → iR x3 → iR x4 → iR 0 → iR (x6 + 1) → SR σ → Wb g ad d mX11_alike Q 69 [some (.ref (ad 102)), some (.ref (ad c1)), some (vi x2), some (vi x3), some (vi x4), some (vi 0), some (vi (x6 + 1))] [] σ rc rs)) : Wb g ad d mX11_alike Q 140 [some (.ref (ad 102)), some (.ref (ad c1)), some (vi x2), some (vi x3), some (vi x4), some (vi x5), some (vi x6)] [] σ rc rs := by
  refine sb_iconst (pc' := 141) rfl dX11_alike_140 ?_
  refine sb_istore (pc' := 143) rfl (L' := [some (.ref (ad 102)), some (.ref (ad c1)), some (vi x2), some (vi x3), some (vi x4), some (vi 0), some (vi x6)]) rfl (by decide) dX11_alike_141 ?_
  refine sb_iinc (pc' := 146) rfl rfl (L' := [some (.ref (ad 102)), some (.ref (ad c1)), some (vi x2), some (vi x3), some (vi x4), some (vi 0), some (vi (x6 + 1))]) rfl (by decide) dX11_alike_143 ?_
  refine sb_goto (tgt := 69) (by decide) dX11_alike_146 ?_
  obtain ⟨o1, H⟩ := H
  exact (H hx2 hx3 hx4 (iR_lit rfl) o1 hS)
theorem bX11_alike_149 {g : AG} {ad : Nat → Nat} {d : Nat} {Q : AO → SG → Prop} {rc rs : Nat} {σ : SG} {x2 x3 x4 x5 x6 : Int} {c1 n1 : Nat} (hc1 : aI c1 n1) (hx2 : iR x2) (hx3 : iR x3) (hx4 : iR x4) (hx5 : iR x5) (hx6 : iR x6) (hS : SR σ) (H : ((x5 = 0 → iR (x4 + 1) ∧ (iR x2 → iR x3 → iR (x4 + 1) → SR σ → Wb g ad d mX11_alike Q 3 [some (.ref (ad 102)), some (.ref (ad c1)), some (vi x2), some (vi x3), some (vi (x4 + 1)), none, none] [] σ rc rs)) ∧ (¬ x5 = 0 → (iR x4 → SR σ → Q (.inl (some (vi x4))) σ)))) : Wb g ad d mX11_alike Q 149 [some (.ref (ad 102)), some (.ref (ad c1)), some (vi x2), some (vi x3), some (vi x4), some (vi x5), some (vi x6)] [] σ rc rs := by
  refine sb_iload (pc' := 151) rfl rfl dX11_alike_149 ?_
  refine sb_if_eq (pc' := 154) (tgt := 157) rfl (by decide) hx5 dX11_alike_151 ?_ ?_
  · intro cc; have H := H.1 cc
    refine sb_iinc (pc' := 160) rfl rfl (L' := [some (.ref (ad 102)), some (.ref (ad c1)), some (vi x2), some (vi x3), some (vi (x4 + 1)), some (vi x5), some (vi x6)]) rfl (by decide) dX11_alike_157 ?_
    refine sb_goto (tgt := 3) (by decide) dX11_alike_160 ?_
    obtain ⟨o1, H⟩ := H
    refine Wb.forget [true, true, true, true, true, false, false] ?_
    exact (H hx2 hx3 o1 hS)
  · intro cc; have H := H.2 cc
    refine sb_iload (pc' := 156) rfl rfl dX11_alike_154 ?_
    exact sb_iret rfl rfl dX11_alike_156 (H hx4 hS)
theorem bX11_comes_0 {g : AG} {ad : Nat → Nat} {d : Nat} {Q : AO → SG → Prop} {rc rs : Nat} {σ : SG} {x1 x2 : Int}  (hx1 : iR x1) (hx2 : iR x2) (hS : SR σ) (H : iR (369 + (10 * (ia σ 103 1))) ∧ (iR x1 → iR x2 → iR (369 + (10 * (ia σ 103 1))) → iR 0 → SR σ → Wb g ad d mX11_comes Q 17 [some (.ref (ad 102)), some (vi x1), some (vi x2), some (vi (369 + (10 * (ia σ 103 1)))), some (vi 0)] [] σ rc rs)) : Wb g ad d mX11_comes Q 0 [some (.ref (ad 102)), some (vi x1), some (vi x2), none, none] [] σ rc rs := by
  refine sb_sipush (pc' := 3) rfl (z := 369) (by decide) dX11_comes_0 ?_
  refine sb_bipush (pc' := 5) rfl (z := 10) (by decide) dX11_comes_3 ?_
  refine sb_aload_n (pc' := 6) rfl rfl dX11_comes_5 ?_
  refine sb_getC (pc' := 9) rfl fc_102_1 wd_1551 dX11_comes_6 ?_
  refine sb_iconst (pc' := 10) rfl dX11_comes_9 ?_
  refine sb_iald (pc' := 11) rfl aI_103 (by decide) (by decide) dX11_comes_10 ?_
  refine sb_imul (pc' := 12) rfl dX11_comes_11 ?_
  refine sb_iadd (pc' := 13) rfl dX11_comes_12 ?_
  refine sb_istore_n (pc' := 14) rfl (L' := [some (.ref (ad 102)), some (vi x1), some (vi x2), some (vi (369 + (10 * (ia σ 103 1)))), none]) rfl (by decide) dX11_comes_13 ?_
  refine sb_iconst (pc' := 15) rfl dX11_comes_14 ?_
  refine sb_istore (pc' := 17) rfl (L' := [some (.ref (ad 102)), some (vi x1), some (vi x2), some (vi (369 + (10 * (ia σ 103 1)))), some (vi 0)]) rfl (by decide) dX11_comes_15 ?_
  obtain ⟨o1, H⟩ := H
  exact (H hx1 hx2 o1 (iR_lit rfl) hS)
theorem bX11_comes_17 {g : AG} {ad : Nat → Nat} {d : Nat} {Q : AO → SG → Prop} {rc rs : Nat} {σ : SG} {x1 x2 x3 x4 : Int}  (hx1 : iR x1) (hx2 : iR x2) (hx3 : iR x3) (hx4 : iR x4) (hS : SR σ) (H : ((8 ≤ x4 → (0 ≤ x3 + 8 ∧ x3 + 8 < 855) ∧ (0 ≤ x3 + 9 ∧ x3 + 9 < 855) ∧ iR ((ia (setI (setI σ 103 (x3 + 8) x2) 103 (x3 + 9) 0) 103 1) + 1) ∧ (SR (setI (setI (setI σ 103 (x3 + 8) x2) 103 (x3 + 9) 0) 103 1 ((ia (setI (setI σ 103 (x3 + 8) x2) 103 (x3 + 9) 0) 103 1) + 1)) → Q (.inl none) (setI (setI (setI σ 103 (x3 + 8) x2) 103 (x3 + 9) 0) 103 1 ((ia (setI (setI σ 103 (x3 + 8) x2) 103 (x3 + 9) 0) 103 1) + 1)))) ∧ (¬ 8 ≤ x4 → (0 ≤ x1 + x4 ∧ x1 + x4 < 120) ∧ (0 ≤ x3 + x4 ∧ x3 + x4 < 855) ∧ iR (x4 + 1) ∧ (iR x1 → iR x2 → iR x3 → iR (x4 + 1) → SR (setI σ 103 (x3 + x4) (ia σ 107 (x1 + x4))) → Wb g ad d mX11_comes Q 17 [some (.ref (ad 102)), some (vi x1), some (vi x2), some (vi x3), some (vi (x4 + 1))] [] (setI σ 103 (x3 + x4) (ia σ 107 (x1 + x4))) rc rs)))) : Wb g ad d mX11_comes Q 17 [some (.ref (ad 102)), some (vi x1), some (vi x2), some (vi x3), some (vi x4)] [] σ rc rs := by
  refine sb_iload (pc' := 19) rfl rfl dX11_comes_17 ?_
  refine sb_bipush (pc' := 21) rfl (z := 8) (by decide) dX11_comes_19 ?_
  refine sb_icmp_ge (pc' := 24) (tgt := 48) rfl (by decide) hx4 (iR_lit rfl) dX11_comes_21 ?_ ?_
  · intro cc; have H := H.1 cc
    refine sb_aload_n (pc' := 49) rfl rfl dX11_comes_48 ?_
    refine sb_getC (pc' := 52) rfl fc_102_1 wd_1551 dX11_comes_49 ?_
    refine sb_iload_n (pc' := 53) rfl rfl dX11_comes_52 ?_
    refine sb_bipush (pc' := 55) rfl (z := 8) (by decide) dX11_comes_53 ?_
    refine sb_iadd (pc' := 56) rfl dX11_comes_55 ?_
    refine sb_iload_n (pc' := 57) rfl rfl dX11_comes_56 ?_
    obtain ⟨o1, H⟩ := H
    refine sb_iast (pc' := 58) rfl aI_103 o1.1 o1.2  dX11_comes_57 ?_
    refine sb_aload_n (pc' := 59) rfl rfl dX11_comes_58 ?_
    refine sb_getC (pc' := 62) rfl fc_102_1 wd_1551 dX11_comes_59 ?_
    refine sb_iload_n (pc' := 63) rfl rfl dX11_comes_62 ?_
    refine sb_bipush (pc' := 65) rfl (z := 9) (by decide) dX11_comes_63 ?_
    refine sb_iadd (pc' := 66) rfl dX11_comes_65 ?_
    refine sb_iconst (pc' := 67) rfl dX11_comes_66 ?_
    obtain ⟨o2, H⟩ := H
    refine sb_iast (pc' := 68) rfl aI_103 o2.1 o2.2  dX11_comes_67 ?_
    refine sb_aload_n (pc' := 69) rfl rfl dX11_comes_68 ?_
    refine sb_getC (pc' := 72) rfl fc_102_1 wd_1551 dX11_comes_69 ?_
    refine sb_iconst (pc' := 73) rfl dX11_comes_72 ?_
    refine sb_dup2 (pc' := 74) rfl rfl rfl dX11_comes_73 ?_
    refine sb_iald (pc' := 75) rfl aI_103 (by decide) (by decide) dX11_comes_74 ?_
    refine sb_iconst (pc' := 76) rfl dX11_comes_75 ?_
    refine sb_iadd (pc' := 77) rfl dX11_comes_76 ?_
    obtain ⟨o3, H⟩ := H
    refine sb_iast (pc' := 78) rfl aI_103 (by decide) (by decide)  dX11_comes_77 ?_
    exact sb_vret rfl dX11_comes_78 (H (SR_setI (SR_setI (SR_setI hS hx2) (iR_lit rfl)) o3))
  · intro cc; have H := H.2 cc
    refine sb_aload_n (pc' := 25) rfl rfl dX11_comes_24 ?_
    refine sb_getC (pc' := 28) rfl fc_102_1 wd_1551 dX11_comes_25 ?_
    refine sb_iload_n (pc' := 29) rfl rfl dX11_comes_28 ?_
    refine sb_iload (pc' := 31) rfl rfl dX11_comes_29 ?_
    refine sb_iadd (pc' := 32) rfl dX11_comes_31 ?_
    refine sb_aload_n (pc' := 33) rfl rfl dX11_comes_32 ?_
    refine sb_getC (pc' := 36) rfl fc_102_10 wd_1560 dX11_comes_33 ?_
    refine sb_iload_n (pc' := 37) rfl rfl dX11_comes_36 ?_
    refine sb_iload (pc' := 39) rfl rfl dX11_comes_37 ?_
    refine sb_iadd (pc' := 40) rfl dX11_comes_39 ?_
    obtain ⟨o4, H⟩ := H
    refine sb_iald (pc' := 41) rfl aI_107 o4.1 o4.2 dX11_comes_40 ?_
    obtain ⟨o5, H⟩ := H
    refine sb_iast (pc' := 42) rfl aI_103 o5.1 o5.2  dX11_comes_41 ?_
    refine sb_iinc (pc' := 45) rfl rfl (L' := [some (.ref (ad 102)), some (vi x1), some (vi x2), some (vi x3), some (vi (x4 + 1))]) rfl (by decide) dX11_comes_42 ?_
    refine sb_goto (tgt := 17) (by decide) dX11_comes_45 ?_
    obtain ⟨o6, H⟩ := H
    exact (H hx1 hx2 hx3 o6 (SR_setI hS (SR_ia hS _ _)))
theorem bX11_book_0 {g : AG} {ad : Nat → Nat} {d : Nat} {Q : AO → SG → Prop} {rc rs : Nat} {σ : SG}    (hS : SR σ) (H : Cl g ad d mX11_begins 0 0 [(.ref (ad 102))] σ (Kv fun s1 => Cl g ad d mX11_reads 0 0 [(.ref (ad 102)), (vi 1)] s1 (Kv fun s2 => (iR 0 → iR 0 → SR s2 → Wb g ad d mX11_book Q 13 [some (.ref (ad 102)), some (vi 0), some (vi 0), none] [] s2 rc rs)))) : Wb g ad d mX11_book Q 0 [some (.ref (ad 102)), none, none, none] [] σ rc rs := by
  refine sb_aload_n (pc' := 1) rfl rfl dX11_book_0 ?_
  obtain ⟨d1, hd1, H⟩ := H
  refine sb_callV (pc' := 4) rfl rfl (rc := rc) (rs := rs) (mc' := 0) (ms' := 0) (As := []) (st := []) of_102 rfl rfl (Nat.le_of_ble_eq_true rfl) hd1 kX11_begins ⟨wd_1726, wd_1728, wd_98⟩ dX11_book_1 (Eb.mono H ?_)
  rintro o s1 ⟨rfl, hs1, H⟩
  show Wb g ad d mX11_book Q 4 [some (.ref (ad 102)), none, none, none] [] s1 rc rs
  refine sb_aload_n (pc' := 5) rfl rfl dX11_book_4 ?_
  refine sb_iconst (pc' := 6) rfl dX11_book_5 ?_
  obtain ⟨d2, hd2, H⟩ := H
  refine sb_callV (pc' := 9) rfl rfl (rc := rc) (rs := rs) (mc' := 0) (ms' := 0) (As := [(vi 1)]) (st := []) of_102 rfl rfl (Nat.le_of_ble_eq_true rfl) hd2 kX11_reads ⟨wd_1730, wd_1732, wd_99⟩ dX11_book_6 (Eb.mono H ?_)
  rintro o s2 ⟨rfl, hs2, H⟩
  show Wb g ad d mX11_book Q 9 [some (.ref (ad 102)), none, none, none] [] s2 rc rs
  refine sb_iconst (pc' := 10) rfl dX11_book_9 ?_
  refine sb_istore_n (pc' := 11) rfl (L' := [some (.ref (ad 102)), some (vi 0), none, none]) rfl (by decide) dX11_book_10 ?_
  refine sb_iconst (pc' := 12) rfl dX11_book_11 ?_
  refine sb_istore_n (pc' := 13) rfl (L' := [some (.ref (ad 102)), some (vi 0), some (vi 0), none]) rfl (by decide) dX11_book_12 ?_
  exact (H (iR_lit rfl) (iR_lit rfl) hs2)
theorem bX11_book_13 {g : AG} {ad : Nat → Nat} {d : Nat} {Q : AO → SG → Prop} {rc rs : Nat} {σ : SG} {x1 x2 : Int}  (hx1 : iR x1) (hx2 : iR x2) (hS : SR σ) (H : (((sc σ 102 12) ≤ x2 → Cl g ad d mX11_isRight 0 0 [(.ref (ad 102))] σ (Ki fun r1 s1 => ((r1 = 0 → (iR 0 → SR s1 → Q (.inl (some (vi 0))) s1)) ∧ (¬ r1 = 0 → (iR x1 → SR s1 → Q (.inl (some (vi x1))) s1))))) ∧ (¬ (sc σ 102 12) ≤ x2 → ((¬ (sc σ 102 9) = ((-1)) → Cl g ad d mX11_isRight 0 0 [(.ref (ad 102))] σ (Ki fun r2 s2 => ((r2 = 0 → (iR 0 → SR s2 → Q (.inl (some (vi 0))) s2)) ∧ (¬ r2 = 0 → (iR x1 → SR s2 → Q (.inl (some (vi x1))) s2))))) ∧ ((sc σ 102 9) = ((-1)) → Cl g ad d mX11_alike 0 0 [(.ref (ad 102)), (.ref (ad 107)), (vi (10 * x2)), (vi ((-1)))] σ (Ki fun r3 s3 => ((r3 = ((-1)) → ((¬ (ia s3 103 1) = 30 → (0 ≤ (10 * x2) + 8 ∧ (10 * x2) + 8 < 120) ∧ Cl g ad d mX11_comes 0 0 [(.ref (ad 102)), (vi (10 * x2)), (vi (ia s3 107 ((10 * x2) + 8)))] s3 (Kv fun s5 => iR (x1 + 1) ∧ iR (x2 + 1) ∧ (iR (x1 + 1) → iR (x2 + 1) → SR s5 → Wb g ad d mX11_book Q 13 [some (.ref (ad 102)), some (vi (x1 + 1)), some (vi (x2 + 1)), none] [] s5 rc rs))) ∧ ((ia s3 103 1) = 30 → (0 ≤ x2 ∧ x2 < 12) ∧ Cl g ad d mX11_wrong 0 0 [(.ref (ad 102)), (vi (ia s3 108 x2))] s3 (Kv fun s9 => iR (x2 + 1) ∧ (iR x1 → iR (x2 + 1) → SR s9 → Wb g ad d mX11_book Q 13 [some (.ref (ad 102)), some (vi x1), some (vi (x2 + 1)), none] [] s9 rc rs))))) ∧ (¬ r3 = ((-1)) → (0 ≤ (10 * x2) + 8 ∧ (10 * x2) + 8 < 120) ∧ (0 ≤ (369 + (10 * r3)) + 8 ∧ (369 + (10 * r3)) + 8 < 855) ∧ iR (x2 + 1) ∧ (iR x1 → iR (x2 + 1) → SR (setI s3 103 ((369 + (10 * r3)) + 8) (ia s3 107 ((10 * x2) + 8))) → Wb g ad d mX11_book Q 13 [some (.ref (ad 102)), some (vi x1), some (vi (x2 + 1)), none] [] (setI s3 103 ((369 + (10 * r3)) + 8) (ia s3 107 ((10 * x2) + 8))) rc rs))))))))) : Wb g ad d mX11_book Q 13 [some (.ref (ad 102)), some (vi x1), some (vi x2), none] [] σ rc rs := by
  refine sb_iload_n (pc' := 14) rfl rfl dX11_book_13 ?_
  refine sb_aload_n (pc' := 15) rfl rfl dX11_book_14 ?_
  refine sb_getI (pc' := 18) rfl fi_102_12 wd_1562 dX11_book_15 ?_
  refine sb_icmp_ge (pc' := 21) (tgt := 132) rfl (by decide) hx2 (SR_sc hS _ _) dX11_book_18 ?_ ?_
  · intro cc; have H := H.1 cc
    refine sb_aload_n (pc' := 133) rfl rfl dX11_book_132 ?_
    obtain ⟨d1, hd1, H⟩ := H
    refine sb_callV (pc' := 136) rfl rfl (rc := rc) (rs := rs) (mc' := 0) (ms' := 0) (As := []) (st := []) of_102 rfl rfl (Nat.le_of_ble_eq_true rfl) hd1 kX11_isRight ⟨wd_1790, wd_1792, wd_114⟩ dX11_book_133 (Eb.mono H ?_)
    rintro o s1 ⟨r1, rfl, hr1, hs1, H⟩
    show Wb g ad d mX11_book Q 136 [some (.ref (ad 102)), some (vi x1), some (vi x2), none] [(vi r1)] s1 rc rs
    refine sb_if_eq (pc' := 139) (tgt := 143) rfl (by decide) hr1 dX11_book_136 ?_ ?_
    · intro cc; have H := H.1 cc
      refine sb_iconst (pc' := 144) rfl dX11_book_143 ?_
      exact sb_iret rfl rfl dX11_book_144 (H (iR_lit rfl) hs1)
    · intro cc; have H := H.2 cc
      refine sb_iload_n (pc' := 140) rfl rfl dX11_book_139 ?_
      refine sb_goto (tgt := 144) (by decide) dX11_book_140 ?_
      exact sb_iret rfl rfl dX11_book_144 (H hx1 hs1)
  · intro cc; have H := H.2 cc
    refine sb_aload_n (pc' := 22) rfl rfl dX11_book_21 ?_
    refine sb_getI (pc' := 25) rfl fi_102_9 wd_1559 dX11_book_22 ?_
    refine sb_iconst (pc' := 26) rfl dX11_book_25 ?_
    refine sb_icmp_ne (pc' := 29) (tgt := 132) rfl (by decide) (SR_sc hS _ _) (iR_lit rfl) dX11_book_26 ?_ ?_
    · intro cc; have H := H.1 cc
      refine sb_aload_n (pc' := 133) rfl rfl dX11_book_132 ?_
      obtain ⟨d2, hd2, H⟩ := H
      refine sb_callV (pc' := 136) rfl rfl (rc := rc) (rs := rs) (mc' := 0) (ms' := 0) (As := []) (st := []) of_102 rfl rfl (Nat.le_of_ble_eq_true rfl) hd2 kX11_isRight ⟨wd_1790, wd_1792, wd_114⟩ dX11_book_133 (Eb.mono H ?_)
      rintro o s2 ⟨r2, rfl, hr2, hs2, H⟩
      show Wb g ad d mX11_book Q 136 [some (.ref (ad 102)), some (vi x1), some (vi x2), none] [(vi r2)] s2 rc rs
      refine sb_if_eq (pc' := 139) (tgt := 143) rfl (by decide) hr2 dX11_book_136 ?_ ?_
      · intro cc; have H := H.1 cc
        refine sb_iconst (pc' := 144) rfl dX11_book_143 ?_
        exact sb_iret rfl rfl dX11_book_144 (H (iR_lit rfl) hs2)
      · intro cc; have H := H.2 cc
        refine sb_iload_n (pc' := 140) rfl rfl dX11_book_139 ?_
        refine sb_goto (tgt := 144) (by decide) dX11_book_140 ?_
        exact sb_iret rfl rfl dX11_book_144 (H hx1 hs2)
    · intro cc; have H := H.2 cc
      refine sb_aload_n (pc' := 30) rfl rfl dX11_book_29 ?_
      refine sb_aload_n (pc' := 31) rfl rfl dX11_book_30 ?_
      refine sb_getC (pc' := 34) rfl fc_102_10 wd_1560 dX11_book_31 ?_
      refine sb_bipush (pc' := 36) rfl (z := 10) (by decide) dX11_book_34 ?_
      refine sb_iload_n (pc' := 37) rfl rfl dX11_book_36 ?_
      refine sb_imul (pc' := 38) rfl dX11_book_37 ?_
      refine sb_iconst (pc' := 39) rfl dX11_book_38 ?_
      obtain ⟨d3, hd3, H⟩ := H
      refine sb_callV (pc' := 42) rfl rfl (rc := rc) (rs := rs) (mc' := 0) (ms' := 0) (As := [(.ref (ad 107)), (vi (10 * x2)), (vi ((-1)))]) (st := []) of_102 rfl rfl (Nat.le_of_ble_eq_true rfl) hd3 kX11_alike ⟨wd_1778, wd_1780, wd_111⟩ dX11_book_39 (Eb.mono H ?_)
      rintro o s3 ⟨r3, rfl, hr3, hs3, H⟩
      show Wb g ad d mX11_book Q 42 [some (.ref (ad 102)), some (vi x1), some (vi x2), none] [(vi r3)] s3 rc rs
      refine sb_istore_n (pc' := 43) rfl (L' := [some (.ref (ad 102)), some (vi x1), some (vi x2), some (vi r3)]) rfl (by decide) dX11_book_42 ?_
      refine sb_iload_n (pc' := 44) rfl rfl dX11_book_43 ?_
      refine sb_iconst (pc' := 45) rfl dX11_book_44 ?_
      refine sb_icmp_eq (pc' := 48) (tgt := 79) rfl (by decide) hr3 (iR_lit rfl) dX11_book_45 ?_ ?_
      · intro cc; have H := H.1 cc
        refine sb_aload_n (pc' := 80) rfl rfl dX11_book_79 ?_
        refine sb_getC (pc' := 83) rfl fc_102_1 wd_1551 dX11_book_80 ?_
        refine sb_iconst (pc' := 84) rfl dX11_book_83 ?_
        refine sb_iald (pc' := 85) rfl aI_103 (by decide) (by decide) dX11_book_84 ?_
        refine sb_bipush (pc' := 87) rfl (z := 30) (by decide) dX11_book_85 ?_
        refine sb_icmp_ne (pc' := 90) (tgt := 103) rfl (by decide) (SR_ia hs3 _ _) (iR_lit rfl) dX11_book_87 ?_ ?_
        · intro cc; have H := H.1 cc
          refine sb_aload_n (pc' := 104) rfl rfl dX11_book_103 ?_
          refine sb_bipush (pc' := 106) rfl (z := 10) (by decide) dX11_book_104 ?_
          refine sb_iload_n (pc' := 107) rfl rfl dX11_book_106 ?_
          refine sb_imul (pc' := 108) rfl dX11_book_107 ?_
          refine sb_aload_n (pc' := 109) rfl rfl dX11_book_108 ?_
          refine sb_getC (pc' := 112) rfl fc_102_10 wd_1560 dX11_book_109 ?_
          refine sb_bipush (pc' := 114) rfl (z := 10) (by decide) dX11_book_112 ?_
          refine sb_iload_n (pc' := 115) rfl rfl dX11_book_114 ?_
          refine sb_imul (pc' := 116) rfl dX11_book_115 ?_
          refine sb_bipush (pc' := 118) rfl (z := 8) (by decide) dX11_book_116 ?_
          refine sb_iadd (pc' := 119) rfl dX11_book_118 ?_
          obtain ⟨o4, H⟩ := H
          refine sb_iald (pc' := 120) rfl aI_107 o4.1 o4.2 dX11_book_119 ?_
          obtain ⟨d5, hd5, H⟩ := H
          refine sb_callV (pc' := 123) rfl rfl (rc := rc) (rs := rs) (mc' := 0) (ms' := 0) (As := [(vi (10 * x2)), (vi (ia s3 107 ((10 * x2) + 8)))]) (st := []) of_102 rfl rfl (Nat.le_of_ble_eq_true rfl) hd5 kX11_comes ⟨wd_1786, wd_1788, wd_113⟩ dX11_book_120 (Eb.mono H ?_)
          rintro o s5 ⟨rfl, hs5, H⟩
          show Wb g ad d mX11_book Q 123 [some (.ref (ad 102)), some (vi x1), some (vi x2), some (vi r3)] [] s5 rc rs
          refine sb_iinc (pc' := 126) rfl rfl (L' := [some (.ref (ad 102)), some (vi (x1 + 1)), some (vi x2), some (vi r3)]) rfl (by decide) dX11_book_123 ?_
          refine sb_iinc (pc' := 129) rfl rfl (L' := [some (.ref (ad 102)), some (vi (x1 + 1)), some (vi (x2 + 1)), some (vi r3)]) rfl (by decide) dX11_book_126 ?_
          refine sb_goto (tgt := 13) (by decide) dX11_book_129 ?_
          obtain ⟨o6, H⟩ := H
          obtain ⟨o7, H⟩ := H
          refine Wb.forget [true, true, true, false] ?_
          exact (H o6 o7 hs5)
        · intro cc; have H := H.2 cc
          refine sb_aload_n (pc' := 91) rfl rfl dX11_book_90 ?_
          refine sb_aload_n (pc' := 92) rfl rfl dX11_book_91 ?_
          refine sb_getC (pc' := 95) rfl fc_102_11 wd_1561 dX11_book_92 ?_
          refine sb_iload_n (pc' := 96) rfl rfl dX11_book_95 ?_
          obtain ⟨o8, H⟩ := H
          refine sb_iald (pc' := 97) rfl aI_108 o8.1 o8.2 dX11_book_96 ?_
          obtain ⟨d9, hd9, H⟩ := H
          refine sb_callV (pc' := 100) rfl rfl (rc := rc) (rs := rs) (mc' := 0) (ms' := 0) (As := [(vi (ia s3 108 x2))]) (st := []) of_102 rfl rfl (Nat.le_of_ble_eq_true rfl) hd9 kX11_wrong ⟨wd_1738, wd_1740, wd_101⟩ dX11_book_97 (Eb.mono H ?_)
          rintro o s9 ⟨rfl, hs9, H⟩
          show Wb g ad d mX11_book Q 100 [some (.ref (ad 102)), some (vi x1), some (vi x2), some (vi r3)] [] s9 rc rs
          refine sb_goto (tgt := 126) (by decide) dX11_book_100 ?_
          refine sb_iinc (pc' := 129) rfl rfl (L' := [some (.ref (ad 102)), some (vi x1), some (vi (x2 + 1)), some (vi r3)]) rfl (by decide) dX11_book_126 ?_
          refine sb_goto (tgt := 13) (by decide) dX11_book_129 ?_
          obtain ⟨o10, H⟩ := H
          refine Wb.forget [true, true, true, false] ?_
          exact (H hx1 o10 hs9)
      · intro cc; have H := H.2 cc
        refine sb_aload_n (pc' := 49) rfl rfl dX11_book_48 ?_
        refine sb_getC (pc' := 52) rfl fc_102_1 wd_1551 dX11_book_49 ?_
        refine sb_sipush (pc' := 55) rfl (z := 369) (by decide) dX11_book_52 ?_
        refine sb_bipush (pc' := 57) rfl (z := 10) (by decide) dX11_book_55 ?_
        refine sb_iload_n (pc' := 58) rfl rfl dX11_book_57 ?_
        refine sb_imul (pc' := 59) rfl dX11_book_58 ?_
        refine sb_iadd (pc' := 60) rfl dX11_book_59 ?_
        refine sb_bipush (pc' := 62) rfl (z := 8) (by decide) dX11_book_60 ?_
        refine sb_iadd (pc' := 63) rfl dX11_book_62 ?_
        refine sb_aload_n (pc' := 64) rfl rfl dX11_book_63 ?_
        refine sb_getC (pc' := 67) rfl fc_102_10 wd_1560 dX11_book_64 ?_
        refine sb_bipush (pc' := 69) rfl (z := 10) (by decide) dX11_book_67 ?_
        refine sb_iload_n (pc' := 70) rfl rfl dX11_book_69 ?_
        refine sb_imul (pc' := 71) rfl dX11_book_70 ?_
        refine sb_bipush (pc' := 73) rfl (z := 8) (by decide) dX11_book_71 ?_
        refine sb_iadd (pc' := 74) rfl dX11_book_73 ?_
        obtain ⟨o11, H⟩ := H
        refine sb_iald (pc' := 75) rfl aI_107 o11.1 o11.2 dX11_book_74 ?_
        obtain ⟨o12, H⟩ := H
        refine sb_iast (pc' := 76) rfl aI_103 o12.1 o12.2  dX11_book_75 ?_
        refine sb_goto (tgt := 126) (by decide) dX11_book_76 ?_
        refine sb_iinc (pc' := 129) rfl rfl (L' := [some (.ref (ad 102)), some (vi x1), some (vi (x2 + 1)), some (vi r3)]) rfl (by decide) dX11_book_126 ?_
        refine sb_goto (tgt := 13) (by decide) dX11_book_129 ?_
        obtain ⟨o13, H⟩ := H
        refine Wb.forget [true, true, true, false] ?_
        exact (H hx1 o13 (SR_setI hs3 (SR_ia hs3 _ _)))
theorem bX11_pairOf_0 {g : AG} {ad : Nat → Nat} {d : Nat} {Q : AO → SG → Prop} {rc rs : Nat} {σ : SG} {x1 x2 : Int}  (hx1 : iR x1) (hx2 : iR x2) (hS : SR σ) (H : (iR x1 → iR x2 → iR 0 → SR σ → Wb g ad d mX11_pairOf Q 2 [some (.ref (ad 102)), some (vi x1), some (vi x2), some (vi 0)] [] σ rc rs)) : Wb g ad d mX11_pairOf Q 0 [some (.ref (ad 102)), some (vi x1), some (vi x2), none] [] σ rc rs := by
  refine sb_iconst (pc' := 1) rfl dX11_pairOf_0 ?_
  refine sb_istore_n (pc' := 2) rfl (L' := [some (.ref (ad 102)), some (vi x1), some (vi x2), some (vi 0)]) rfl (by decide) dX11_pairOf_1 ?_
  exact (H hx1 hx2 (iR_lit rfl) hS)
theorem bX11_pairOf_2 {g : AG} {ad : Nat → Nat} {d : Nat} {Q : AO → SG → Prop} {rc rs : Nat} {σ : SG} {x1 x2 x3 : Int}  (hx1 : iR x1) (hx2 : iR x2) (hx3 : iR x3) (hS : SR σ) (H : (((ia σ 103 2) ≤ x3 → (iR ((-1)) → SR σ → Q (.inl (some (vi ((-1))))) σ)) ∧ (¬ (ia σ 103 2) ≤ x3 → (0 ≤ 669 + (3 * x3) ∧ 669 + (3 * x3) < 855) ∧ ((¬ (ia σ 103 (669 + (3 * x3))) = x1 → iR (x3 + 1) ∧ (iR x1 → iR x2 → iR (x3 + 1) → SR σ → Wb g ad d mX11_pairOf Q 2 [some (.ref (ad 102)), some (vi x1), some (vi x2), some (vi (x3 + 1))] [] σ rc rs)) ∧ ((ia σ 103 (669 + (3 * x3))) = x1 → (0 ≤ (669 + (3 * x3)) + 1 ∧ (669 + (3 * x3)) + 1 < 855) ∧ ((¬ (ia σ 103 ((669 + (3 * x3)) + 1)) = x2 → iR (x3 + 1) ∧ (iR x1 → iR x2 → iR (x3 + 1) → SR σ → Wb g ad d mX11_pairOf Q 2 [some (.ref (ad 102)), some (vi x1), some (vi x2), some (vi (x3 + 1))] [] σ rc rs)) ∧ ((ia σ 103 ((669 + (3 * x3)) + 1)) = x2 → (iR x3 → SR σ → Q (.inl (some (vi x3))) σ)))))))) : Wb g ad d mX11_pairOf Q 2 [some (.ref (ad 102)), some (vi x1), some (vi x2), some (vi x3)] [] σ rc rs := by
  refine sb_iload_n (pc' := 3) rfl rfl dX11_pairOf_2 ?_
  refine sb_aload_n (pc' := 4) rfl rfl dX11_pairOf_3 ?_
  refine sb_getC (pc' := 7) rfl fc_102_1 wd_1551 dX11_pairOf_4 ?_
  refine sb_iconst (pc' := 8) rfl dX11_pairOf_7 ?_
  refine sb_iald (pc' := 9) rfl aI_103 (by decide) (by decide) dX11_pairOf_8 ?_
  refine sb_icmp_ge (pc' := 12) (tgt := 54) rfl (by decide) hx3 (SR_ia hS _ _) dX11_pairOf_9 ?_ ?_
  · intro cc; have H := H.1 cc
    refine sb_iconst (pc' := 55) rfl dX11_pairOf_54 ?_
    exact sb_iret rfl rfl dX11_pairOf_55 (H (iR_lit rfl) hS)
  · intro cc; have H := H.2 cc
    refine sb_aload_n (pc' := 13) rfl rfl dX11_pairOf_12 ?_
    refine sb_getC (pc' := 16) rfl fc_102_1 wd_1551 dX11_pairOf_13 ?_
    refine sb_sipush (pc' := 19) rfl (z := 669) (by decide) dX11_pairOf_16 ?_
    refine sb_iconst (pc' := 20) rfl dX11_pairOf_19 ?_
    refine sb_iload_n (pc' := 21) rfl rfl dX11_pairOf_20 ?_
    refine sb_imul (pc' := 22) rfl dX11_pairOf_21 ?_
    refine sb_iadd (pc' := 23) rfl dX11_pairOf_22 ?_
    obtain ⟨o1, H⟩ := H
    refine sb_iald (pc' := 24) rfl aI_103 o1.1 o1.2 dX11_pairOf_23 ?_
    refine sb_iload_n (pc' := 25) rfl rfl dX11_pairOf_24 ?_
    refine sb_icmp_ne (pc' := 28) (tgt := 48) rfl (by decide) (SR_ia hS _ _) hx1 dX11_pairOf_25 ?_ ?_
    · intro cc; have H := H.1 cc
      refine sb_iinc (pc' := 51) rfl rfl (L' := [some (.ref (ad 102)), some (vi x1), some (vi x2), some (vi (x3 + 1))]) rfl (by decide) dX11_pairOf_48 ?_
      refine sb_goto (tgt := 2) (by decide) dX11_pairOf_51 ?_
      obtain ⟨o2, H⟩ := H
      exact (H hx1 hx2 o2 hS)
    · intro cc; have H := H.2 cc
      refine sb_aload_n (pc' := 29) rfl rfl dX11_pairOf_28 ?_
      refine sb_getC (pc' := 32) rfl fc_102_1 wd_1551 dX11_pairOf_29 ?_
      refine sb_sipush (pc' := 35) rfl (z := 669) (by decide) dX11_pairOf_32 ?_
      refine sb_iconst (pc' := 36) rfl dX11_pairOf_35 ?_
      refine sb_iload_n (pc' := 37) rfl rfl dX11_pairOf_36 ?_
      refine sb_imul (pc' := 38) rfl dX11_pairOf_37 ?_
      refine sb_iadd (pc' := 39) rfl dX11_pairOf_38 ?_
      refine sb_iconst (pc' := 40) rfl dX11_pairOf_39 ?_
      refine sb_iadd (pc' := 41) rfl dX11_pairOf_40 ?_
      obtain ⟨o3, H⟩ := H
      refine sb_iald (pc' := 42) rfl aI_103 o3.1 o3.2 dX11_pairOf_41 ?_
      refine sb_iload_n (pc' := 43) rfl rfl dX11_pairOf_42 ?_
      refine sb_icmp_ne (pc' := 46) (tgt := 48) rfl (by decide) (SR_ia hS _ _) hx2 dX11_pairOf_43 ?_ ?_
      · intro cc; have H := H.1 cc
        refine sb_iinc (pc' := 51) rfl rfl (L' := [some (.ref (ad 102)), some (vi x1), some (vi x2), some (vi (x3 + 1))]) rfl (by decide) dX11_pairOf_48 ?_
        refine sb_goto (tgt := 2) (by decide) dX11_pairOf_51 ?_
        obtain ⟨o4, H⟩ := H
        exact (H hx1 hx2 o4 hS)
      · intro cc; have H := H.2 cc
        refine sb_iload_n (pc' := 47) rfl rfl dX11_pairOf_46 ?_
        exact sb_iret rfl rfl dX11_pairOf_47 (H hx3 hS)
theorem bX11_fluency_0 {g : AG} {ad : Nat → Nat} {d : Nat} {Q : AO → SG → Prop} {rc rs : Nat} {σ : SG}    (hS : SR σ) (H : Cl g ad d mX11_begins 0 0 [(.ref (ad 102))] σ (Kv fun s1 => Cl g ad d mX11_reads 0 0 [(.ref (ad 102)), (vi 0)] s1 (Kv fun s2 => (iR 0 → SR s2 → Wb g ad d mX11_fluency Q 11 [some (.ref (ad 102)), some (vi 0), none, none, none] [] s2 rc rs)))) : Wb g ad d mX11_fluency Q 0 [some (.ref (ad 102)), none, none, none, none] [] σ rc rs := by
  refine sb_aload_n (pc' := 1) rfl rfl dX11_fluency_0 ?_
  obtain ⟨d1, hd1, H⟩ := H
  refine sb_callV (pc' := 4) rfl rfl (rc := rc) (rs := rs) (mc' := 0) (ms' := 0) (As := []) (st := []) of_102 rfl rfl (Nat.le_of_ble_eq_true rfl) hd1 kX11_begins ⟨wd_1726, wd_1728, wd_98⟩ dX11_fluency_1 (Eb.mono H ?_)
  rintro o s1 ⟨rfl, hs1, H⟩
  show Wb g ad d mX11_fluency Q 4 [some (.ref (ad 102)), none, none, none, none] [] s1 rc rs
  refine sb_aload_n (pc' := 5) rfl rfl dX11_fluency_4 ?_
  refine sb_iconst (pc' := 6) rfl dX11_fluency_5 ?_
  obtain ⟨d2, hd2, H⟩ := H
  refine sb_callV (pc' := 9) rfl rfl (rc := rc) (rs := rs) (mc' := 0) (ms' := 0) (As := [(vi 0)]) (st := []) of_102 rfl rfl (Nat.le_of_ble_eq_true rfl) hd2 kX11_reads ⟨wd_1730, wd_1732, wd_99⟩ dX11_fluency_6 (Eb.mono H ?_)
  rintro o s2 ⟨rfl, hs2, H⟩
  show Wb g ad d mX11_fluency Q 9 [some (.ref (ad 102)), none, none, none, none] [] s2 rc rs
  refine sb_iconst (pc' := 10) rfl dX11_fluency_9 ?_
  refine sb_istore_n (pc' := 11) rfl (L' := [some (.ref (ad 102)), some (vi 0), none, none, none]) rfl (by decide) dX11_fluency_10 ?_
  exact (H (iR_lit rfl) hs2)
theorem bX11_fluency_11 {g : AG} {ad : Nat → Nat} {d : Nat} {Q : AO → SG → Prop} {rc rs : Nat} {σ : SG} {x1 : Int}  (hx1 : iR x1) (hS : SR σ) (H : (((sc σ 102 12) ≤ x1 → Cl g ad d mX11_isRight 0 0 [(.ref (ad 102))] σ (Ki fun r1 s1 => ((r1 = 0 → (iR 0 → SR s1 → Q (.inl (some (vi 0))) s1)) ∧ (¬ r1 = 0 → (iR (ia s1 103 2) → SR s1 → Q (.inl (some (vi (ia s1 103 2)))) s1))))) ∧ (¬ (sc σ 102 12) ≤ x1 → ((¬ (sc σ 102 9) = ((-1)) → Cl g ad d mX11_isRight 0 0 [(.ref (ad 102))] σ (Ki fun r2 s2 => ((r2 = 0 → (iR 0 → SR s2 → Q (.inl (some (vi 0))) s2)) ∧ (¬ r2 = 0 → (iR (ia s2 103 2) → SR s2 → Q (.inl (some (vi (ia s2 103 2)))) s2))))) ∧ ((sc σ 102 9) = ((-1)) → (0 ≤ 10 * x1 ∧ 10 * x1 < 120) ∧ (0 ≤ (10 * x1) + 1 ∧ (10 * x1) + 1 < 120) ∧ Cl g ad d mX11_pairOf 0 0 [(.ref (ad 102)), (vi (ia σ 107 (10 * x1))), (vi (ia σ 107 ((10 * x1) + 1)))] σ (Ki fun r5 s5 => ((¬ r5 = ((-1)) → ((¬ r5 = ((-1)) → iR (669 + (3 * r5)) ∧ (iR x1 → iR r5 → iR (669 + (3 * r5)) → iR 0 → SR s5 → Wb g ad d mX11_fluency Q 106 [some (.ref (ad 102)), some (vi x1), some (vi r5), some (vi (669 + (3 * r5))), some (vi 0)] [] s5 rc rs)) ∧ (r5 = ((-1)) → iR (669 + (3 * (ia s5 103 2))) ∧ (iR x1 → iR r5 → iR (669 + (3 * (ia s5 103 2))) → iR 0 → SR s5 → Wb g ad d mX11_fluency Q 106 [some (.ref (ad 102)), some (vi x1), some (vi r5), some (vi (669 + (3 * (ia s5 103 2)))), some (vi 0)] [] s5 rc rs)))) ∧ (r5 = ((-1)) → ((¬ (ia s5 103 2) = 60 → ((¬ r5 = ((-1)) → iR (669 + (3 * r5)) ∧ (iR x1 → iR r5 → iR (669 + (3 * r5)) → iR 0 → SR s5 → Wb g ad d mX11_fluency Q 106 [some (.ref (ad 102)), some (vi x1), some (vi r5), some (vi (669 + (3 * r5))), some (vi 0)] [] s5 rc rs)) ∧ (r5 = ((-1)) → iR (669 + (3 * (ia s5 103 2))) ∧ (iR x1 → iR r5 → iR (669 + (3 * (ia s5 103 2))) → iR 0 → SR s5 → Wb g ad d mX11_fluency Q 106 [some (.ref (ad 102)), some (vi x1), some (vi r5), some (vi (669 + (3 * (ia s5 103 2)))), some (vi 0)] [] s5 rc rs)))) ∧ ((ia s5 103 2) = 60 → (0 ≤ x1 ∧ x1 < 12) ∧ Cl g ad d mX11_wrong 0 0 [(.ref (ad 102)), (vi (ia s5 108 x1))] s5 (Kv fun s11 => iR (x1 + 1) ∧ (iR (x1 + 1) → SR s11 → Wb g ad d mX11_fluency Q 11 [some (.ref (ad 102)), some (vi (x1 + 1)), none, none, none] [] s11 rc rs)))))))))))) : Wb g ad d mX11_fluency Q 11 [some (.ref (ad 102)), some (vi x1), none, none, none] [] σ rc rs := by
  refine sb_iload_n (pc' := 12) rfl rfl dX11_fluency_11 ?_
  refine sb_aload_n (pc' := 13) rfl rfl dX11_fluency_12 ?_
  refine sb_getI (pc' := 16) rfl fi_102_12 wd_1562 dX11_fluency_13 ?_
  refine sb_icmp_ge (pc' := 19) (tgt := 164) rfl (by decide) hx1 (SR_sc hS _ _) dX11_fluency_16 ?_ ?_
  · intro cc; have H := H.1 cc
    refine sb_aload_n (pc' := 165) rfl rfl dX11_fluency_164 ?_
    obtain ⟨d1, hd1, H⟩ := H
    refine sb_callV (pc' := 168) rfl rfl (rc := rc) (rs := rs) (mc' := 0) (ms' := 0) (As := []) (st := []) of_102 rfl rfl (Nat.le_of_ble_eq_true rfl) hd1 kX11_isRight ⟨wd_1790, wd_1792, wd_114⟩ dX11_fluency_165 (Eb.mono H ?_)
    rintro o s1 ⟨r1, rfl, hr1, hs1, H⟩
    show Wb g ad d mX11_fluency Q 168 [some (.ref (ad 102)), some (vi x1), none, none, none] [(vi r1)] s1 rc rs
    refine sb_if_eq (pc' := 171) (tgt := 180) rfl (by decide) hr1 dX11_fluency_168 ?_ ?_
    · intro cc; have H := H.1 cc
      refine sb_iconst (pc' := 181) rfl dX11_fluency_180 ?_
      exact sb_iret rfl rfl dX11_fluency_181 (H (iR_lit rfl) hs1)
    · intro cc; have H := H.2 cc
      refine sb_aload_n (pc' := 172) rfl rfl dX11_fluency_171 ?_
      refine sb_getC (pc' := 175) rfl fc_102_1 wd_1551 dX11_fluency_172 ?_
      refine sb_iconst (pc' := 176) rfl dX11_fluency_175 ?_
      refine sb_iald (pc' := 177) rfl aI_103 (by decide) (by decide) dX11_fluency_176 ?_
      refine sb_goto (tgt := 181) (by decide) dX11_fluency_177 ?_
      exact sb_iret rfl rfl dX11_fluency_181 (H (SR_ia hs1 _ _) hs1)
  · intro cc; have H := H.2 cc
    refine sb_aload_n (pc' := 20) rfl rfl dX11_fluency_19 ?_
    refine sb_getI (pc' := 23) rfl fi_102_9 wd_1559 dX11_fluency_20 ?_
    refine sb_iconst (pc' := 24) rfl dX11_fluency_23 ?_
    refine sb_icmp_ne (pc' := 27) (tgt := 164) rfl (by decide) (SR_sc hS _ _) (iR_lit rfl) dX11_fluency_24 ?_ ?_
    · intro cc; have H := H.1 cc
      refine sb_aload_n (pc' := 165) rfl rfl dX11_fluency_164 ?_
      obtain ⟨d2, hd2, H⟩ := H
      refine sb_callV (pc' := 168) rfl rfl (rc := rc) (rs := rs) (mc' := 0) (ms' := 0) (As := []) (st := []) of_102 rfl rfl (Nat.le_of_ble_eq_true rfl) hd2 kX11_isRight ⟨wd_1790, wd_1792, wd_114⟩ dX11_fluency_165 (Eb.mono H ?_)
      rintro o s2 ⟨r2, rfl, hr2, hs2, H⟩
      show Wb g ad d mX11_fluency Q 168 [some (.ref (ad 102)), some (vi x1), none, none, none] [(vi r2)] s2 rc rs
      refine sb_if_eq (pc' := 171) (tgt := 180) rfl (by decide) hr2 dX11_fluency_168 ?_ ?_
      · intro cc; have H := H.1 cc
        refine sb_iconst (pc' := 181) rfl dX11_fluency_180 ?_
        exact sb_iret rfl rfl dX11_fluency_181 (H (iR_lit rfl) hs2)
      · intro cc; have H := H.2 cc
        refine sb_aload_n (pc' := 172) rfl rfl dX11_fluency_171 ?_
        refine sb_getC (pc' := 175) rfl fc_102_1 wd_1551 dX11_fluency_172 ?_
        refine sb_iconst (pc' := 176) rfl dX11_fluency_175 ?_
        refine sb_iald (pc' := 177) rfl aI_103 (by decide) (by decide) dX11_fluency_176 ?_
        refine sb_goto (tgt := 181) (by decide) dX11_fluency_177 ?_
        exact sb_iret rfl rfl dX11_fluency_181 (H (SR_ia hs2 _ _) hs2)
    · intro cc; have H := H.2 cc
      refine sb_aload_n (pc' := 28) rfl rfl dX11_fluency_27 ?_
      refine sb_aload_n (pc' := 29) rfl rfl dX11_fluency_28 ?_
      refine sb_getC (pc' := 32) rfl fc_102_10 wd_1560 dX11_fluency_29 ?_
      refine sb_bipush (pc' := 34) rfl (z := 10) (by decide) dX11_fluency_32 ?_
      refine sb_iload_n (pc' := 35) rfl rfl dX11_fluency_34 ?_
      refine sb_imul (pc' := 36) rfl dX11_fluency_35 ?_
      obtain ⟨o3, H⟩ := H
      refine sb_iald (pc' := 37) rfl aI_107 o3.1 o3.2 dX11_fluency_36 ?_
      refine sb_aload_n (pc' := 38) rfl rfl dX11_fluency_37 ?_
      refine sb_getC (pc' := 41) rfl fc_102_10 wd_1560 dX11_fluency_38 ?_
      refine sb_bipush (pc' := 43) rfl (z := 10) (by decide) dX11_fluency_41 ?_
      refine sb_iload_n (pc' := 44) rfl rfl dX11_fluency_43 ?_
      refine sb_imul (pc' := 45) rfl dX11_fluency_44 ?_
      refine sb_iconst (pc' := 46) rfl dX11_fluency_45 ?_
      refine sb_iadd (pc' := 47) rfl dX11_fluency_46 ?_
      obtain ⟨o4, H⟩ := H
      refine sb_iald (pc' := 48) rfl aI_107 o4.1 o4.2 dX11_fluency_47 ?_
      obtain ⟨d5, hd5, H⟩ := H
      refine sb_callV (pc' := 51) rfl rfl (rc := rc) (rs := rs) (mc' := 0) (ms' := 0) (As := [(vi (ia σ 107 (10 * x1))), (vi (ia σ 107 ((10 * x1) + 1)))]) (st := []) of_102 rfl rfl (Nat.le_of_ble_eq_true rfl) hd5 kX11_pairOf ⟨wd_1798, wd_1800, wd_115⟩ dX11_fluency_48 (Eb.mono H ?_)
      rintro o s5 ⟨r5, rfl, hr5, hs5, H⟩
      show Wb g ad d mX11_fluency Q 51 [some (.ref (ad 102)), some (vi x1), none, none, none] [(vi r5)] s5 rc rs
      refine sb_istore_n (pc' := 52) rfl (L' := [some (.ref (ad 102)), some (vi x1), some (vi r5), none, none]) rfl (by decide) dX11_fluency_51 ?_
      refine sb_iload_n (pc' := 53) rfl rfl dX11_fluency_52 ?_
      refine sb_iconst (pc' := 54) rfl dX11_fluency_53 ?_
      refine sb_icmp_ne (pc' := 57) (tgt := 81) rfl (by decide) hr5 (iR_lit rfl) dX11_fluency_54 ?_ ?_
      · intro cc; have H := H.1 cc
        refine sb_sipush (pc' := 84) rfl (z := 669) (by decide) dX11_fluency_81 ?_
        refine sb_iconst (pc' := 85) rfl dX11_fluency_84 ?_
        refine sb_iload_n (pc' := 86) rfl rfl dX11_fluency_85 ?_
        refine sb_iconst (pc' := 87) rfl dX11_fluency_86 ?_
        refine sb_icmp_ne (pc' := 90) (tgt := 99) rfl (by decide) hr5 (iR_lit rfl) dX11_fluency_87 ?_ ?_
        · intro cc; have H := H.1 cc
          refine sb_iload_n (pc' := 100) rfl rfl dX11_fluency_99 ?_
          refine sb_imul (pc' := 101) rfl dX11_fluency_100 ?_
          refine sb_iadd (pc' := 102) rfl dX11_fluency_101 ?_
          refine sb_istore_n (pc' := 103) rfl (L' := [some (.ref (ad 102)), some (vi x1), some (vi r5), some (vi (669 + (3 * r5))), none]) rfl (by decide) dX11_fluency_102 ?_
          refine sb_iconst (pc' := 104) rfl dX11_fluency_103 ?_
          refine sb_istore (pc' := 106) rfl (L' := [some (.ref (ad 102)), some (vi x1), some (vi r5), some (vi (669 + (3 * r5))), some (vi 0)]) rfl (by decide) dX11_fluency_104 ?_
          obtain ⟨o6, H⟩ := H
          exact (H hx1 hr5 o6 (iR_lit rfl) hs5)
        · intro cc; have H := H.2 cc
          refine sb_aload_n (pc' := 91) rfl rfl dX11_fluency_90 ?_
          refine sb_getC (pc' := 94) rfl fc_102_1 wd_1551 dX11_fluency_91 ?_
          refine sb_iconst (pc' := 95) rfl dX11_fluency_94 ?_
          refine sb_iald (pc' := 96) rfl aI_103 (by decide) (by decide) dX11_fluency_95 ?_
          refine sb_goto (tgt := 100) (by decide) dX11_fluency_96 ?_
          refine sb_imul (pc' := 101) rfl dX11_fluency_100 ?_
          refine sb_iadd (pc' := 102) rfl dX11_fluency_101 ?_
          refine sb_istore_n (pc' := 103) rfl (L' := [some (.ref (ad 102)), some (vi x1), some (vi r5), some (vi (669 + (3 * (ia s5 103 2)))), none]) rfl (by decide) dX11_fluency_102 ?_
          refine sb_iconst (pc' := 104) rfl dX11_fluency_103 ?_
          refine sb_istore (pc' := 106) rfl (L' := [some (.ref (ad 102)), some (vi x1), some (vi r5), some (vi (669 + (3 * (ia s5 103 2)))), some (vi 0)]) rfl (by decide) dX11_fluency_104 ?_
          obtain ⟨o7, H⟩ := H
          exact (H hx1 hr5 o7 (iR_lit rfl) hs5)
      · intro cc; have H := H.2 cc
        refine sb_aload_n (pc' := 58) rfl rfl dX11_fluency_57 ?_
        refine sb_getC (pc' := 61) rfl fc_102_1 wd_1551 dX11_fluency_58 ?_
        refine sb_iconst (pc' := 62) rfl dX11_fluency_61 ?_
        refine sb_iald (pc' := 63) rfl aI_103 (by decide) (by decide) dX11_fluency_62 ?_
        refine sb_bipush (pc' := 65) rfl (z := 60) (by decide) dX11_fluency_63 ?_
        refine sb_icmp_ne (pc' := 68) (tgt := 81) rfl (by decide) (SR_ia hs5 _ _) (iR_lit rfl) dX11_fluency_65 ?_ ?_
        · intro cc; have H := H.1 cc
          refine sb_sipush (pc' := 84) rfl (z := 669) (by decide) dX11_fluency_81 ?_
          refine sb_iconst (pc' := 85) rfl dX11_fluency_84 ?_
          refine sb_iload_n (pc' := 86) rfl rfl dX11_fluency_85 ?_
          refine sb_iconst (pc' := 87) rfl dX11_fluency_86 ?_
          refine sb_icmp_ne (pc' := 90) (tgt := 99) rfl (by decide) hr5 (iR_lit rfl) dX11_fluency_87 ?_ ?_
          · intro cc; have H := H.1 cc
            refine sb_iload_n (pc' := 100) rfl rfl dX11_fluency_99 ?_
            refine sb_imul (pc' := 101) rfl dX11_fluency_100 ?_
            refine sb_iadd (pc' := 102) rfl dX11_fluency_101 ?_
            refine sb_istore_n (pc' := 103) rfl (L' := [some (.ref (ad 102)), some (vi x1), some (vi r5), some (vi (669 + (3 * r5))), none]) rfl (by decide) dX11_fluency_102 ?_
            refine sb_iconst (pc' := 104) rfl dX11_fluency_103 ?_
            refine sb_istore (pc' := 106) rfl (L' := [some (.ref (ad 102)), some (vi x1), some (vi r5), some (vi (669 + (3 * r5))), some (vi 0)]) rfl (by decide) dX11_fluency_104 ?_
            obtain ⟨o8, H⟩ := H
            exact (H hx1 hr5 o8 (iR_lit rfl) hs5)
          · intro cc; have H := H.2 cc
            refine sb_aload_n (pc' := 91) rfl rfl dX11_fluency_90 ?_
            refine sb_getC (pc' := 94) rfl fc_102_1 wd_1551 dX11_fluency_91 ?_
            refine sb_iconst (pc' := 95) rfl dX11_fluency_94 ?_
            refine sb_iald (pc' := 96) rfl aI_103 (by decide) (by decide) dX11_fluency_95 ?_
            refine sb_goto (tgt := 100) (by decide) dX11_fluency_96 ?_
            refine sb_imul (pc' := 101) rfl dX11_fluency_100 ?_
            refine sb_iadd (pc' := 102) rfl dX11_fluency_101 ?_
            refine sb_istore_n (pc' := 103) rfl (L' := [some (.ref (ad 102)), some (vi x1), some (vi r5), some (vi (669 + (3 * (ia s5 103 2)))), none]) rfl (by decide) dX11_fluency_102 ?_
            refine sb_iconst (pc' := 104) rfl dX11_fluency_103 ?_
            refine sb_istore (pc' := 106) rfl (L' := [some (.ref (ad 102)), some (vi x1), some (vi r5), some (vi (669 + (3 * (ia s5 103 2)))), some (vi 0)]) rfl (by decide) dX11_fluency_104 ?_
            obtain ⟨o9, H⟩ := H
            exact (H hx1 hr5 o9 (iR_lit rfl) hs5)
        · intro cc; have H := H.2 cc
          refine sb_aload_n (pc' := 69) rfl rfl dX11_fluency_68 ?_
          refine sb_aload_n (pc' := 70) rfl rfl dX11_fluency_69 ?_
          refine sb_getC (pc' := 73) rfl fc_102_11 wd_1561 dX11_fluency_70 ?_
          refine sb_iload_n (pc' := 74) rfl rfl dX11_fluency_73 ?_
          obtain ⟨o10, H⟩ := H
          refine sb_iald (pc' := 75) rfl aI_108 o10.1 o10.2 dX11_fluency_74 ?_
          obtain ⟨d11, hd11, H⟩ := H
          refine sb_callV (pc' := 78) rfl rfl (rc := rc) (rs := rs) (mc' := 0) (ms' := 0) (As := [(vi (ia s5 108 x1))]) (st := []) of_102 rfl rfl (Nat.le_of_ble_eq_true rfl) hd11 kX11_wrong ⟨wd_1738, wd_1740, wd_101⟩ dX11_fluency_75 (Eb.mono H ?_)
          rintro o s11 ⟨rfl, hs11, H⟩
          show Wb g ad d mX11_fluency Q 78 [some (.ref (ad 102)), some (vi x1), some (vi r5), none, none] [] s11 rc rs
          refine sb_goto (tgt := 158) (by decide) dX11_fluency_78 ?_
          refine sb_iinc (pc' := 161) rfl rfl (L' := [some (.ref (ad 102)), some (vi (x1 + 1)), some (vi r5), none, none]) rfl (by decide) dX11_fluency_158 ?_
          refine sb_goto (tgt := 11) (by decide) dX11_fluency_161 ?_
          obtain ⟨o12, H⟩ := H
          refine Wb.forget [true, true, false, false, false] ?_
          exact (H o12 hs11)
theorem bX11_fluency_106 {g : AG} {ad : Nat → Nat} {d : Nat} {Q : AO → SG → Prop} {rc rs : Nat} {σ : SG} {x1 x2 x3 x4 : Int}  (hx1 : iR x1) (hx2 : iR x2) (hx3 : iR x3) (hx4 : iR x4) (hS : SR σ) (H : ((3 ≤ x4 → ((¬ x2 = ((-1)) → iR ((ia σ 103 2) + 0) ∧ iR (x1 + 1) ∧ (iR (x1 + 1) → SR (setI σ 103 2 ((ia σ 103 2) + 0)) → Wb g ad d mX11_fluency Q 11 [some (.ref (ad 102)), some (vi (x1 + 1)), none, none, none] [] (setI σ 103 2 ((ia σ 103 2) + 0)) rc rs)) ∧ (x2 = ((-1)) → iR ((ia σ 103 2) + 1) ∧ iR (x1 + 1) ∧ (iR (x1 + 1) → SR (setI σ 103 2 ((ia σ 103 2) + 1)) → Wb g ad d mX11_fluency Q 11 [some (.ref (ad 102)), some (vi (x1 + 1)), none, none, none] [] (setI σ 103 2 ((ia σ 103 2) + 1)) rc rs)))) ∧ (¬ 3 ≤ x4 → (0 ≤ (10 * x1) + x4 ∧ (10 * x1) + x4 < 120) ∧ (0 ≤ x3 + x4 ∧ x3 + x4 < 855) ∧ iR (x4 + 1) ∧ (iR x1 → iR x2 → iR x3 → iR (x4 + 1) → SR (setI σ 103 (x3 + x4) (ia σ 107 ((10 * x1) + x4))) → Wb g ad d mX11_fluency Q 106 [some (.ref (ad 102)), some (vi x1), some (vi x2), some (vi x3), some (vi (x4 + 1))] [] (setI σ 103 (x3 + x4) (ia σ 107 ((10 * x1) + x4))) rc rs)))) : Wb g ad d mX11_fluency Q 106 [some (.ref (ad 102)), some (vi x1), some (vi x2), some (vi x3), some (vi x4)] [] σ rc rs := by
  refine sb_iload (pc' := 108) rfl rfl dX11_fluency_106 ?_
  refine sb_iconst (pc' := 109) rfl dX11_fluency_108 ?_
  refine sb_icmp_ge (pc' := 112) (tgt := 139) rfl (by decide) hx4 (iR_lit rfl) dX11_fluency_109 ?_ ?_
  · intro cc; have H := H.1 cc
    refine sb_aload_n (pc' := 140) rfl rfl dX11_fluency_139 ?_
    refine sb_getC (pc' := 143) rfl fc_102_1 wd_1551 dX11_fluency_140 ?_
    refine sb_iconst (pc' := 144) rfl dX11_fluency_143 ?_
    refine sb_dup2 (pc' := 145) rfl rfl rfl dX11_fluency_144 ?_
    refine sb_iald (pc' := 146) rfl aI_103 (by decide) (by decide) dX11_fluency_145 ?_
    refine sb_iload_n (pc' := 147) rfl rfl dX11_fluency_146 ?_
    refine sb_iconst (pc' := 148) rfl dX11_fluency_147 ?_
    refine sb_icmp_ne (pc' := 151) (tgt := 155) rfl (by decide) hx2 (iR_lit rfl) dX11_fluency_148 ?_ ?_
    · intro cc; have H := H.1 cc
      refine sb_iconst (pc' := 156) rfl dX11_fluency_155 ?_
      refine sb_iadd (pc' := 157) rfl dX11_fluency_156 ?_
      obtain ⟨o1, H⟩ := H
      refine sb_iast (pc' := 158) rfl aI_103 (by decide) (by decide)  dX11_fluency_157 ?_
      refine sb_iinc (pc' := 161) rfl rfl (L' := [some (.ref (ad 102)), some (vi (x1 + 1)), some (vi x2), some (vi x3), some (vi x4)]) rfl (by decide) dX11_fluency_158 ?_
      refine sb_goto (tgt := 11) (by decide) dX11_fluency_161 ?_
      obtain ⟨o2, H⟩ := H
      refine Wb.forget [true, true, false, false, false] ?_
      exact (H o2 (SR_setI hS o1))
    · intro cc; have H := H.2 cc
      refine sb_iconst (pc' := 152) rfl dX11_fluency_151 ?_
      refine sb_goto (tgt := 156) (by decide) dX11_fluency_152 ?_
      refine sb_iadd (pc' := 157) rfl dX11_fluency_156 ?_
      obtain ⟨o3, H⟩ := H
      refine sb_iast (pc' := 158) rfl aI_103 (by decide) (by decide)  dX11_fluency_157 ?_
      refine sb_iinc (pc' := 161) rfl rfl (L' := [some (.ref (ad 102)), some (vi (x1 + 1)), some (vi x2), some (vi x3), some (vi x4)]) rfl (by decide) dX11_fluency_158 ?_
      refine sb_goto (tgt := 11) (by decide) dX11_fluency_161 ?_
      obtain ⟨o4, H⟩ := H
      refine Wb.forget [true, true, false, false, false] ?_
      exact (H o4 (SR_setI hS o3))
  · intro cc; have H := H.2 cc
    refine sb_aload_n (pc' := 113) rfl rfl dX11_fluency_112 ?_
    refine sb_getC (pc' := 116) rfl fc_102_1 wd_1551 dX11_fluency_113 ?_
    refine sb_iload_n (pc' := 117) rfl rfl dX11_fluency_116 ?_
    refine sb_iload (pc' := 119) rfl rfl dX11_fluency_117 ?_
    refine sb_iadd (pc' := 120) rfl dX11_fluency_119 ?_
    refine sb_aload_n (pc' := 121) rfl rfl dX11_fluency_120 ?_
    refine sb_getC (pc' := 124) rfl fc_102_10 wd_1560 dX11_fluency_121 ?_
    refine sb_bipush (pc' := 126) rfl (z := 10) (by decide) dX11_fluency_124 ?_
    refine sb_iload_n (pc' := 127) rfl rfl dX11_fluency_126 ?_
    refine sb_imul (pc' := 128) rfl dX11_fluency_127 ?_
    refine sb_iload (pc' := 130) rfl rfl dX11_fluency_128 ?_
    refine sb_iadd (pc' := 131) rfl dX11_fluency_130 ?_
    obtain ⟨o5, H⟩ := H
    refine sb_iald (pc' := 132) rfl aI_107 o5.1 o5.2 dX11_fluency_131 ?_
    obtain ⟨o6, H⟩ := H
    refine sb_iast (pc' := 133) rfl aI_103 o6.1 o6.2  dX11_fluency_132 ?_
    refine sb_iinc (pc' := 136) rfl rfl (L' := [some (.ref (ad 102)), some (vi x1), some (vi x2), some (vi x3), some (vi (x4 + 1))]) rfl (by decide) dX11_fluency_133 ?_
    refine sb_goto (tgt := 106) (by decide) dX11_fluency_136 ?_
    obtain ⟨o7, H⟩ := H
    exact (H hx1 hx2 hx3 o7 (SR_setI hS (SR_ia hS _ _)))
theorem bX11_sentence_0 {g : AG} {ad : Nat → Nat} {d : Nat} {Q : AO → SG → Prop} {rc rs : Nat} {σ : SG}    (hS : SR σ) (H : Cl g ad d mX11_begins 0 0 [(.ref (ad 102))] σ (Kv fun s1 => Cl g ad d mX11_wordsInto 0 0 [(.ref (ad 102)), (.ref (ad 109)), (vi 0), (vi 6), (vi 1)] s1 (Ki fun r2 s2 => ((¬ (sc s2 102 9) = ((-1)) → Cl g ad d mX11_isRight 0 0 [(.ref (ad 102))] s2 (Ki fun r3 s3 => ((¬ r3 = 0 → (iR r2 → iR 0 → SR (setI s3 103 3 r2) → Wb g ad d mX11_sentence Q 62 [some (.ref (ad 102)), some (vi r2), some (vi 0)] [] (setI s3 103 3 r2) rc rs)) ∧ (r3 = 0 → (iR 0 → SR s3 → Q (.inl (some (vi 0))) s3))))) ∧ ((sc s2 102 9) = ((-1)) → Cl g ad d mX11_here 0 0 [(.ref (ad 102))] s2 (Ki fun r4 s4 => (((sc s4 102 7) ≤ r4 → Cl g ad d mX11_isRight 0 0 [(.ref (ad 102))] s4 (Ki fun r5 s5 => ((¬ r5 = 0 → (iR r2 → iR 0 → SR (setI s5 103 3 r2) → Wb g ad d mX11_sentence Q 62 [some (.ref (ad 102)), some (vi r2), some (vi 0)] [] (setI s5 103 3 r2) rc rs)) ∧ (r5 = 0 → (iR 0 → SR s5 → Q (.inl (some (vi 0))) s5))))) ∧ (¬ (sc s4 102 7) ≤ r4 → Cl g ad d mX11_wrong 0 0 [(.ref (ad 102)), (vi (sc s4 102 8))] s4 (Kv fun s6 => Cl g ad d mX11_isRight 0 0 [(.ref (ad 102))] s6 (Ki fun r7 s7 => ((¬ r7 = 0 → (iR r2 → iR 0 → SR (setI s7 103 3 r2) → Wb g ad d mX11_sentence Q 62 [some (.ref (ad 102)), some (vi r2), some (vi 0)] [] (setI s7 103 3 r2) rc rs)) ∧ (r7 = 0 → (iR 0 → SR s7 → Q (.inl (some (vi 0))) s7))))))))))))) : Wb g ad d mX11_sentence Q 0 [some (.ref (ad 102)), none, none] [] σ rc rs := by
  refine sb_aload_n (pc' := 1) rfl rfl dX11_sentence_0 ?_
  obtain ⟨d1, hd1, H⟩ := H
  refine sb_callV (pc' := 4) rfl rfl (rc := rc) (rs := rs) (mc' := 0) (ms' := 0) (As := []) (st := []) of_102 rfl rfl (Nat.le_of_ble_eq_true rfl) hd1 kX11_begins ⟨wd_1726, wd_1728, wd_98⟩ dX11_sentence_1 (Eb.mono H ?_)
  rintro o s1 ⟨rfl, hs1, H⟩
  show Wb g ad d mX11_sentence Q 4 [some (.ref (ad 102)), none, none] [] s1 rc rs
  refine sb_aload_n (pc' := 5) rfl rfl dX11_sentence_4 ?_
  refine sb_aload_n (pc' := 6) rfl rfl dX11_sentence_5 ?_
  refine sb_getC (pc' := 9) rfl fc_102_13 wd_1563 dX11_sentence_6 ?_
  refine sb_iconst (pc' := 10) rfl dX11_sentence_9 ?_
  refine sb_bipush (pc' := 12) rfl (z := 6) (by decide) dX11_sentence_10 ?_
  refine sb_iconst (pc' := 13) rfl dX11_sentence_12 ?_
  obtain ⟨d2, hd2, H⟩ := H
  refine sb_callV (pc' := 16) rfl rfl (rc := rc) (rs := rs) (mc' := 0) (ms' := 0) (As := [(.ref (ad 109)), (vi 0), (vi 6), (vi 1)]) (st := []) of_102 rfl rfl (Nat.le_of_ble_eq_true rfl) hd2 kX11_wordsInto ⟨wd_1746, wd_1748, wd_103⟩ dX11_sentence_13 (Eb.mono H ?_)
  rintro o s2 ⟨r2, rfl, hr2, hs2, H⟩
  show Wb g ad d mX11_sentence Q 16 [some (.ref (ad 102)), none, none] [(vi r2)] s2 rc rs
  refine sb_istore_n (pc' := 17) rfl (L' := [some (.ref (ad 102)), some (vi r2), none]) rfl (by decide) dX11_sentence_16 ?_
  refine sb_aload_n (pc' := 18) rfl rfl dX11_sentence_17 ?_
  refine sb_getI (pc' := 21) rfl fi_102_9 wd_1559 dX11_sentence_18 ?_
  refine sb_iconst (pc' := 22) rfl dX11_sentence_21 ?_
  refine sb_icmp_ne (pc' := 25) (tgt := 44) rfl (by decide) (SR_sc hs2 _ _) (iR_lit rfl) dX11_sentence_22 ?_ ?_
  · intro cc; have H := H.1 cc
    refine sb_aload_n (pc' := 45) rfl rfl dX11_sentence_44 ?_
    obtain ⟨d3, hd3, H⟩ := H
    refine sb_callV (pc' := 48) rfl rfl (rc := rc) (rs := rs) (mc' := 0) (ms' := 0) (As := []) (st := []) of_102 rfl rfl (Nat.le_of_ble_eq_true rfl) hd3 kX11_isRight ⟨wd_1790, wd_1792, wd_114⟩ dX11_sentence_45 (Eb.mono H ?_)
    rintro o s3 ⟨r3, rfl, hr3, hs3, H⟩
    show Wb g ad d mX11_sentence Q 48 [some (.ref (ad 102)), some (vi r2), none] [(vi r3)] s3 rc rs
    refine sb_if_ne (pc' := 51) (tgt := 53) rfl (by decide) hr3 dX11_sentence_48 ?_ ?_
    · intro cc; have H := H.1 cc
      refine sb_aload_n (pc' := 54) rfl rfl dX11_sentence_53 ?_
      refine sb_getC (pc' := 57) rfl fc_102_1 wd_1551 dX11_sentence_54 ?_
      refine sb_iconst (pc' := 58) rfl dX11_sentence_57 ?_
      refine sb_iload_n (pc' := 59) rfl rfl dX11_sentence_58 ?_
      refine sb_iast (pc' := 60) rfl aI_103 (by decide) (by decide)  dX11_sentence_59 ?_
      refine sb_iconst (pc' := 61) rfl dX11_sentence_60 ?_
      refine sb_istore_n (pc' := 62) rfl (L' := [some (.ref (ad 102)), some (vi r2), some (vi 0)]) rfl (by decide) dX11_sentence_61 ?_
      exact (H hr2 (iR_lit rfl) (SR_setI hs3 hr2))
    · intro cc; have H := H.2 cc
      refine sb_iconst (pc' := 52) rfl dX11_sentence_51 ?_
      exact sb_iret rfl rfl dX11_sentence_52 (H (iR_lit rfl) hs3)
  · intro cc; have H := H.2 cc
    refine sb_aload_n (pc' := 26) rfl rfl dX11_sentence_25 ?_
    obtain ⟨d4, hd4, H⟩ := H
    refine sb_callV (pc' := 29) rfl rfl (rc := rc) (rs := rs) (mc' := 0) (ms' := 0) (As := []) (st := []) of_102 rfl rfl (Nat.le_of_ble_eq_true rfl) hd4 kX11_here ⟨wd_1734, wd_1736, wd_100⟩ dX11_sentence_26 (Eb.mono H ?_)
    rintro o s4 ⟨r4, rfl, hr4, hs4, H⟩
    show Wb g ad d mX11_sentence Q 29 [some (.ref (ad 102)), some (vi r2), none] [(vi r4)] s4 rc rs
    refine sb_aload_n (pc' := 30) rfl rfl dX11_sentence_29 ?_
    refine sb_getI (pc' := 33) rfl fi_102_7 wd_1557 dX11_sentence_30 ?_
    refine sb_icmp_ge (pc' := 36) (tgt := 44) rfl (by decide) hr4 (SR_sc hs4 _ _) dX11_sentence_33 ?_ ?_
    · intro cc; have H := H.1 cc
      refine sb_aload_n (pc' := 45) rfl rfl dX11_sentence_44 ?_
      obtain ⟨d5, hd5, H⟩ := H
      refine sb_callV (pc' := 48) rfl rfl (rc := rc) (rs := rs) (mc' := 0) (ms' := 0) (As := []) (st := []) of_102 rfl rfl (Nat.le_of_ble_eq_true rfl) hd5 kX11_isRight ⟨wd_1790, wd_1792, wd_114⟩ dX11_sentence_45 (Eb.mono H ?_)
      rintro o s5 ⟨r5, rfl, hr5, hs5, H⟩
      show Wb g ad d mX11_sentence Q 48 [some (.ref (ad 102)), some (vi r2), none] [(vi r5)] s5 rc rs
      refine sb_if_ne (pc' := 51) (tgt := 53) rfl (by decide) hr5 dX11_sentence_48 ?_ ?_
      · intro cc; have H := H.1 cc
        refine sb_aload_n (pc' := 54) rfl rfl dX11_sentence_53 ?_
        refine sb_getC (pc' := 57) rfl fc_102_1 wd_1551 dX11_sentence_54 ?_
        refine sb_iconst (pc' := 58) rfl dX11_sentence_57 ?_
        refine sb_iload_n (pc' := 59) rfl rfl dX11_sentence_58 ?_
        refine sb_iast (pc' := 60) rfl aI_103 (by decide) (by decide)  dX11_sentence_59 ?_
        refine sb_iconst (pc' := 61) rfl dX11_sentence_60 ?_
        refine sb_istore_n (pc' := 62) rfl (L' := [some (.ref (ad 102)), some (vi r2), some (vi 0)]) rfl (by decide) dX11_sentence_61 ?_
        exact (H hr2 (iR_lit rfl) (SR_setI hs5 hr2))
      · intro cc; have H := H.2 cc
        refine sb_iconst (pc' := 52) rfl dX11_sentence_51 ?_
        exact sb_iret rfl rfl dX11_sentence_52 (H (iR_lit rfl) hs5)
    · intro cc; have H := H.2 cc
      refine sb_aload_n (pc' := 37) rfl rfl dX11_sentence_36 ?_
      refine sb_aload_n (pc' := 38) rfl rfl dX11_sentence_37 ?_
      refine sb_getI (pc' := 41) rfl fi_102_8 wd_1558 dX11_sentence_38 ?_
      obtain ⟨d6, hd6, H⟩ := H
      refine sb_callV (pc' := 44) rfl rfl (rc := rc) (rs := rs) (mc' := 0) (ms' := 0) (As := [(vi (sc s4 102 8))]) (st := []) of_102 rfl rfl (Nat.le_of_ble_eq_true rfl) hd6 kX11_wrong ⟨wd_1738, wd_1740, wd_101⟩ dX11_sentence_41 (Eb.mono H ?_)
      rintro o s6 ⟨rfl, hs6, H⟩
      show Wb g ad d mX11_sentence Q 44 [some (.ref (ad 102)), some (vi r2), none] [] s6 rc rs
      refine sb_aload_n (pc' := 45) rfl rfl dX11_sentence_44 ?_
      obtain ⟨d7, hd7, H⟩ := H
      refine sb_callV (pc' := 48) rfl rfl (rc := rc) (rs := rs) (mc' := 0) (ms' := 0) (As := []) (st := []) of_102 rfl rfl (Nat.le_of_ble_eq_true rfl) hd7 kX11_isRight ⟨wd_1790, wd_1792, wd_114⟩ dX11_sentence_45 (Eb.mono H ?_)
      rintro o s7 ⟨r7, rfl, hr7, hs7, H⟩
      show Wb g ad d mX11_sentence Q 48 [some (.ref (ad 102)), some (vi r2), none] [(vi r7)] s7 rc rs
      refine sb_if_ne (pc' := 51) (tgt := 53) rfl (by decide) hr7 dX11_sentence_48 ?_ ?_
      · intro cc; have H := H.1 cc
        refine sb_aload_n (pc' := 54) rfl rfl dX11_sentence_53 ?_
        refine sb_getC (pc' := 57) rfl fc_102_1 wd_1551 dX11_sentence_54 ?_
        refine sb_iconst (pc' := 58) rfl dX11_sentence_57 ?_
        refine sb_iload_n (pc' := 59) rfl rfl dX11_sentence_58 ?_
        refine sb_iast (pc' := 60) rfl aI_103 (by decide) (by decide)  dX11_sentence_59 ?_
        refine sb_iconst (pc' := 61) rfl dX11_sentence_60 ?_
        refine sb_istore_n (pc' := 62) rfl (L' := [some (.ref (ad 102)), some (vi r2), some (vi 0)]) rfl (by decide) dX11_sentence_61 ?_
        exact (H hr2 (iR_lit rfl) (SR_setI hs7 hr2))
      · intro cc; have H := H.2 cc
        refine sb_iconst (pc' := 52) rfl dX11_sentence_51 ?_
        exact sb_iret rfl rfl dX11_sentence_52 (H (iR_lit rfl) hs7)
theorem bX11_sentence_62 {g : AG} {ad : Nat → Nat} {d : Nat} {Q : AO → SG → Prop} {rc rs : Nat} {σ : SG} {x1 x2 : Int}  (hx1 : iR x1) (hx2 : iR x2) (hS : SR σ) (H : ((6 ≤ x2 → (iR x1 → SR σ → Q (.inl (some (vi x1))) σ)) ∧ (¬ 6 ≤ x2 → ((x1 ≤ x2 → (0 ≤ 849 + x2 ∧ 849 + x2 < 855) ∧ iR (x2 + 1) ∧ (iR x1 → iR (x2 + 1) → SR (setI σ 103 (849 + x2) 0) → Wb g ad d mX11_sentence Q 62 [some (.ref (ad 102)), some (vi x1), some (vi (x2 + 1))] [] (setI σ 103 (849 + x2) 0) rc rs)) ∧ (¬ x1 ≤ x2 → (0 ≤ x2 ∧ x2 < 18) ∧ (0 ≤ 849 + x2 ∧ 849 + x2 < 855) ∧ iR (x2 + 1) ∧ (iR x1 → iR (x2 + 1) → SR (setI σ 103 (849 + x2) (ia σ 109 x2)) → Wb g ad d mX11_sentence Q 62 [some (.ref (ad 102)), some (vi x1), some (vi (x2 + 1))] [] (setI σ 103 (849 + x2) (ia σ 109 x2)) rc rs)))))) : Wb g ad d mX11_sentence Q 62 [some (.ref (ad 102)), some (vi x1), some (vi x2)] [] σ rc rs := by
  refine sb_iload_n (pc' := 63) rfl rfl dX11_sentence_62 ?_
  refine sb_bipush (pc' := 65) rfl (z := 6) (by decide) dX11_sentence_63 ?_
  refine sb_icmp_ge (pc' := 68) (tgt := 99) rfl (by decide) hx2 (iR_lit rfl) dX11_sentence_65 ?_ ?_
  · intro cc; have H := H.1 cc
    refine sb_iload_n (pc' := 100) rfl rfl dX11_sentence_99 ?_
    exact sb_iret rfl rfl dX11_sentence_100 (H hx1 hS)
  · intro cc; have H := H.2 cc
    refine sb_aload_n (pc' := 69) rfl rfl dX11_sentence_68 ?_
    refine sb_getC (pc' := 72) rfl fc_102_1 wd_1551 dX11_sentence_69 ?_
    refine sb_sipush (pc' := 75) rfl (z := 849) (by decide) dX11_sentence_72 ?_
    refine sb_iload_n (pc' := 76) rfl rfl dX11_sentence_75 ?_
    refine sb_iadd (pc' := 77) rfl dX11_sentence_76 ?_
    refine sb_iload_n (pc' := 78) rfl rfl dX11_sentence_77 ?_
    refine sb_iload_n (pc' := 79) rfl rfl dX11_sentence_78 ?_
    refine sb_icmp_ge (pc' := 82) (tgt := 91) rfl (by decide) hx2 hx1 dX11_sentence_79 ?_ ?_
    · intro cc; have H := H.1 cc
      refine sb_iconst (pc' := 92) rfl dX11_sentence_91 ?_
      obtain ⟨o1, H⟩ := H
      refine sb_iast (pc' := 93) rfl aI_103 o1.1 o1.2  dX11_sentence_92 ?_
      refine sb_iinc (pc' := 96) rfl rfl (L' := [some (.ref (ad 102)), some (vi x1), some (vi (x2 + 1))]) rfl (by decide) dX11_sentence_93 ?_
      refine sb_goto (tgt := 62) (by decide) dX11_sentence_96 ?_
      obtain ⟨o2, H⟩ := H
      exact (H hx1 o2 (SR_setI hS (iR_lit rfl)))
    · intro cc; have H := H.2 cc
      refine sb_aload_n (pc' := 83) rfl rfl dX11_sentence_82 ?_
      refine sb_getC (pc' := 86) rfl fc_102_13 wd_1563 dX11_sentence_83 ?_
      refine sb_iload_n (pc' := 87) rfl rfl dX11_sentence_86 ?_
      obtain ⟨o3, H⟩ := H
      refine sb_iald (pc' := 88) rfl aI_109 o3.1 o3.2 dX11_sentence_87 ?_
      refine sb_goto (tgt := 92) (by decide) dX11_sentence_88 ?_
      obtain ⟨o4, H⟩ := H
      refine sb_iast (pc' := 93) rfl aI_103 o4.1 o4.2  dX11_sentence_92 ?_
      refine sb_iinc (pc' := 96) rfl rfl (L' := [some (.ref (ad 102)), some (vi x1), some (vi (x2 + 1))]) rfl (by decide) dX11_sentence_93 ?_
      refine sb_goto (tgt := 62) (by decide) dX11_sentence_96 ?_
      obtain ⟨o5, H⟩ := H
      exact (H hx1 o5 (SR_setI hS (SR_ia hS _ _)))
theorem bX11_link_0 {g : AG} {ad : Nat → Nat} {d : Nat} {Q : AO → SG → Prop} {rc rs : Nat} {σ : SG}    (hS : SR σ) (H : Cl g ad d mX11_here 0 0 [(.ref (ad 102))] σ (Ki fun r1 s1 => ((¬ (sc s1 102 18) = 12 → Cl g ad d mX11_number 0 0 [(.ref (ad 102)), (vi ((sc s1 102 15) - 1))] s1 (Ki fun r2 s2 => Cl g ad d mX11_number 0 0 [(.ref (ad 102)), (vi (((sc s2 102 14) - (sc s2 102 15)) - 1))] s2 (Ki fun r3 s3 => (iR r1 → iR r2 → iR r3 → iR 0 → SR s3 → Wb g ad d mX11_link Q 49 [some (.ref (ad 102)), some (vi r1), some (vi r2), some (vi r3), some (vi 0)] [] s3 rc rs)))) ∧ ((sc s1 102 18) = 12 → Cl g ad d mX11_wrong 0 0 [(.ref (ad 102)), (vi r1)] s1 (Kv fun s4 => Cl g ad d mX11_number 0 0 [(.ref (ad 102)), (vi ((sc s4 102 15) - 1))] s4 (Ki fun r5 s5 => Cl g ad d mX11_number 0 0 [(.ref (ad 102)), (vi (((sc s5 102 14) - (sc s5 102 15)) - 1))] s5 (Ki fun r6 s6 => (iR r1 → iR r5 → iR r6 → iR 0 → SR s6 → Wb g ad d mX11_link Q 49 [some (.ref (ad 102)), some (vi r1), some (vi r5), some (vi r6), some (vi 0)] [] s6 rc rs)))))))) : Wb g ad d mX11_link Q 0 [some (.ref (ad 102)), none, none, none, none] [] σ rc rs := by
  refine sb_aload_n (pc' := 1) rfl rfl dX11_link_0 ?_
  obtain ⟨d1, hd1, H⟩ := H
  refine sb_callV (pc' := 4) rfl rfl (rc := rc) (rs := rs) (mc' := 0) (ms' := 0) (As := []) (st := []) of_102 rfl rfl (Nat.le_of_ble_eq_true rfl) hd1 kX11_here ⟨wd_1734, wd_1736, wd_100⟩ dX11_link_1 (Eb.mono H ?_)
  rintro o s1 ⟨r1, rfl, hr1, hs1, H⟩
  show Wb g ad d mX11_link Q 4 [some (.ref (ad 102)), none, none, none, none] [(vi r1)] s1 rc rs
  refine sb_istore_n (pc' := 5) rfl (L' := [some (.ref (ad 102)), some (vi r1), none, none, none]) rfl (by decide) dX11_link_4 ?_
  refine sb_aload_n (pc' := 6) rfl rfl dX11_link_5 ?_
  refine sb_getI (pc' := 9) rfl fi_102_18 wd_1568 dX11_link_6 ?_
  refine sb_bipush (pc' := 11) rfl (z := 12) (by decide) dX11_link_9 ?_
  refine sb_icmp_ne (pc' := 14) (tgt := 19) rfl (by decide) (SR_sc hs1 _ _) (iR_lit rfl) dX11_link_11 ?_ ?_
  · intro cc; have H := H.1 cc
    refine sb_aload_n (pc' := 20) rfl rfl dX11_link_19 ?_
    refine sb_aload_n (pc' := 21) rfl rfl dX11_link_20 ?_
    refine sb_getI (pc' := 24) rfl fi_102_15 wd_1565 dX11_link_21 ?_
    refine sb_iconst (pc' := 25) rfl dX11_link_24 ?_
    refine sb_isub (pc' := 26) rfl dX11_link_25 ?_
    obtain ⟨d2, hd2, H⟩ := H
    refine sb_callV (pc' := 29) rfl rfl (rc := rc) (rs := rs) (mc' := 0) (ms' := 0) (As := [(vi ((sc s1 102 15) - 1))]) (st := []) of_102 rfl rfl (Nat.le_of_ble_eq_true rfl) hd2 kX11_number ⟨wd_1770, wd_1772, wd_109⟩ dX11_link_26 (Eb.mono H ?_)
    rintro o s2 ⟨r2, rfl, hr2, hs2, H⟩
    show Wb g ad d mX11_link Q 29 [some (.ref (ad 102)), some (vi r1), none, none, none] [(vi r2)] s2 rc rs
    refine sb_istore_n (pc' := 30) rfl (L' := [some (.ref (ad 102)), some (vi r1), some (vi r2), none, none]) rfl (by decide) dX11_link_29 ?_
    refine sb_aload_n (pc' := 31) rfl rfl dX11_link_30 ?_
    refine sb_aload_n (pc' := 32) rfl rfl dX11_link_31 ?_
    refine sb_getI (pc' := 35) rfl fi_102_14 wd_1564 dX11_link_32 ?_
    refine sb_aload_n (pc' := 36) rfl rfl dX11_link_35 ?_
    refine sb_getI (pc' := 39) rfl fi_102_15 wd_1565 dX11_link_36 ?_
    refine sb_isub (pc' := 40) rfl dX11_link_39 ?_
    refine sb_iconst (pc' := 41) rfl dX11_link_40 ?_
    refine sb_isub (pc' := 42) rfl dX11_link_41 ?_
    obtain ⟨d3, hd3, H⟩ := H
    refine sb_callV (pc' := 45) rfl rfl (rc := rc) (rs := rs) (mc' := 0) (ms' := 0) (As := [(vi (((sc s2 102 14) - (sc s2 102 15)) - 1))]) (st := []) of_102 rfl rfl (Nat.le_of_ble_eq_true rfl) hd3 kX11_number ⟨wd_1770, wd_1772, wd_109⟩ dX11_link_42 (Eb.mono H ?_)
    rintro o s3 ⟨r3, rfl, hr3, hs3, H⟩
    show Wb g ad d mX11_link Q 45 [some (.ref (ad 102)), some (vi r1), some (vi r2), none, none] [(vi r3)] s3 rc rs
    refine sb_istore_n (pc' := 46) rfl (L' := [some (.ref (ad 102)), some (vi r1), some (vi r2), some (vi r3), none]) rfl (by decide) dX11_link_45 ?_
    refine sb_iconst (pc' := 47) rfl dX11_link_46 ?_
    refine sb_istore (pc' := 49) rfl (L' := [some (.ref (ad 102)), some (vi r1), some (vi r2), some (vi r3), some (vi 0)]) rfl (by decide) dX11_link_47 ?_
    exact (H hr1 hr2 hr3 (iR_lit rfl) hs3)
  · intro cc; have H := H.2 cc
    refine sb_aload_n (pc' := 15) rfl rfl dX11_link_14 ?_
    refine sb_iload_n (pc' := 16) rfl rfl dX11_link_15 ?_
    obtain ⟨d4, hd4, H⟩ := H
    refine sb_callV (pc' := 19) rfl rfl (rc := rc) (rs := rs) (mc' := 0) (ms' := 0) (As := [(vi r1)]) (st := []) of_102 rfl rfl (Nat.le_of_ble_eq_true rfl) hd4 kX11_wrong ⟨wd_1738, wd_1740, wd_101⟩ dX11_link_16 (Eb.mono H ?_)
    rintro o s4 ⟨rfl, hs4, H⟩
    show Wb g ad d mX11_link Q 19 [some (.ref (ad 102)), some (vi r1), none, none, none] [] s4 rc rs
    refine sb_aload_n (pc' := 20) rfl rfl dX11_link_19 ?_
    refine sb_aload_n (pc' := 21) rfl rfl dX11_link_20 ?_
    refine sb_getI (pc' := 24) rfl fi_102_15 wd_1565 dX11_link_21 ?_
    refine sb_iconst (pc' := 25) rfl dX11_link_24 ?_
    refine sb_isub (pc' := 26) rfl dX11_link_25 ?_
    obtain ⟨d5, hd5, H⟩ := H
    refine sb_callV (pc' := 29) rfl rfl (rc := rc) (rs := rs) (mc' := 0) (ms' := 0) (As := [(vi ((sc s4 102 15) - 1))]) (st := []) of_102 rfl rfl (Nat.le_of_ble_eq_true rfl) hd5 kX11_number ⟨wd_1770, wd_1772, wd_109⟩ dX11_link_26 (Eb.mono H ?_)
    rintro o s5 ⟨r5, rfl, hr5, hs5, H⟩
    show Wb g ad d mX11_link Q 29 [some (.ref (ad 102)), some (vi r1), none, none, none] [(vi r5)] s5 rc rs
    refine sb_istore_n (pc' := 30) rfl (L' := [some (.ref (ad 102)), some (vi r1), some (vi r5), none, none]) rfl (by decide) dX11_link_29 ?_
    refine sb_aload_n (pc' := 31) rfl rfl dX11_link_30 ?_
    refine sb_aload_n (pc' := 32) rfl rfl dX11_link_31 ?_
    refine sb_getI (pc' := 35) rfl fi_102_14 wd_1564 dX11_link_32 ?_
    refine sb_aload_n (pc' := 36) rfl rfl dX11_link_35 ?_
    refine sb_getI (pc' := 39) rfl fi_102_15 wd_1565 dX11_link_36 ?_
    refine sb_isub (pc' := 40) rfl dX11_link_39 ?_
    refine sb_iconst (pc' := 41) rfl dX11_link_40 ?_
    refine sb_isub (pc' := 42) rfl dX11_link_41 ?_
    obtain ⟨d6, hd6, H⟩ := H
    refine sb_callV (pc' := 45) rfl rfl (rc := rc) (rs := rs) (mc' := 0) (ms' := 0) (As := [(vi (((sc s5 102 14) - (sc s5 102 15)) - 1))]) (st := []) of_102 rfl rfl (Nat.le_of_ble_eq_true rfl) hd6 kX11_number ⟨wd_1770, wd_1772, wd_109⟩ dX11_link_42 (Eb.mono H ?_)
    rintro o s6 ⟨r6, rfl, hr6, hs6, H⟩
    show Wb g ad d mX11_link Q 45 [some (.ref (ad 102)), some (vi r1), some (vi r5), none, none] [(vi r6)] s6 rc rs
    refine sb_istore_n (pc' := 46) rfl (L' := [some (.ref (ad 102)), some (vi r1), some (vi r5), some (vi r6), none]) rfl (by decide) dX11_link_45 ?_
    refine sb_iconst (pc' := 47) rfl dX11_link_46 ?_
    refine sb_istore (pc' := 49) rfl (L' := [some (.ref (ad 102)), some (vi r1), some (vi r5), some (vi r6), some (vi 0)]) rfl (by decide) dX11_link_47 ?_
    exact (H hr1 hr5 hr6 (iR_lit rfl) hs6)
theorem bX11_link_49 {g : AG} {ad : Nat → Nat} {d : Nat} {Q : AO → SG → Prop} {rc rs : Nat} {σ : SG} {x1 x2 x3 x4 : Int}  (hx1 : iR x1) (hx2 : iR x2) (hx3 : iR x3) (hx4 : iR x4) (hS : SR σ) (H : (((sc σ 102 18) ≤ x4 → (((sc σ 102 9) = ((-1)) → (0 ≤ sc σ 102 18 ∧ sc σ 102 18 < 12) ∧ (0 ≤ sc (setI σ 110 (sc σ 102 18) x2) 102 18 ∧ sc (setI σ 110 (sc σ 102 18) x2) 102 18 < 12) ∧ iR ((sc (setI (setI σ 110 (sc σ 102 18) x2) 111 (sc (setI σ 110 (sc σ 102 18) x2) 102 18) x3) 102 18) + 1) ∧ (SR (setS (setI (setI σ 110 (sc σ 102 18) x2) 111 (sc (setI σ 110 (sc σ 102 18) x2) 102 18) x3) 102 18 ((sc (setI (setI σ 110 (sc σ 102 18) x2) 111 (sc (setI σ 110 (sc σ 102 18) x2) 102 18) x3) 102 18) + 1)) → Q (.inl none) (setS (setI (setI σ 110 (sc σ 102 18) x2) 111 (sc (setI σ 110 (sc σ 102 18) x2) 102 18) x3) 102 18 ((sc (setI (setI σ 110 (sc σ 102 18) x2) 111 (sc (setI σ 110 (sc σ 102 18) x2) 102 18) x3) 102 18) + 1)))) ∧ (¬ (sc σ 102 9) = ((-1)) → (SR σ → Q (.inl none) σ)))) ∧ (¬ (sc σ 102 18) ≤ x4 → ((¬ (sc σ 102 9) = ((-1)) → (((sc σ 102 9) = ((-1)) → (0 ≤ sc σ 102 18 ∧ sc σ 102 18 < 12) ∧ (0 ≤ sc (setI σ 110 (sc σ 102 18) x2) 102 18 ∧ sc (setI σ 110 (sc σ 102 18) x2) 102 18 < 12) ∧ iR ((sc (setI (setI σ 110 (sc σ 102 18) x2) 111 (sc (setI σ 110 (sc σ 102 18) x2) 102 18) x3) 102 18) + 1) ∧ (SR (setS (setI (setI σ 110 (sc σ 102 18) x2) 111 (sc (setI σ 110 (sc σ 102 18) x2) 102 18) x3) 102 18 ((sc (setI (setI σ 110 (sc σ 102 18) x2) 111 (sc (setI σ 110 (sc σ 102 18) x2) 102 18) x3) 102 18) + 1)) → Q (.inl none) (setS (setI (setI σ 110 (sc σ 102 18) x2) 111 (sc (setI σ 110 (sc σ 102 18) x2) 102 18) x3) 102 18 ((sc (setI (setI σ 110 (sc σ 102 18) x2) 111 (sc (setI σ 110 (sc σ 102 18) x2) 102 18) x3) 102 18) + 1)))) ∧ (¬ (sc σ 102 9) = ((-1)) → (SR σ → Q (.inl none) σ)))) ∧ ((sc σ 102 9) = ((-1)) → (0 ≤ x4 ∧ x4 < 12) ∧ ((¬ (ia σ 110 x4) = x2 → iR (x4 + 1) ∧ (iR x1 → iR x2 → iR x3 → iR (x4 + 1) → SR σ → Wb g ad d mX11_link Q 49 [some (.ref (ad 102)), some (vi x1), some (vi x2), some (vi x3), some (vi (x4 + 1))] [] σ rc rs)) ∧ ((ia σ 110 x4) = x2 → ((¬ (ia σ 111 x4) = x3 → iR (x4 + 1) ∧ (iR x1 → iR x2 → iR x3 → iR (x4 + 1) → SR σ → Wb g ad d mX11_link Q 49 [some (.ref (ad 102)), some (vi x1), some (vi x2), some (vi x3), some (vi (x4 + 1))] [] σ rc rs)) ∧ ((ia σ 111 x4) = x3 → Cl g ad d mX11_wrong 0 0 [(.ref (ad 102)), (vi x1)] σ (Kv fun s10 => iR (x4 + 1) ∧ (iR x1 → iR x2 → iR x3 → iR (x4 + 1) → SR s10 → Wb g ad d mX11_link Q 49 [some (.ref (ad 102)), some (vi x1), some (vi x2), some (vi x3), some (vi (x4 + 1))] [] s10 rc rs))))))))))) : Wb g ad d mX11_link Q 49 [some (.ref (ad 102)), some (vi x1), some (vi x2), some (vi x3), some (vi x4)] [] σ rc rs := by
  refine sb_iload (pc' := 51) rfl rfl dX11_link_49 ?_
  refine sb_aload_n (pc' := 52) rfl rfl dX11_link_51 ?_
  refine sb_getI (pc' := 55) rfl fi_102_18 wd_1568 dX11_link_52 ?_
  refine sb_icmp_ge (pc' := 58) (tgt := 99) rfl (by decide) hx4 (SR_sc hS _ _) dX11_link_55 ?_ ?_
  · intro cc; have H := H.1 cc
    refine sb_aload_n (pc' := 100) rfl rfl dX11_link_99 ?_
    refine sb_getI (pc' := 103) rfl fi_102_9 wd_1559 dX11_link_100 ?_
    refine sb_iconst (pc' := 104) rfl dX11_link_103 ?_
    refine sb_icmp_eq (pc' := 107) (tgt := 108) rfl (by decide) (SR_sc hS _ _) (iR_lit rfl) dX11_link_104 ?_ ?_
    · intro cc; have H := H.1 cc
      refine sb_aload_n (pc' := 109) rfl rfl dX11_link_108 ?_
      refine sb_getC (pc' := 112) rfl fc_102_16 wd_1566 dX11_link_109 ?_
      refine sb_aload_n (pc' := 113) rfl rfl dX11_link_112 ?_
      refine sb_getI (pc' := 116) rfl fi_102_18 wd_1568 dX11_link_113 ?_
      refine sb_iload_n (pc' := 117) rfl rfl dX11_link_116 ?_
      obtain ⟨o1, H⟩ := H
      refine sb_iast (pc' := 118) rfl aI_110 o1.1 o1.2  dX11_link_117 ?_
      refine sb_aload_n (pc' := 119) rfl rfl dX11_link_118 ?_
      refine sb_getC (pc' := 122) rfl fc_102_17 wd_1567 dX11_link_119 ?_
      refine sb_aload_n (pc' := 123) rfl rfl dX11_link_122 ?_
      refine sb_getI (pc' := 126) rfl fi_102_18 wd_1568 dX11_link_123 ?_
      refine sb_iload_n (pc' := 127) rfl rfl dX11_link_126 ?_
      obtain ⟨o2, H⟩ := H
      refine sb_iast (pc' := 128) rfl aI_111 o2.1 o2.2  dX11_link_127 ?_
      refine sb_aload_n (pc' := 129) rfl rfl dX11_link_128 ?_
      refine sb_dup (pc' := 130) rfl rfl dX11_link_129 ?_
      refine sb_getI (pc' := 133) rfl fi_102_18 wd_1568 dX11_link_130 ?_
      refine sb_iconst (pc' := 134) rfl dX11_link_133 ?_
      refine sb_iadd (pc' := 135) rfl dX11_link_134 ?_
      obtain ⟨o3, H⟩ := H
      refine sb_putI (pc' := 138) rfl fi_102_18 (Or.inl rfl) wd_1568 dX11_link_135 ?_
      exact sb_vret rfl dX11_link_138 (H (SR_setS (SR_setI (SR_setI hS hx2) hx3) o3))
    · intro cc; have H := H.2 cc
      exact sb_vret rfl dX11_link_107 (H hS)
  · intro cc; have H := H.2 cc
    refine sb_aload_n (pc' := 59) rfl rfl dX11_link_58 ?_
    refine sb_getI (pc' := 62) rfl fi_102_9 wd_1559 dX11_link_59 ?_
    refine sb_iconst (pc' := 63) rfl dX11_link_62 ?_
    refine sb_icmp_ne (pc' := 66) (tgt := 99) rfl (by decide) (SR_sc hS _ _) (iR_lit rfl) dX11_link_63 ?_ ?_
    · intro cc; have H := H.1 cc
      refine sb_aload_n (pc' := 100) rfl rfl dX11_link_99 ?_
      refine sb_getI (pc' := 103) rfl fi_102_9 wd_1559 dX11_link_100 ?_
      refine sb_iconst (pc' := 104) rfl dX11_link_103 ?_
      refine sb_icmp_eq (pc' := 107) (tgt := 108) rfl (by decide) (SR_sc hS _ _) (iR_lit rfl) dX11_link_104 ?_ ?_
      · intro cc; have H := H.1 cc
        refine sb_aload_n (pc' := 109) rfl rfl dX11_link_108 ?_
        refine sb_getC (pc' := 112) rfl fc_102_16 wd_1566 dX11_link_109 ?_
        refine sb_aload_n (pc' := 113) rfl rfl dX11_link_112 ?_
        refine sb_getI (pc' := 116) rfl fi_102_18 wd_1568 dX11_link_113 ?_
        refine sb_iload_n (pc' := 117) rfl rfl dX11_link_116 ?_
        obtain ⟨o4, H⟩ := H
        refine sb_iast (pc' := 118) rfl aI_110 o4.1 o4.2  dX11_link_117 ?_
        refine sb_aload_n (pc' := 119) rfl rfl dX11_link_118 ?_
        refine sb_getC (pc' := 122) rfl fc_102_17 wd_1567 dX11_link_119 ?_
        refine sb_aload_n (pc' := 123) rfl rfl dX11_link_122 ?_
        refine sb_getI (pc' := 126) rfl fi_102_18 wd_1568 dX11_link_123 ?_
        refine sb_iload_n (pc' := 127) rfl rfl dX11_link_126 ?_
        obtain ⟨o5, H⟩ := H
        refine sb_iast (pc' := 128) rfl aI_111 o5.1 o5.2  dX11_link_127 ?_
        refine sb_aload_n (pc' := 129) rfl rfl dX11_link_128 ?_
        refine sb_dup (pc' := 130) rfl rfl dX11_link_129 ?_
        refine sb_getI (pc' := 133) rfl fi_102_18 wd_1568 dX11_link_130 ?_
        refine sb_iconst (pc' := 134) rfl dX11_link_133 ?_
        refine sb_iadd (pc' := 135) rfl dX11_link_134 ?_
        obtain ⟨o6, H⟩ := H
        refine sb_putI (pc' := 138) rfl fi_102_18 (Or.inl rfl) wd_1568 dX11_link_135 ?_
        exact sb_vret rfl dX11_link_138 (H (SR_setS (SR_setI (SR_setI hS hx2) hx3) o6))
      · intro cc; have H := H.2 cc
        exact sb_vret rfl dX11_link_107 (H hS)
    · intro cc; have H := H.2 cc
      refine sb_aload_n (pc' := 67) rfl rfl dX11_link_66 ?_
      refine sb_getC (pc' := 70) rfl fc_102_16 wd_1566 dX11_link_67 ?_
      refine sb_iload (pc' := 72) rfl rfl dX11_link_70 ?_
      obtain ⟨o7, H⟩ := H
      refine sb_iald (pc' := 73) rfl aI_110 o7.1 o7.2 dX11_link_72 ?_
      refine sb_iload_n (pc' := 74) rfl rfl dX11_link_73 ?_
      refine sb_icmp_ne (pc' := 77) (tgt := 93) rfl (by decide) (SR_ia hS _ _) hx2 dX11_link_74 ?_ ?_
      · intro cc; have H := H.1 cc
        refine sb_iinc (pc' := 96) rfl rfl (L' := [some (.ref (ad 102)), some (vi x1), some (vi x2), some (vi x3), some (vi (x4 + 1))]) rfl (by decide) dX11_link_93 ?_
        refine sb_goto (tgt := 49) (by decide) dX11_link_96 ?_
        obtain ⟨o8, H⟩ := H
        exact (H hx1 hx2 hx3 o8 hS)
      · intro cc; have H := H.2 cc
        refine sb_aload_n (pc' := 78) rfl rfl dX11_link_77 ?_
        refine sb_getC (pc' := 81) rfl fc_102_17 wd_1567 dX11_link_78 ?_
        refine sb_iload (pc' := 83) rfl rfl dX11_link_81 ?_
        refine sb_iald (pc' := 84) rfl aI_111 o7.1 o7.2 dX11_link_83 ?_
        refine sb_iload_n (pc' := 85) rfl rfl dX11_link_84 ?_
        refine sb_icmp_ne (pc' := 88) (tgt := 93) rfl (by decide) (SR_ia hS _ _) hx3 dX11_link_85 ?_ ?_
        · intro cc; have H := H.1 cc
          refine sb_iinc (pc' := 96) rfl rfl (L' := [some (.ref (ad 102)), some (vi x1), some (vi x2), some (vi x3), some (vi (x4 + 1))]) rfl (by decide) dX11_link_93 ?_
          refine sb_goto (tgt := 49) (by decide) dX11_link_96 ?_
          obtain ⟨o9, H⟩ := H
          exact (H hx1 hx2 hx3 o9 hS)
        · intro cc; have H := H.2 cc
          refine sb_aload_n (pc' := 89) rfl rfl dX11_link_88 ?_
          refine sb_iload_n (pc' := 90) rfl rfl dX11_link_89 ?_
          obtain ⟨d10, hd10, H⟩ := H
          refine sb_callV (pc' := 93) rfl rfl (rc := rc) (rs := rs) (mc' := 0) (ms' := 0) (As := [(vi x1)]) (st := []) of_102 rfl rfl (Nat.le_of_ble_eq_true rfl) hd10 kX11_wrong ⟨wd_1738, wd_1740, wd_101⟩ dX11_link_90 (Eb.mono H ?_)
          rintro o s10 ⟨rfl, hs10, H⟩
          show Wb g ad d mX11_link Q 93 [some (.ref (ad 102)), some (vi x1), some (vi x2), some (vi x3), some (vi x4)] [] s10 rc rs
          refine sb_iinc (pc' := 96) rfl rfl (L' := [some (.ref (ad 102)), some (vi x1), some (vi x2), some (vi x3), some (vi (x4 + 1))]) rfl (by decide) dX11_link_93 ?_
          refine sb_goto (tgt := 49) (by decide) dX11_link_96 ?_
          obtain ⟨o11, H⟩ := H
          exact (H hx1 hx2 hx3 o11 hs10)
theorem bX11_lesson_0 {g : AG} {ad : Nat → Nat} {d : Nat} {Q : AO → SG → Prop} {rc rs : Nat} {σ : SG}    (hS : SR σ) (H : Cl g ad d mX11_wordsInto 0 0 [(.ref (ad 102)), (.ref (ad 109)), (vi 0), (vi 6), (vi 1)] σ (Ki fun r1 s1 => ((¬ (sc (setS s1 102 15 r1) 102 15) = 0 → (SR (setS s1 102 15 r1) → Wb g ad d mX11_lesson Q 31 [some (.ref (ad 102)), none, none] [] (setS s1 102 15 r1) rc rs)) ∧ ((sc (setS s1 102 15 r1) 102 15) = 0 → Cl g ad d mX11_here 0 0 [(.ref (ad 102))] (setS s1 102 15 r1) (Ki fun r2 s2 => Cl g ad d mX11_wrong 0 0 [(.ref (ad 102)), (vi r2)] s2 (Kv fun s3 => (SR s3 → Wb g ad d mX11_lesson Q 31 [some (.ref (ad 102)), none, none] [] s3 rc rs))))))) : Wb g ad d mX11_lesson Q 0 [some (.ref (ad 102)), none, none] [] σ rc rs := by
  refine sb_aload_n (pc' := 1) rfl rfl dX11_lesson_0 ?_
  refine sb_aload_n (pc' := 2) rfl rfl dX11_lesson_1 ?_
  refine sb_aload_n (pc' := 3) rfl rfl dX11_lesson_2 ?_
  refine sb_getC (pc' := 6) rfl fc_102_13 wd_1563 dX11_lesson_3 ?_
  refine sb_iconst (pc' := 7) rfl dX11_lesson_6 ?_
  refine sb_bipush (pc' := 9) rfl (z := 6) (by decide) dX11_lesson_7 ?_
  refine sb_iconst (pc' := 10) rfl dX11_lesson_9 ?_
  obtain ⟨d1, hd1, H⟩ := H
  refine sb_callV (pc' := 13) rfl rfl (rc := rc) (rs := rs) (mc' := 0) (ms' := 0) (As := [(.ref (ad 109)), (vi 0), (vi 6), (vi 1)]) (st := [(.ref (ad 102))]) of_102 rfl rfl (Nat.le_of_ble_eq_true rfl) hd1 kX11_wordsInto ⟨wd_1746, wd_1748, wd_103⟩ dX11_lesson_10 (Eb.mono H ?_)
  rintro o s1 ⟨r1, rfl, hr1, hs1, H⟩
  show Wb g ad d mX11_lesson Q 13 [some (.ref (ad 102)), none, none] [(vi r1), (.ref (ad 102))] s1 rc rs
  refine sb_putI (pc' := 16) rfl fi_102_15 (Or.inl rfl) wd_1565 dX11_lesson_13 ?_
  refine sb_aload_n (pc' := 17) rfl rfl dX11_lesson_16 ?_
  refine sb_getI (pc' := 20) rfl fi_102_15 wd_1565 dX11_lesson_17 ?_
  refine sb_if_ne (pc' := 23) (tgt := 31) rfl (by decide) (SR_sc (SR_setS hs1 hr1) _ _) dX11_lesson_20 ?_ ?_
  · intro cc; have H := H.1 cc
    exact (H (SR_setS hs1 hr1))
  · intro cc; have H := H.2 cc
    refine sb_aload_n (pc' := 24) rfl rfl dX11_lesson_23 ?_
    refine sb_aload_n (pc' := 25) rfl rfl dX11_lesson_24 ?_
    obtain ⟨d2, hd2, H⟩ := H
    refine sb_callV (pc' := 28) rfl rfl (rc := rc) (rs := rs) (mc' := 0) (ms' := 0) (As := []) (st := [(.ref (ad 102))]) of_102 rfl rfl (Nat.le_of_ble_eq_true rfl) hd2 kX11_here ⟨wd_1734, wd_1736, wd_100⟩ dX11_lesson_25 (Eb.mono H ?_)
    rintro o s2 ⟨r2, rfl, hr2, hs2, H⟩
    show Wb g ad d mX11_lesson Q 28 [some (.ref (ad 102)), none, none] [(vi r2), (.ref (ad 102))] s2 rc rs
    obtain ⟨d3, hd3, H⟩ := H
    refine sb_callV (pc' := 31) rfl rfl (rc := rc) (rs := rs) (mc' := 0) (ms' := 0) (As := [(vi r2)]) (st := []) of_102 rfl rfl (Nat.le_of_ble_eq_true rfl) hd3 kX11_wrong ⟨wd_1738, wd_1740, wd_101⟩ dX11_lesson_28 (Eb.mono H ?_)
    rintro o s3 ⟨rfl, hs3, H⟩
    show Wb g ad d mX11_lesson Q 31 [some (.ref (ad 102)), none, none] [] s3 rc rs
    exact (H hs3)
theorem bX11_lesson_31 {g : AG} {ad : Nat → Nat} {d : Nat} {Q : AO → SG → Prop} {rc rs : Nat} {σ : SG}    (hS : SR σ) (H : Cl g ad d mX11_mustSign 0 0 [(.ref (ad 102)), (vi 61)] σ (Kv fun s1 => (((sc s1 102 9) = ((-1)) → Cl g ad d mX11_wordsInto 0 0 [(.ref (ad 102)), (.ref (ad 109)), (vi (sc s1 102 15)), (vi 6), (vi 1)] s1 (Ki fun r2 s2 => ((¬ r2 = 0 → (iR r2 → SR s2 → Wb g ad d mX11_lesson Q 74 [some (.ref (ad 102)), some (vi r2), none] [] s2 rc rs)) ∧ (r2 = 0 → Cl g ad d mX11_here 0 0 [(.ref (ad 102))] s2 (Ki fun r3 s3 => Cl g ad d mX11_wrong 0 0 [(.ref (ad 102)), (vi r3)] s3 (Kv fun s4 => (iR r2 → SR s4 → Wb g ad d mX11_lesson Q 74 [some (.ref (ad 102)), some (vi r2), none] [] s4 rc rs))))))) ∧ (¬ (sc s1 102 9) = ((-1)) → (SR s1 → Q (.inl none) s1))))) : Wb g ad d mX11_lesson Q 31 [some (.ref (ad 102)), none, none] [] σ rc rs := by
  refine sb_aload_n (pc' := 32) rfl rfl dX11_lesson_31 ?_
  refine sb_bipush (pc' := 34) rfl (z := 61) (by decide) dX11_lesson_32 ?_
  obtain ⟨d1, hd1, H⟩ := H
  refine sb_callV (pc' := 37) rfl rfl (rc := rc) (rs := rs) (mc' := 0) (ms' := 0) (As := [(vi 61)]) (st := []) of_102 rfl rfl (Nat.le_of_ble_eq_true rfl) hd1 kX11_mustSign ⟨wd_1762, wd_1764, wd_107⟩ dX11_lesson_34 (Eb.mono H ?_)
  rintro o s1 ⟨rfl, hs1, H⟩
  show Wb g ad d mX11_lesson Q 37 [some (.ref (ad 102)), none, none] [] s1 rc rs
  refine sb_aload_n (pc' := 38) rfl rfl dX11_lesson_37 ?_
  refine sb_getI (pc' := 41) rfl fi_102_9 wd_1559 dX11_lesson_38 ?_
  refine sb_iconst (pc' := 42) rfl dX11_lesson_41 ?_
  refine sb_icmp_eq (pc' := 45) (tgt := 46) rfl (by decide) (SR_sc hs1 _ _) (iR_lit rfl) dX11_lesson_42 ?_ ?_
  · intro cc; have H := H.1 cc
    refine sb_aload_n (pc' := 47) rfl rfl dX11_lesson_46 ?_
    refine sb_aload_n (pc' := 48) rfl rfl dX11_lesson_47 ?_
    refine sb_getC (pc' := 51) rfl fc_102_13 wd_1563 dX11_lesson_48 ?_
    refine sb_aload_n (pc' := 52) rfl rfl dX11_lesson_51 ?_
    refine sb_getI (pc' := 55) rfl fi_102_15 wd_1565 dX11_lesson_52 ?_
    refine sb_bipush (pc' := 57) rfl (z := 6) (by decide) dX11_lesson_55 ?_
    refine sb_iconst (pc' := 58) rfl dX11_lesson_57 ?_
    obtain ⟨d2, hd2, H⟩ := H
    refine sb_callV (pc' := 61) rfl rfl (rc := rc) (rs := rs) (mc' := 0) (ms' := 0) (As := [(.ref (ad 109)), (vi (sc s1 102 15)), (vi 6), (vi 1)]) (st := []) of_102 rfl rfl (Nat.le_of_ble_eq_true rfl) hd2 kX11_wordsInto ⟨wd_1746, wd_1748, wd_103⟩ dX11_lesson_58 (Eb.mono H ?_)
    rintro o s2 ⟨r2, rfl, hr2, hs2, H⟩
    show Wb g ad d mX11_lesson Q 61 [some (.ref (ad 102)), none, none] [(vi r2)] s2 rc rs
    refine sb_istore_n (pc' := 62) rfl (L' := [some (.ref (ad 102)), some (vi r2), none]) rfl (by decide) dX11_lesson_61 ?_
    refine sb_iload_n (pc' := 63) rfl rfl dX11_lesson_62 ?_
    refine sb_if_ne (pc' := 66) (tgt := 74) rfl (by decide) hr2 dX11_lesson_63 ?_ ?_
    · intro cc; have H := H.1 cc
      exact (H hr2 hs2)
    · intro cc; have H := H.2 cc
      refine sb_aload_n (pc' := 67) rfl rfl dX11_lesson_66 ?_
      refine sb_aload_n (pc' := 68) rfl rfl dX11_lesson_67 ?_
      obtain ⟨d3, hd3, H⟩ := H
      refine sb_callV (pc' := 71) rfl rfl (rc := rc) (rs := rs) (mc' := 0) (ms' := 0) (As := []) (st := [(.ref (ad 102))]) of_102 rfl rfl (Nat.le_of_ble_eq_true rfl) hd3 kX11_here ⟨wd_1734, wd_1736, wd_100⟩ dX11_lesson_68 (Eb.mono H ?_)
      rintro o s3 ⟨r3, rfl, hr3, hs3, H⟩
      show Wb g ad d mX11_lesson Q 71 [some (.ref (ad 102)), some (vi r2), none] [(vi r3), (.ref (ad 102))] s3 rc rs
      obtain ⟨d4, hd4, H⟩ := H
      refine sb_callV (pc' := 74) rfl rfl (rc := rc) (rs := rs) (mc' := 0) (ms' := 0) (As := [(vi r3)]) (st := []) of_102 rfl rfl (Nat.le_of_ble_eq_true rfl) hd4 kX11_wrong ⟨wd_1738, wd_1740, wd_101⟩ dX11_lesson_71 (Eb.mono H ?_)
      rintro o s4 ⟨rfl, hs4, H⟩
      show Wb g ad d mX11_lesson Q 74 [some (.ref (ad 102)), some (vi r2), none] [] s4 rc rs
      exact (H hr2 hs4)
  · intro cc; have H := H.2 cc
    exact sb_vret rfl dX11_lesson_45 (H hs1)
theorem bX11_lesson_74 {g : AG} {ad : Nat → Nat} {d : Nat} {Q : AO → SG → Prop} {rc rs : Nat} {σ : SG} {x1 : Int}  (hx1 : iR x1) (hS : SR σ) (H : iR ((sc σ 102 15) + x1) ∧ Cl g ad d mX11_mustSign 0 0 [(.ref (ad 102)), (vi 47)] (setS σ 102 14 ((sc σ 102 15) + x1)) (Kv fun s2 => (iR x1 → iR 1 → SR s2 → Wb g ad d mX11_lesson Q 92 [some (.ref (ad 102)), some (vi x1), some (vi 1)] [] s2 rc rs))) : Wb g ad d mX11_lesson Q 74 [some (.ref (ad 102)), some (vi x1), none] [] σ rc rs := by
  refine sb_aload_n (pc' := 75) rfl rfl dX11_lesson_74 ?_
  refine sb_aload_n (pc' := 76) rfl rfl dX11_lesson_75 ?_
  refine sb_getI (pc' := 79) rfl fi_102_15 wd_1565 dX11_lesson_76 ?_
  refine sb_iload_n (pc' := 80) rfl rfl dX11_lesson_79 ?_
  refine sb_iadd (pc' := 81) rfl dX11_lesson_80 ?_
  obtain ⟨o1, H⟩ := H
  refine sb_putI (pc' := 84) rfl fi_102_14 (Or.inl rfl) wd_1564 dX11_lesson_81 ?_
  refine sb_aload_n (pc' := 85) rfl rfl dX11_lesson_84 ?_
  refine sb_bipush (pc' := 87) rfl (z := 47) (by decide) dX11_lesson_85 ?_
  obtain ⟨d2, hd2, H⟩ := H
  refine sb_callV (pc' := 90) rfl rfl (rc := rc) (rs := rs) (mc' := 0) (ms' := 0) (As := [(vi 47)]) (st := []) of_102 rfl rfl (Nat.le_of_ble_eq_true rfl) hd2 kX11_mustSign ⟨wd_1762, wd_1764, wd_107⟩ dX11_lesson_87 (Eb.mono H ?_)
  rintro o s2 ⟨rfl, hs2, H⟩
  show Wb g ad d mX11_lesson Q 90 [some (.ref (ad 102)), some (vi x1), none] [] s2 rc rs
  refine sb_iconst (pc' := 91) rfl dX11_lesson_90 ?_
  refine sb_istore_n (pc' := 92) rfl (L' := [some (.ref (ad 102)), some (vi x1), some (vi 1)]) rfl (by decide) dX11_lesson_91 ?_
  exact (H hx1 (iR_lit rfl) hs2)
theorem bX11_lesson_92 {g : AG} {ad : Nat → Nat} {d : Nat} {Q : AO → SG → Prop} {rc rs : Nat} {σ : SG} {x1 x2 : Int}  (hx1 : iR x1) (hx2 : iR x2) (hS : SR σ) (H : ((x2 = 0 → (iR x1 → iR x2 → SR σ → Wb g ad d mX11_lesson Q 146 [some (.ref (ad 102)), some (vi x1), some (vi x2)] [] σ rc rs)) ∧ (¬ x2 = 0 → ((¬ (sc σ 102 9) = ((-1)) → (iR x1 → iR x2 → SR σ → Wb g ad d mX11_lesson Q 146 [some (.ref (ad 102)), some (vi x1), some (vi x2)] [] σ rc rs)) ∧ ((sc σ 102 9) = ((-1)) → Cl g ad d mX11_link 0 0 [(.ref (ad 102))] σ (Kv fun s1 => ((¬ (sc s1 102 9) = ((-1)) → (iR x1 → iR x2 → SR s1 → Wb g ad d mX11_lesson Q 131 [some (.ref (ad 102)), some (vi x1), some (vi x2)] [] s1 rc rs)) ∧ ((sc s1 102 9) = ((-1)) → Cl g ad d mX11_here 0 0 [(.ref (ad 102))] s1 (Ki fun r2 s2 => (((sc s2 102 7) ≤ r2 → (iR x1 → iR x2 → SR s2 → Wb g ad d mX11_lesson Q 131 [some (.ref (ad 102)), some (vi x1), some (vi x2)] [] s2 rc rs)) ∧ (¬ (sc s2 102 7) ≤ r2 → Cl g ad d mX11_mustSign 0 0 [(.ref (ad 102)), (vi 59)] s2 (Kv fun s3 => (iR x1 → iR 1 → SR s3 → Wb g ad d mX11_lesson Q 92 [some (.ref (ad 102)), some (vi x1), some (vi 1)] [] s3 rc rs))))))))))))) : Wb g ad d mX11_lesson Q 92 [some (.ref (ad 102)), some (vi x1), some (vi x2)] [] σ rc rs := by
  refine sb_iload_n (pc' := 93) rfl rfl dX11_lesson_92 ?_
  refine sb_if_eq (pc' := 96) (tgt := 146) rfl (by decide) hx2 dX11_lesson_93 ?_ ?_
  · intro cc; have H := H.1 cc
    exact (H hx1 hx2 hS)
  · intro cc; have H := H.2 cc
    refine sb_aload_n (pc' := 97) rfl rfl dX11_lesson_96 ?_
    refine sb_getI (pc' := 100) rfl fi_102_9 wd_1559 dX11_lesson_97 ?_
    refine sb_iconst (pc' := 101) rfl dX11_lesson_100 ?_
    refine sb_icmp_ne (pc' := 104) (tgt := 146) rfl (by decide) (SR_sc hS _ _) (iR_lit rfl) dX11_lesson_101 ?_ ?_
    · intro cc; have H := H.1 cc
      exact (H hx1 hx2 hS)
    · intro cc; have H := H.2 cc
      refine sb_aload_n (pc' := 105) rfl rfl dX11_lesson_104 ?_
      obtain ⟨d1, hd1, H⟩ := H
      refine sb_callV (pc' := 108) rfl rfl (rc := rc) (rs := rs) (mc' := 0) (ms' := 0) (As := []) (st := []) of_102 rfl rfl (Nat.le_of_ble_eq_true rfl) hd1 kX11_link ⟨wd_1814, wd_1816, wd_117⟩ dX11_lesson_105 (Eb.mono H ?_)
      rintro o s1 ⟨rfl, hs1, H⟩
      show Wb g ad d mX11_lesson Q 108 [some (.ref (ad 102)), some (vi x1), some (vi x2)] [] s1 rc rs
      refine sb_aload_n (pc' := 109) rfl rfl dX11_lesson_108 ?_
      refine sb_getI (pc' := 112) rfl fi_102_9 wd_1559 dX11_lesson_109 ?_
      refine sb_iconst (pc' := 113) rfl dX11_lesson_112 ?_
      refine sb_icmp_ne (pc' := 116) (tgt := 131) rfl (by decide) (SR_sc hs1 _ _) (iR_lit rfl) dX11_lesson_113 ?_ ?_
      · intro cc; have H := H.1 cc
        exact (H hx1 hx2 hs1)
      · intro cc; have H := H.2 cc
        refine sb_aload_n (pc' := 117) rfl rfl dX11_lesson_116 ?_
        obtain ⟨d2, hd2, H⟩ := H
        refine sb_callV (pc' := 120) rfl rfl (rc := rc) (rs := rs) (mc' := 0) (ms' := 0) (As := []) (st := []) of_102 rfl rfl (Nat.le_of_ble_eq_true rfl) hd2 kX11_here ⟨wd_1734, wd_1736, wd_100⟩ dX11_lesson_117 (Eb.mono H ?_)
        rintro o s2 ⟨r2, rfl, hr2, hs2, H⟩
        show Wb g ad d mX11_lesson Q 120 [some (.ref (ad 102)), some (vi x1), some (vi x2)] [(vi r2)] s2 rc rs
        refine sb_aload_n (pc' := 121) rfl rfl dX11_lesson_120 ?_
        refine sb_getI (pc' := 124) rfl fi_102_7 wd_1557 dX11_lesson_121 ?_
        refine sb_icmp_ge (pc' := 127) (tgt := 131) rfl (by decide) hr2 (SR_sc hs2 _ _) dX11_lesson_124 ?_ ?_
        · intro cc; have H := H.1 cc
          exact (H hx1 hx2 hs2)
        · intro cc; have H := H.2 cc
          refine sb_iconst (pc' := 128) rfl dX11_lesson_127 ?_
          refine sb_goto (tgt := 132) (by decide) dX11_lesson_128 ?_
          refine sb_istore_n (pc' := 133) rfl (L' := [some (.ref (ad 102)), some (vi x1), some (vi 1)]) rfl (by decide) dX11_lesson_132 ?_
          refine sb_iload_n (pc' := 134) rfl rfl dX11_lesson_133 ?_
          refine sb_if_eq (pc' := 137) (tgt := 92) rfl (by decide) (iR_lit rfl) dX11_lesson_134 ?_ ?_
          · intro cc; exact absurd cc (by decide)
          · intro cc
            refine sb_aload_n (pc' := 138) rfl rfl dX11_lesson_137 ?_
            refine sb_bipush (pc' := 140) rfl (z := 59) (by decide) dX11_lesson_138 ?_
            obtain ⟨d3, hd3, H⟩ := H
            refine sb_callV (pc' := 143) rfl rfl (rc := rc) (rs := rs) (mc' := 0) (ms' := 0) (As := [(vi 59)]) (st := []) of_102 rfl rfl (Nat.le_of_ble_eq_true rfl) hd3 kX11_mustSign ⟨wd_1762, wd_1764, wd_107⟩ dX11_lesson_140 (Eb.mono H ?_)
            rintro o s3 ⟨rfl, hs3, H⟩
            show Wb g ad d mX11_lesson Q 143 [some (.ref (ad 102)), some (vi x1), some (vi 1)] [] s3 rc rs
            refine sb_goto (tgt := 92) (by decide) dX11_lesson_143 ?_
            exact (H hx1 (iR_lit rfl) hs3)
theorem bX11_lesson_131 {g : AG} {ad : Nat → Nat} {d : Nat} {Q : AO → SG → Prop} {rc rs : Nat} {σ : SG} {x1 x2 : Int}  (hx1 : iR x1) (hx2 : iR x2) (hS : SR σ) (H : (iR x1 → iR 0 → SR σ → Wb g ad d mX11_lesson Q 92 [some (.ref (ad 102)), some (vi x1), some (vi 0)] [] σ rc rs)) : Wb g ad d mX11_lesson Q 131 [some (.ref (ad 102)), some (vi x1), some (vi x2)] [] σ rc rs := by
  refine sb_iconst (pc' := 132) rfl dX11_lesson_131 ?_
  refine sb_istore_n (pc' := 133) rfl (L' := [some (.ref (ad 102)), some (vi x1), some (vi 0)]) rfl (by decide) dX11_lesson_132 ?_
  refine sb_iload_n (pc' := 134) rfl rfl dX11_lesson_133 ?_
  refine sb_if_eq (pc' := 137) (tgt := 92) rfl (by decide) (iR_lit rfl) dX11_lesson_134 ?_ ?_
  · intro cc
    exact (H hx1 (iR_lit rfl) hS)
  · intro cc; exact absurd cc (by decide)
theorem bX11_lesson_146 {g : AG} {ad : Nat → Nat} {d : Nat} {Q : AO → SG → Prop} {rc rs : Nat} {σ : SG} {x1 x2 : Int}  (hx1 : iR x1) (hx2 : iR x2) (hS : SR σ) (H : (SR σ → Q (.inl none) σ)) : Wb g ad d mX11_lesson Q 146 [some (.ref (ad 102)), some (vi x1), some (vi x2)] [] σ rc rs := by
  exact sb_vret rfl dX11_lesson_146 (H hS)
theorem bX11_goTogether_0 {g : AG} {ad : Nat → Nat} {d : Nat} {Q : AO → SG → Prop} {rc rs : Nat} {σ : SG} {x1 x2 x3 x4 : Int}  (hx1 : iR x1) (hx2 : iR x2) (hx3 : iR x3) (hx4 : iR x4) (hS : SR σ) (H : (iR x1 → iR x2 → iR x3 → iR x4 → iR 0 → iR 0 → SR σ → Wb g ad d mX11_goTogether Q 6 [some (.ref (ad 102)), some (vi x1), some (vi x2), some (vi x3), some (vi x4), some (vi 0), some (vi 0), none, none] [] σ rc rs)) : Wb g ad d mX11_goTogether Q 0 [some (.ref (ad 102)), some (vi x1), some (vi x2), some (vi x3), some (vi x4), none, none, none, none] [] σ rc rs := by
  refine sb_iconst (pc' := 1) rfl dX11_goTogether_0 ?_
  refine sb_istore (pc' := 3) rfl (L' := [some (.ref (ad 102)), some (vi x1), some (vi x2), some (vi x3), some (vi x4), some (vi 0), none, none, none]) rfl (by decide) dX11_goTogether_1 ?_
  refine sb_iconst (pc' := 4) rfl dX11_goTogether_3 ?_
  refine sb_istore (pc' := 6) rfl (L' := [some (.ref (ad 102)), some (vi x1), some (vi x2), some (vi x3), some (vi x4), some (vi 0), some (vi 0), none, none]) rfl (by decide) dX11_goTogether_4 ?_
  exact (H hx1 hx2 hx3 hx4 (iR_lit rfl) (iR_lit rfl) hS)
theorem bX11_goTogether_6 {g : AG} {ad : Nat → Nat} {d : Nat} {Q : AO → SG → Prop} {rc rs : Nat} {σ : SG} {x1 x2 x3 x4 x5 x6 : Int}  (hx1 : iR x1) (hx2 : iR x2) (hx3 : iR x3) (hx4 : iR x4) (hx5 : iR x5) (hx6 : iR x6) (hS : SR σ) (H : (((sc σ 102 18) ≤ x6 → ((x5 ≤ 0 → (iR 0 → SR σ → Q (.inl (some (vi 0))) σ)) ∧ (¬ x5 ≤ 0 → (iR 1 → SR σ → Q (.inl (some (vi 1))) σ)))) ∧ (¬ (sc σ 102 18) ≤ x6 → (0 ≤ x6 ∧ x6 < 12) ∧ Cl g ad d mX11_isIn 0 0 [(vi (ia σ 110 x6)), (vi x1), (vi x2)] σ (Ki fun r2 s2 => Cl g ad d mX11_isIn 0 0 [(vi (ia s2 111 x6)), (vi x3), (vi x4)] s2 (Ki fun r3 s3 => ((r2 = r3 → ((r2 = 0 → iR (x5 + 0) ∧ iR (x6 + 1) ∧ (iR x1 → iR x2 → iR x3 → iR x4 → iR (x5 + 0) → iR (x6 + 1) → SR s3 → Wb g ad d mX11_goTogether Q 6 [some (.ref (ad 102)), some (vi x1), some (vi x2), some (vi x3), some (vi x4), some (vi (x5 + 0)), some (vi (x6 + 1)), none, none] [] s3 rc rs)) ∧ (¬ r2 = 0 → iR (x5 + 1) ∧ iR (x6 + 1) ∧ (iR x1 → iR x2 → iR x3 → iR x4 → iR (x5 + 1) → iR (x6 + 1) → SR s3 → Wb g ad d mX11_goTogether Q 6 [some (.ref (ad 102)), some (vi x1), some (vi x2), some (vi x3), some (vi x4), some (vi (x5 + 1)), some (vi (x6 + 1)), none, none] [] s3 rc rs)))) ∧ (¬ r2 = r3 → (iR 0 → SR s3 → Q (.inl (some (vi 0))) s3)))))))) : Wb g ad d mX11_goTogether Q 6 [some (.ref (ad 102)), some (vi x1), some (vi x2), some (vi x3), some (vi x4), some (vi x5), some (vi x6), none, none] [] σ rc rs := by
  refine sb_iload (pc' := 8) rfl rfl dX11_goTogether_6 ?_
  refine sb_aload_n (pc' := 9) rfl rfl dX11_goTogether_8 ?_
  refine sb_getI (pc' := 12) rfl fi_102_18 wd_1568 dX11_goTogether_9 ?_
  refine sb_icmp_ge (pc' := 15) (tgt := 74) rfl (by decide) hx6 (SR_sc hS _ _) dX11_goTogether_12 ?_ ?_
  · intro cc; have H := H.1 cc
    refine sb_iload (pc' := 76) rfl rfl dX11_goTogether_74 ?_
    refine sb_if_le (pc' := 79) (tgt := 83) rfl (by decide) hx5 dX11_goTogether_76 ?_ ?_
    · intro cc; have H := H.1 cc
      refine sb_iconst (pc' := 84) rfl dX11_goTogether_83 ?_
      exact sb_iret rfl (nar_z2 (Or.inl rfl)) dX11_goTogether_84 (H (iR_lit rfl) hS)
    · intro cc; have H := H.2 cc
      refine sb_iconst (pc' := 80) rfl dX11_goTogether_79 ?_
      refine sb_goto (tgt := 84) (by decide) dX11_goTogether_80 ?_
      exact sb_iret rfl (nar_z2 (Or.inr rfl)) dX11_goTogether_84 (H (iR_lit rfl) hS)
  · intro cc; have H := H.2 cc
    refine sb_aload_n (pc' := 16) rfl rfl dX11_goTogether_15 ?_
    refine sb_getC (pc' := 19) rfl fc_102_16 wd_1566 dX11_goTogether_16 ?_
    refine sb_iload (pc' := 21) rfl rfl dX11_goTogether_19 ?_
    obtain ⟨o1, H⟩ := H
    refine sb_iald (pc' := 22) rfl aI_110 o1.1 o1.2 dX11_goTogether_21 ?_
    refine sb_iload_n (pc' := 23) rfl rfl dX11_goTogether_22 ?_
    refine sb_iload_n (pc' := 24) rfl rfl dX11_goTogether_23 ?_
    obtain ⟨d2, hd2, H⟩ := H
    refine sb_callS (pc' := 27) rfl rfl (rc := rc) (rs := rs) (mc' := 0) (ms' := 0) (As := [(vi (ia σ 110 x6)), (vi x1), (vi x2)]) (st := [])  rfl rfl (Nat.le_of_ble_eq_true rfl) hd2 kX11_isIn ⟨wd_1719, wd_1720⟩ dX11_goTogether_24 (Eb.mono H ?_)
    rintro o s2 ⟨r2, rfl, hr2, hs2, H⟩
    show Wb g ad d mX11_goTogether Q 27 [some (.ref (ad 102)), some (vi x1), some (vi x2), some (vi x3), some (vi x4), some (vi x5), some (vi x6), none, none] [(vi r2)] s2 rc rs
    refine sb_istore (pc' := 29) rfl (L' := [some (.ref (ad 102)), some (vi x1), some (vi x2), some (vi x3), some (vi x4), some (vi x5), some (vi x6), some (vi r2), none]) rfl (by decide) dX11_goTogether_27 ?_
    refine sb_aload_n (pc' := 30) rfl rfl dX11_goTogether_29 ?_
    refine sb_getC (pc' := 33) rfl fc_102_17 wd_1567 dX11_goTogether_30 ?_
    refine sb_iload (pc' := 35) rfl rfl dX11_goTogether_33 ?_
    refine sb_iald (pc' := 36) rfl aI_111 o1.1 o1.2 dX11_goTogether_35 ?_
    refine sb_iload_n (pc' := 37) rfl rfl dX11_goTogether_36 ?_
    refine sb_iload (pc' := 39) rfl rfl dX11_goTogether_37 ?_
    obtain ⟨d3, hd3, H⟩ := H
    refine sb_callS (pc' := 42) rfl rfl (rc := rc) (rs := rs) (mc' := 0) (ms' := 0) (As := [(vi (ia s2 111 x6)), (vi x3), (vi x4)]) (st := [])  rfl rfl (Nat.le_of_ble_eq_true rfl) hd3 kX11_isIn ⟨wd_1719, wd_1720⟩ dX11_goTogether_39 (Eb.mono H ?_)
    rintro o s3 ⟨r3, rfl, hr3, hs3, H⟩
    show Wb g ad d mX11_goTogether Q 42 [some (.ref (ad 102)), some (vi x1), some (vi x2), some (vi x3), some (vi x4), some (vi x5), some (vi x6), some (vi r2), none] [(vi r3)] s3 rc rs
    refine sb_istore (pc' := 44) rfl (L' := [some (.ref (ad 102)), some (vi x1), some (vi x2), some (vi x3), some (vi x4), some (vi x5), some (vi x6), some (vi r2), some (vi r3)]) rfl (by decide) dX11_goTogether_42 ?_
    refine sb_iload (pc' := 46) rfl rfl dX11_goTogether_44 ?_
    refine sb_iload (pc' := 48) rfl rfl dX11_goTogether_46 ?_
    refine sb_icmp_eq (pc' := 51) (tgt := 53) rfl (by decide) hr2 hr3 dX11_goTogether_48 ?_ ?_
    · intro cc; have H := H.1 cc
      refine sb_iload (pc' := 55) rfl rfl dX11_goTogether_53 ?_
      refine sb_iload (pc' := 57) rfl rfl dX11_goTogether_55 ?_
      refine sb_if_eq (pc' := 60) (tgt := 64) rfl (by decide) hr2 dX11_goTogether_57 ?_ ?_
      · intro cc; have H := H.1 cc
        refine sb_iconst (pc' := 65) rfl dX11_goTogether_64 ?_
        refine sb_iadd (pc' := 66) rfl dX11_goTogether_65 ?_
        refine sb_istore (pc' := 68) rfl (L' := [some (.ref (ad 102)), some (vi x1), some (vi x2), some (vi x3), some (vi x4), some (vi (x5 + 0)), some (vi x6), some (vi r2), some (vi r3)]) rfl (by decide) dX11_goTogether_66 ?_
        refine sb_iinc (pc' := 71) rfl rfl (L' := [some (.ref (ad 102)), some (vi x1), some (vi x2), some (vi x3), some (vi x4), some (vi (x5 + 0)), some (vi (x6 + 1)), some (vi r2), some (vi r3)]) rfl (by decide) dX11_goTogether_68 ?_
        refine sb_goto (tgt := 6) (by decide) dX11_goTogether_71 ?_
        obtain ⟨o4, H⟩ := H
        obtain ⟨o5, H⟩ := H
        refine Wb.forget [true, true, true, true, true, true, true, false, false] ?_
        exact (H hx1 hx2 hx3 hx4 o4 o5 hs3)
      · intro cc; have H := H.2 cc
        refine sb_iconst (pc' := 61) rfl dX11_goTogether_60 ?_
        refine sb_goto (tgt := 65) (by decide) dX11_goTogether_61 ?_
        refine sb_iadd (pc' := 66) rfl dX11_goTogether_65 ?_
        refine sb_istore (pc' := 68) rfl (L' := [some (.ref (ad 102)), some (vi x1), some (vi x2), some (vi x3), some (vi x4), some (vi (x5 + 1)), some (vi x6), some (vi r2), some (vi r3)]) rfl (by decide) dX11_goTogether_66 ?_
        refine sb_iinc (pc' := 71) rfl rfl (L' := [some (.ref (ad 102)), some (vi x1), some (vi x2), some (vi x3), some (vi x4), some (vi (x5 + 1)), some (vi (x6 + 1)), some (vi r2), some (vi r3)]) rfl (by decide) dX11_goTogether_68 ?_
        refine sb_goto (tgt := 6) (by decide) dX11_goTogether_71 ?_
        obtain ⟨o6, H⟩ := H
        obtain ⟨o7, H⟩ := H
        refine Wb.forget [true, true, true, true, true, true, true, false, false] ?_
        exact (H hx1 hx2 hx3 hx4 o6 o7 hs3)
    · intro cc; have H := H.2 cc
      refine sb_iconst (pc' := 52) rfl dX11_goTogether_51 ?_
      exact sb_iret rfl (nar_z2 (Or.inl rfl)) dX11_goTogether_52 (H (iR_lit rfl) hs3)
theorem bX11_unlinked_0 {g : AG} {ad : Nat → Nat} {d : Nat} {Q : AO → SG → Prop} {rc rs : Nat} {σ : SG} {x1 x2 x3 x4 : Int}  (hx1 : iR x1) (hx2 : iR x2) (hx3 : iR x3) (hx4 : iR x4) (hS : SR σ) (H : (iR x1 → iR x2 → iR x3 → iR x4 → iR 0 → iR x1 → SR σ → Wb g ad d mX11_unlinked Q 6 [some (.ref (ad 102)), some (vi x1), some (vi x2), some (vi x3), some (vi x4), some (vi 0), some (vi x1), none, none] [] σ rc rs)) : Wb g ad d mX11_unlinked Q 0 [some (.ref (ad 102)), some (vi x1), some (vi x2), some (vi x3), some (vi x4), none, none, none, none] [] σ rc rs := by
  refine sb_iconst (pc' := 1) rfl dX11_unlinked_0 ?_
  refine sb_istore (pc' := 3) rfl (L' := [some (.ref (ad 102)), some (vi x1), some (vi x2), some (vi x3), some (vi x4), some (vi 0), none, none, none]) rfl (by decide) dX11_unlinked_1 ?_
  refine sb_iload_n (pc' := 4) rfl rfl dX11_unlinked_3 ?_
  refine sb_istore (pc' := 6) rfl (L' := [some (.ref (ad 102)), some (vi x1), some (vi x2), some (vi x3), some (vi x4), some (vi 0), some (vi x1), none, none]) rfl (by decide) dX11_unlinked_4 ?_
  exact (H hx1 hx2 hx3 hx4 (iR_lit rfl) hx1 hS)
theorem bX11_unlinked_6 {g : AG} {ad : Nat → Nat} {d : Nat} {Q : AO → SG → Prop} {rc rs : Nat} {σ : SG} {x1 x2 x3 x4 x5 x6 : Int}  (hx1 : iR x1) (hx2 : iR x2) (hx3 : iR x3) (hx4 : iR x4) (hx5 : iR x5) (hx6 : iR x6) (hS : SR σ) (H : ((x2 < x6 → (iR x1 → iR x2 → iR x3 → iR x4 → iR x5 → iR x3 → SR σ → Wb g ad d mX11_unlinked Q 81 [some (.ref (ad 102)), some (vi x1), some (vi x2), some (vi x3), some (vi x4), some (vi x5), some (vi x3), none, none] [] σ rc rs)) ∧ (¬ x2 < x6 → (iR x1 → iR x2 → iR x3 → iR x4 → iR x5 → iR x6 → iR 0 → iR 0 → SR σ → Wb g ad d mX11_unlinked Q 18 [some (.ref (ad 102)), some (vi x1), some (vi x2), some (vi x3), some (vi x4), some (vi x5), some (vi x6), some (vi 0), some (vi 0)] [] σ rc rs)))) : Wb g ad d mX11_unlinked Q 6 [some (.ref (ad 102)), some (vi x1), some (vi x2), some (vi x3), some (vi x4), some (vi x5), some (vi x6), none, none] [] σ rc rs := by
  refine sb_iload (pc' := 8) rfl rfl dX11_unlinked_6 ?_
  refine sb_iload_n (pc' := 9) rfl rfl dX11_unlinked_8 ?_
  refine sb_icmp_gt (pc' := 12) (tgt := 78) rfl (by decide) hx6 hx2 dX11_unlinked_9 ?_ ?_
  · intro cc; have H := H.1 cc
    refine sb_iload_n (pc' := 79) rfl rfl dX11_unlinked_78 ?_
    refine sb_istore (pc' := 81) rfl (L' := [some (.ref (ad 102)), some (vi x1), some (vi x2), some (vi x3), some (vi x4), some (vi x5), some (vi x3), none, none]) rfl (by decide) dX11_unlinked_79 ?_
    exact (H hx1 hx2 hx3 hx4 hx5 hx3 hS)
  · intro cc; have H := H.2 cc
    refine sb_iconst (pc' := 13) rfl dX11_unlinked_12 ?_
    refine sb_istore (pc' := 15) rfl (L' := [some (.ref (ad 102)), some (vi x1), some (vi x2), some (vi x3), some (vi x4), some (vi x5), some (vi x6), some (vi 0), none]) rfl (by decide) dX11_unlinked_13 ?_
    refine sb_iconst (pc' := 16) rfl dX11_unlinked_15 ?_
    refine sb_istore (pc' := 18) rfl (L' := [some (.ref (ad 102)), some (vi x1), some (vi x2), some (vi x3), some (vi x4), some (vi x5), some (vi x6), some (vi 0), some (vi 0)]) rfl (by decide) dX11_unlinked_16 ?_
    exact (H hx1 hx2 hx3 hx4 hx5 hx6 (iR_lit rfl) (iR_lit rfl) hS)
theorem bX11_unlinked_18 {g : AG} {ad : Nat → Nat} {d : Nat} {Q : AO → SG → Prop} {rc rs : Nat} {σ : SG} {x1 x2 x3 x4 x5 x6 x7 x8 : Int}  (hx1 : iR x1) (hx2 : iR x2) (hx3 : iR x3) (hx4 : iR x4) (hx5 : iR x5) (hx6 : iR x6) (hx7 : iR x7) (hx8 : iR x8) (hS : SR σ) (H : (((sc σ 102 18) ≤ x8 → ((x7 = 0 → iR (x5 + 1) ∧ iR (x6 + 1) ∧ (iR x1 → iR x2 → iR x3 → iR x4 → iR (x5 + 1) → iR (x6 + 1) → SR σ → Wb g ad d mX11_unlinked Q 6 [some (.ref (ad 102)), some (vi x1), some (vi x2), some (vi x3), some (vi x4), some (vi (x5 + 1)), some (vi (x6 + 1)), none, none] [] σ rc rs)) ∧ (¬ x7 = 0 → iR (x5 + 0) ∧ iR (x6 + 1) ∧ (iR x1 → iR x2 → iR x3 → iR x4 → iR (x5 + 0) → iR (x6 + 1) → SR σ → Wb g ad d mX11_unlinked Q 6 [some (.ref (ad 102)), some (vi x1), some (vi x2), some (vi x3), some (vi x4), some (vi (x5 + 0)), some (vi (x6 + 1)), none, none] [] σ rc rs)))) ∧ (¬ (sc σ 102 18) ≤ x8 → ((¬ x7 = 0 → iR (x8 + 1) ∧ (iR x1 → iR x2 → iR x3 → iR x4 → iR x5 → iR x6 → iR 1 → iR (x8 + 1) → SR σ → Wb g ad d mX11_unlinked Q 18 [some (.ref (ad 102)), some (vi x1), some (vi x2), some (vi x3), some (vi x4), some (vi x5), some (vi x6), some (vi 1), some (vi (x8 + 1))] [] σ rc rs)) ∧ (x7 = 0 → (0 ≤ x8 ∧ x8 < 12) ∧ ((¬ (ia σ 110 x8) = x6 → iR (x8 + 1) ∧ (iR x1 → iR x2 → iR x3 → iR x4 → iR x5 → iR x6 → iR 0 → iR (x8 + 1) → SR σ → Wb g ad d mX11_unlinked Q 18 [some (.ref (ad 102)), some (vi x1), some (vi x2), some (vi x3), some (vi x4), some (vi x5), some (vi x6), some (vi 0), some (vi (x8 + 1))] [] σ rc rs)) ∧ ((ia σ 110 x8) = x6 → iR (x8 + 1) ∧ (iR x1 → iR x2 → iR x3 → iR x4 → iR x5 → iR x6 → iR 1 → iR (x8 + 1) → SR σ → Wb g ad d mX11_unlinked Q 18 [some (.ref (ad 102)), some (vi x1), some (vi x2), some (vi x3), some (vi x4), some (vi x5), some (vi x6), some (vi 1), some (vi (x8 + 1))] [] σ rc rs)))))))) : Wb g ad d mX11_unlinked Q 18 [some (.ref (ad 102)), some (vi x1), some (vi x2), some (vi x3), some (vi x4), some (vi x5), some (vi x6), some (vi x7), some (vi x8)] [] σ rc rs := by
  refine sb_iload (pc' := 20) rfl rfl dX11_unlinked_18 ?_
  refine sb_aload_n (pc' := 21) rfl rfl dX11_unlinked_20 ?_
  refine sb_getI (pc' := 24) rfl fi_102_18 wd_1568 dX11_unlinked_21 ?_
  refine sb_icmp_ge (pc' := 27) (tgt := 57) rfl (by decide) hx8 (SR_sc hS _ _) dX11_unlinked_24 ?_ ?_
  · intro cc; have H := H.1 cc
    refine sb_iload (pc' := 59) rfl rfl dX11_unlinked_57 ?_
    refine sb_iload (pc' := 61) rfl rfl dX11_unlinked_59 ?_
    refine sb_if_eq (pc' := 64) (tgt := 68) rfl (by decide) hx7 dX11_unlinked_61 ?_ ?_
    · intro cc; have H := H.1 cc
      refine sb_iconst (pc' := 69) rfl dX11_unlinked_68 ?_
      refine sb_iadd (pc' := 70) rfl dX11_unlinked_69 ?_
      refine sb_istore (pc' := 72) rfl (L' := [some (.ref (ad 102)), some (vi x1), some (vi x2), some (vi x3), some (vi x4), some (vi (x5 + 1)), some (vi x6), some (vi x7), some (vi x8)]) rfl (by decide) dX11_unlinked_70 ?_
      refine sb_iinc (pc' := 75) rfl rfl (L' := [some (.ref (ad 102)), some (vi x1), some (vi x2), some (vi x3), some (vi x4), some (vi (x5 + 1)), some (vi (x6 + 1)), some (vi x7), some (vi x8)]) rfl (by decide) dX11_unlinked_72 ?_
      refine sb_goto (tgt := 6) (by decide) dX11_unlinked_75 ?_
      obtain ⟨o1, H⟩ := H
      obtain ⟨o2, H⟩ := H
      refine Wb.forget [true, true, true, true, true, true, true, false, false] ?_
      exact (H hx1 hx2 hx3 hx4 o1 o2 hS)
    · intro cc; have H := H.2 cc
      refine sb_iconst (pc' := 65) rfl dX11_unlinked_64 ?_
      refine sb_goto (tgt := 69) (by decide) dX11_unlinked_65 ?_
      refine sb_iadd (pc' := 70) rfl dX11_unlinked_69 ?_
      refine sb_istore (pc' := 72) rfl (L' := [some (.ref (ad 102)), some (vi x1), some (vi x2), some (vi x3), some (vi x4), some (vi (x5 + 0)), some (vi x6), some (vi x7), some (vi x8)]) rfl (by decide) dX11_unlinked_70 ?_
      refine sb_iinc (pc' := 75) rfl rfl (L' := [some (.ref (ad 102)), some (vi x1), some (vi x2), some (vi x3), some (vi x4), some (vi (x5 + 0)), some (vi (x6 + 1)), some (vi x7), some (vi x8)]) rfl (by decide) dX11_unlinked_72 ?_
      refine sb_goto (tgt := 6) (by decide) dX11_unlinked_75 ?_
      obtain ⟨o3, H⟩ := H
      obtain ⟨o4, H⟩ := H
      refine Wb.forget [true, true, true, true, true, true, true, false, false] ?_
      exact (H hx1 hx2 hx3 hx4 o3 o4 hS)
  · intro cc; have H := H.2 cc
    refine sb_iload (pc' := 29) rfl rfl dX11_unlinked_27 ?_
    refine sb_if_ne (pc' := 32) (tgt := 44) rfl (by decide) hx7 dX11_unlinked_29 ?_ ?_
    · intro cc; have H := H.1 cc
      refine sb_iconst (pc' := 45) rfl dX11_unlinked_44 ?_
      refine sb_goto (tgt := 49) (by decide) dX11_unlinked_45 ?_
      refine sb_istore (pc' := 51) rfl (L' := [some (.ref (ad 102)), some (vi x1), some (vi x2), some (vi x3), some (vi x4), some (vi x5), some (vi x6), some (vi 1), some (vi x8)]) rfl (by decide) dX11_unlinked_49 ?_
      refine sb_iinc (pc' := 54) rfl rfl (L' := [some (.ref (ad 102)), some (vi x1), some (vi x2), some (vi x3), some (vi x4), some (vi x5), some (vi x6), some (vi 1), some (vi (x8 + 1))]) rfl (by decide) dX11_unlinked_51 ?_
      refine sb_goto (tgt := 18) (by decide) dX11_unlinked_54 ?_
      obtain ⟨o5, H⟩ := H
      exact (H hx1 hx2 hx3 hx4 hx5 hx6 (iR_lit rfl) o5 hS)
    · intro cc; have H := H.2 cc
      refine sb_aload_n (pc' := 33) rfl rfl dX11_unlinked_32 ?_
      refine sb_getC (pc' := 36) rfl fc_102_16 wd_1566 dX11_unlinked_33 ?_
      refine sb_iload (pc' := 38) rfl rfl dX11_unlinked_36 ?_
      obtain ⟨o6, H⟩ := H
      refine sb_iald (pc' := 39) rfl aI_110 o6.1 o6.2 dX11_unlinked_38 ?_
      refine sb_iload (pc' := 41) rfl rfl dX11_unlinked_39 ?_
      refine sb_icmp_ne (pc' := 44) (tgt := 48) rfl (by decide) (SR_ia hS _ _) hx6 dX11_unlinked_41 ?_ ?_
      · intro cc; have H := H.1 cc
        refine sb_iconst (pc' := 49) rfl dX11_unlinked_48 ?_
        refine sb_istore (pc' := 51) rfl (L' := [some (.ref (ad 102)), some (vi x1), some (vi x2), some (vi x3), some (vi x4), some (vi x5), some (vi x6), some (vi 0), some (vi x8)]) rfl (by decide) dX11_unlinked_49 ?_
        refine sb_iinc (pc' := 54) rfl rfl (L' := [some (.ref (ad 102)), some (vi x1), some (vi x2), some (vi x3), some (vi x4), some (vi x5), some (vi x6), some (vi 0), some (vi (x8 + 1))]) rfl (by decide) dX11_unlinked_51 ?_
        refine sb_goto (tgt := 18) (by decide) dX11_unlinked_54 ?_
        obtain ⟨o7, H⟩ := H
        exact (H hx1 hx2 hx3 hx4 hx5 hx6 (iR_lit rfl) o7 hS)
      · intro cc; have H := H.2 cc
        refine sb_iconst (pc' := 45) rfl dX11_unlinked_44 ?_
        refine sb_goto (tgt := 49) (by decide) dX11_unlinked_45 ?_
        refine sb_istore (pc' := 51) rfl (L' := [some (.ref (ad 102)), some (vi x1), some (vi x2), some (vi x3), some (vi x4), some (vi x5), some (vi x6), some (vi 1), some (vi x8)]) rfl (by decide) dX11_unlinked_49 ?_
        refine sb_iinc (pc' := 54) rfl rfl (L' := [some (.ref (ad 102)), some (vi x1), some (vi x2), some (vi x3), some (vi x4), some (vi x5), some (vi x6), some (vi 1), some (vi (x8 + 1))]) rfl (by decide) dX11_unlinked_51 ?_
        refine sb_goto (tgt := 18) (by decide) dX11_unlinked_54 ?_
        obtain ⟨o8, H⟩ := H
        exact (H hx1 hx2 hx3 hx4 hx5 hx6 (iR_lit rfl) o8 hS)
theorem bX11_unlinked_81 {g : AG} {ad : Nat → Nat} {d : Nat} {Q : AO → SG → Prop} {rc rs : Nat} {σ : SG} {x1 x2 x3 x4 x5 x6 : Int}  (hx1 : iR x1) (hx2 : iR x2) (hx3 : iR x3) (hx4 : iR x4) (hx5 : iR x5) (hx6 : iR x6) (hS : SR σ) (H : ((x4 < x6 → (iR x5 → SR σ → Q (.inl (some (vi x5))) σ)) ∧ (¬ x4 < x6 → (iR x1 → iR x2 → iR x3 → iR x4 → iR x5 → iR x6 → iR 0 → iR 0 → SR σ → Wb g ad d mX11_unlinked Q 94 [some (.ref (ad 102)), some (vi x1), some (vi x2), some (vi x3), some (vi x4), some (vi x5), some (vi x6), some (vi 0), some (vi 0)] [] σ rc rs)))) : Wb g ad d mX11_unlinked Q 81 [some (.ref (ad 102)), some (vi x1), some (vi x2), some (vi x3), some (vi x4), some (vi x5), some (vi x6), none, none] [] σ rc rs := by
  refine sb_iload (pc' := 83) rfl rfl dX11_unlinked_81 ?_
  refine sb_iload (pc' := 85) rfl rfl dX11_unlinked_83 ?_
  refine sb_icmp_gt (pc' := 88) (tgt := 154) rfl (by decide) hx6 hx4 dX11_unlinked_85 ?_ ?_
  · intro cc; have H := H.1 cc
    refine sb_iload (pc' := 156) rfl rfl dX11_unlinked_154 ?_
    exact sb_iret rfl rfl dX11_unlinked_156 (H hx5 hS)
  · intro cc; have H := H.2 cc
    refine sb_iconst (pc' := 89) rfl dX11_unlinked_88 ?_
    refine sb_istore (pc' := 91) rfl (L' := [some (.ref (ad 102)), some (vi x1), some (vi x2), some (vi x3), some (vi x4), some (vi x5), some (vi x6), some (vi 0), none]) rfl (by decide) dX11_unlinked_89 ?_
    refine sb_iconst (pc' := 92) rfl dX11_unlinked_91 ?_
    refine sb_istore (pc' := 94) rfl (L' := [some (.ref (ad 102)), some (vi x1), some (vi x2), some (vi x3), some (vi x4), some (vi x5), some (vi x6), some (vi 0), some (vi 0)]) rfl (by decide) dX11_unlinked_92 ?_
    exact (H hx1 hx2 hx3 hx4 hx5 hx6 (iR_lit rfl) (iR_lit rfl) hS)
theorem bX11_unlinked_94 {g : AG} {ad : Nat → Nat} {d : Nat} {Q : AO → SG → Prop} {rc rs : Nat} {σ : SG} {x1 x2 x3 x4 x5 x6 x7 x8 : Int}  (hx1 : iR x1) (hx2 : iR x2) (hx3 : iR x3) (hx4 : iR x4) (hx5 : iR x5) (hx6 : iR x6) (hx7 : iR x7) (hx8 : iR x8) (hS : SR σ) (H : (((sc σ 102 18) ≤ x8 → ((x7 = 0 → iR (x5 + 1) ∧ iR (x6 + 1) ∧ (iR x1 → iR x2 → iR x3 → iR x4 → iR (x5 + 1) → iR (x6 + 1) → SR σ → Wb g ad d mX11_unlinked Q 81 [some (.ref (ad 102)), some (vi x1), some (vi x2), some (vi x3), some (vi x4), some (vi (x5 + 1)), some (vi (x6 + 1)), none, none] [] σ rc rs)) ∧ (¬ x7 = 0 → iR (x5 + 0) ∧ iR (x6 + 1) ∧ (iR x1 → iR x2 → iR x3 → iR x4 → iR (x5 + 0) → iR (x6 + 1) → SR σ → Wb g ad d mX11_unlinked Q 81 [some (.ref (ad 102)), some (vi x1), some (vi x2), some (vi x3), some (vi x4), some (vi (x5 + 0)), some (vi (x6 + 1)), none, none] [] σ rc rs)))) ∧ (¬ (sc σ 102 18) ≤ x8 → ((¬ x7 = 0 → iR (x8 + 1) ∧ (iR x1 → iR x2 → iR x3 → iR x4 → iR x5 → iR x6 → iR 1 → iR (x8 + 1) → SR σ → Wb g ad d mX11_unlinked Q 94 [some (.ref (ad 102)), some (vi x1), some (vi x2), some (vi x3), some (vi x4), some (vi x5), some (vi x6), some (vi 1), some (vi (x8 + 1))] [] σ rc rs)) ∧ (x7 = 0 → (0 ≤ x8 ∧ x8 < 12) ∧ ((¬ (ia σ 111 x8) = x6 → iR (x8 + 1) ∧ (iR x1 → iR x2 → iR x3 → iR x4 → iR x5 → iR x6 → iR 0 → iR (x8 + 1) → SR σ → Wb g ad d mX11_unlinked Q 94 [some (.ref (ad 102)), some (vi x1), some (vi x2), some (vi x3), some (vi x4), some (vi x5), some (vi x6), some (vi 0), some (vi (x8 + 1))] [] σ rc rs)) ∧ ((ia σ 111 x8) = x6 → iR (x8 + 1) ∧ (iR x1 → iR x2 → iR x3 → iR x4 → iR x5 → iR x6 → iR 1 → iR (x8 + 1) → SR σ → Wb g ad d mX11_unlinked Q 94 [some (.ref (ad 102)), some (vi x1), some (vi x2), some (vi x3), some (vi x4), some (vi x5), some (vi x6), some (vi 1), some (vi (x8 + 1))] [] σ rc rs)))))))) : Wb g ad d mX11_unlinked Q 94 [some (.ref (ad 102)), some (vi x1), some (vi x2), some (vi x3), some (vi x4), some (vi x5), some (vi x6), some (vi x7), some (vi x8)] [] σ rc rs := by
  refine sb_iload (pc' := 96) rfl rfl dX11_unlinked_94 ?_
  refine sb_aload_n (pc' := 97) rfl rfl dX11_unlinked_96 ?_
  refine sb_getI (pc' := 100) rfl fi_102_18 wd_1568 dX11_unlinked_97 ?_
  refine sb_icmp_ge (pc' := 103) (tgt := 133) rfl (by decide) hx8 (SR_sc hS _ _) dX11_unlinked_100 ?_ ?_
  · intro cc; have H := H.1 cc
    refine sb_iload (pc' := 135) rfl rfl dX11_unlinked_133 ?_
    refine sb_iload (pc' := 137) rfl rfl dX11_unlinked_135 ?_
    refine sb_if_eq (pc' := 140) (tgt := 144) rfl (by decide) hx7 dX11_unlinked_137 ?_ ?_
    · intro cc; have H := H.1 cc
      refine sb_iconst (pc' := 145) rfl dX11_unlinked_144 ?_
      refine sb_iadd (pc' := 146) rfl dX11_unlinked_145 ?_
      refine sb_istore (pc' := 148) rfl (L' := [some (.ref (ad 102)), some (vi x1), some (vi x2), some (vi x3), some (vi x4), some (vi (x5 + 1)), some (vi x6), some (vi x7), some (vi x8)]) rfl (by decide) dX11_unlinked_146 ?_
      refine sb_iinc (pc' := 151) rfl rfl (L' := [some (.ref (ad 102)), some (vi x1), some (vi x2), some (vi x3), some (vi x4), some (vi (x5 + 1)), some (vi (x6 + 1)), some (vi x7), some (vi x8)]) rfl (by decide) dX11_unlinked_148 ?_
      refine sb_goto (tgt := 81) (by decide) dX11_unlinked_151 ?_
      obtain ⟨o1, H⟩ := H
      obtain ⟨o2, H⟩ := H
      refine Wb.forget [true, true, true, true, true, true, true, false, false] ?_
      exact (H hx1 hx2 hx3 hx4 o1 o2 hS)
    · intro cc; have H := H.2 cc
      refine sb_iconst (pc' := 141) rfl dX11_unlinked_140 ?_
      refine sb_goto (tgt := 145) (by decide) dX11_unlinked_141 ?_
      refine sb_iadd (pc' := 146) rfl dX11_unlinked_145 ?_
      refine sb_istore (pc' := 148) rfl (L' := [some (.ref (ad 102)), some (vi x1), some (vi x2), some (vi x3), some (vi x4), some (vi (x5 + 0)), some (vi x6), some (vi x7), some (vi x8)]) rfl (by decide) dX11_unlinked_146 ?_
      refine sb_iinc (pc' := 151) rfl rfl (L' := [some (.ref (ad 102)), some (vi x1), some (vi x2), some (vi x3), some (vi x4), some (vi (x5 + 0)), some (vi (x6 + 1)), some (vi x7), some (vi x8)]) rfl (by decide) dX11_unlinked_148 ?_
      refine sb_goto (tgt := 81) (by decide) dX11_unlinked_151 ?_
      obtain ⟨o3, H⟩ := H
      obtain ⟨o4, H⟩ := H
      refine Wb.forget [true, true, true, true, true, true, true, false, false] ?_
      exact (H hx1 hx2 hx3 hx4 o3 o4 hS)
  · intro cc; have H := H.2 cc
    refine sb_iload (pc' := 105) rfl rfl dX11_unlinked_103 ?_
    refine sb_if_ne (pc' := 108) (tgt := 120) rfl (by decide) hx7 dX11_unlinked_105 ?_ ?_
    · intro cc; have H := H.1 cc
      refine sb_iconst (pc' := 121) rfl dX11_unlinked_120 ?_
      refine sb_goto (tgt := 125) (by decide) dX11_unlinked_121 ?_
      refine sb_istore (pc' := 127) rfl (L' := [some (.ref (ad 102)), some (vi x1), some (vi x2), some (vi x3), some (vi x4), some (vi x5), some (vi x6), some (vi 1), some (vi x8)]) rfl (by decide) dX11_unlinked_125 ?_
      refine sb_iinc (pc' := 130) rfl rfl (L' := [some (.ref (ad 102)), some (vi x1), some (vi x2), some (vi x3), some (vi x4), some (vi x5), some (vi x6), some (vi 1), some (vi (x8 + 1))]) rfl (by decide) dX11_unlinked_127 ?_
      refine sb_goto (tgt := 94) (by decide) dX11_unlinked_130 ?_
      obtain ⟨o5, H⟩ := H
      exact (H hx1 hx2 hx3 hx4 hx5 hx6 (iR_lit rfl) o5 hS)
    · intro cc; have H := H.2 cc
      refine sb_aload_n (pc' := 109) rfl rfl dX11_unlinked_108 ?_
      refine sb_getC (pc' := 112) rfl fc_102_17 wd_1567 dX11_unlinked_109 ?_
      refine sb_iload (pc' := 114) rfl rfl dX11_unlinked_112 ?_
      obtain ⟨o6, H⟩ := H
      refine sb_iald (pc' := 115) rfl aI_111 o6.1 o6.2 dX11_unlinked_114 ?_
      refine sb_iload (pc' := 117) rfl rfl dX11_unlinked_115 ?_
      refine sb_icmp_ne (pc' := 120) (tgt := 124) rfl (by decide) (SR_ia hS _ _) hx6 dX11_unlinked_117 ?_ ?_
      · intro cc; have H := H.1 cc
        refine sb_iconst (pc' := 125) rfl dX11_unlinked_124 ?_
        refine sb_istore (pc' := 127) rfl (L' := [some (.ref (ad 102)), some (vi x1), some (vi x2), some (vi x3), some (vi x4), some (vi x5), some (vi x6), some (vi 0), some (vi x8)]) rfl (by decide) dX11_unlinked_125 ?_
        refine sb_iinc (pc' := 130) rfl rfl (L' := [some (.ref (ad 102)), some (vi x1), some (vi x2), some (vi x3), some (vi x4), some (vi x5), some (vi x6), some (vi 0), some (vi (x8 + 1))]) rfl (by decide) dX11_unlinked_127 ?_
        refine sb_goto (tgt := 94) (by decide) dX11_unlinked_130 ?_
        obtain ⟨o7, H⟩ := H
        exact (H hx1 hx2 hx3 hx4 hx5 hx6 (iR_lit rfl) o7 hS)
      · intro cc; have H := H.2 cc
        refine sb_iconst (pc' := 121) rfl dX11_unlinked_120 ?_
        refine sb_goto (tgt := 125) (by decide) dX11_unlinked_121 ?_
        refine sb_istore (pc' := 127) rfl (L' := [some (.ref (ad 102)), some (vi x1), some (vi x2), some (vi x3), some (vi x4), some (vi x5), some (vi x6), some (vi 1), some (vi x8)]) rfl (by decide) dX11_unlinked_125 ?_
        refine sb_iinc (pc' := 130) rfl rfl (L' := [some (.ref (ad 102)), some (vi x1), some (vi x2), some (vi x3), some (vi x4), some (vi x5), some (vi x6), some (vi 1), some (vi (x8 + 1))]) rfl (by decide) dX11_unlinked_127 ?_
        refine sb_goto (tgt := 94) (by decide) dX11_unlinked_130 ?_
        obtain ⟨o8, H⟩ := H
        exact (H hx1 hx2 hx3 hx4 hx5 hx6 (iR_lit rfl) o8 hS)
theorem bX11_learns_0 {g : AG} {ad : Nat → Nat} {d : Nat} {Q : AO → SG → Prop} {rc rs : Nat} {σ : SG} {x1 x2 x3 x4 : Int}  (hx1 : iR x1) (hx2 : iR x2) (hx3 : iR x3) (hx4 : iR x4) (hS : SR σ) (H : iR ((x2 - x1) + 1) ∧ (iR x1 → iR x2 → iR x3 → iR x4 → iR x1 → SR (setI σ 107 0 ((x2 - x1) + 1)) → Wb g ad d mX11_learns Q 14 [some (.ref (ad 102)), some (vi x1), some (vi x2), some (vi x3), some (vi x4), some (vi x1), none] [] (setI σ 107 0 ((x2 - x1) + 1)) rc rs)) : Wb g ad d mX11_learns Q 0 [some (.ref (ad 102)), some (vi x1), some (vi x2), some (vi x3), some (vi x4), none, none] [] σ rc rs := by
  refine sb_aload_n (pc' := 1) rfl rfl dX11_learns_0 ?_
  refine sb_getC (pc' := 4) rfl fc_102_10 wd_1560 dX11_learns_1 ?_
  refine sb_iconst (pc' := 5) rfl dX11_learns_4 ?_
  refine sb_iload_n (pc' := 6) rfl rfl dX11_learns_5 ?_
  refine sb_iload_n (pc' := 7) rfl rfl dX11_learns_6 ?_
  refine sb_isub (pc' := 8) rfl dX11_learns_7 ?_
  refine sb_iconst (pc' := 9) rfl dX11_learns_8 ?_
  refine sb_iadd (pc' := 10) rfl dX11_learns_9 ?_
  obtain ⟨o1, H⟩ := H
  refine sb_iast (pc' := 11) rfl aI_107 (by decide) (by decide)  dX11_learns_10 ?_
  refine sb_iload_n (pc' := 12) rfl rfl dX11_learns_11 ?_
  refine sb_istore (pc' := 14) rfl (L' := [some (.ref (ad 102)), some (vi x1), some (vi x2), some (vi x3), some (vi x4), some (vi x1), none]) rfl (by decide) dX11_learns_12 ?_
  exact (H hx1 hx2 hx3 hx4 hx1 (SR_setI hS o1))
theorem bX11_learns_14 {g : AG} {ad : Nat → Nat} {d : Nat} {Q : AO → SG → Prop} {rc rs : Nat} {σ : SG} {x1 x2 x3 x4 x5 : Int}  (hx1 : iR x1) (hx2 : iR x2) (hx3 : iR x3) (hx4 : iR x4) (hx5 : iR x5) (hS : SR σ) (H : ((x2 < x5 → iR ((x4 - x3) + 1) ∧ (iR x1 → iR x2 → iR x3 → iR x4 → iR x3 → SR (setI σ 107 4 ((x4 - x3) + 1)) → Wb g ad d mX11_learns Q 59 [some (.ref (ad 102)), some (vi x1), some (vi x2), some (vi x3), some (vi x4), some (vi x3), none] [] (setI σ 107 4 ((x4 - x3) + 1)) rc rs)) ∧ (¬ x2 < x5 → (0 ≤ x5 ∧ x5 < 18) ∧ (0 ≤ (1 + x5) - x1 ∧ (1 + x5) - x1 < 120) ∧ iR (x5 + 1) ∧ (iR x1 → iR x2 → iR x3 → iR x4 → iR (x5 + 1) → SR (setI σ 107 ((1 + x5) - x1) (ia σ 109 x5)) → Wb g ad d mX11_learns Q 14 [some (.ref (ad 102)), some (vi x1), some (vi x2), some (vi x3), some (vi x4), some (vi (x5 + 1)), none] [] (setI σ 107 ((1 + x5) - x1) (ia σ 109 x5)) rc rs)))) : Wb g ad d mX11_learns Q 14 [some (.ref (ad 102)), some (vi x1), some (vi x2), some (vi x3), some (vi x4), some (vi x5), none] [] σ rc rs := by
  refine sb_iload (pc' := 16) rfl rfl dX11_learns_14 ?_
  refine sb_iload_n (pc' := 17) rfl rfl dX11_learns_16 ?_
  refine sb_icmp_gt (pc' := 20) (tgt := 44) rfl (by decide) hx5 hx2 dX11_learns_17 ?_ ?_
  · intro cc; have H := H.1 cc
    refine sb_aload_n (pc' := 45) rfl rfl dX11_learns_44 ?_
    refine sb_getC (pc' := 48) rfl fc_102_10 wd_1560 dX11_learns_45 ?_
    refine sb_iconst (pc' := 49) rfl dX11_learns_48 ?_
    refine sb_iload (pc' := 51) rfl rfl dX11_learns_49 ?_
    refine sb_iload_n (pc' := 52) rfl rfl dX11_learns_51 ?_
    refine sb_isub (pc' := 53) rfl dX11_learns_52 ?_
    refine sb_iconst (pc' := 54) rfl dX11_learns_53 ?_
    refine sb_iadd (pc' := 55) rfl dX11_learns_54 ?_
    obtain ⟨o1, H⟩ := H
    refine sb_iast (pc' := 56) rfl aI_107 (by decide) (by decide)  dX11_learns_55 ?_
    refine sb_iload_n (pc' := 57) rfl rfl dX11_learns_56 ?_
    refine sb_istore (pc' := 59) rfl (L' := [some (.ref (ad 102)), some (vi x1), some (vi x2), some (vi x3), some (vi x4), some (vi x3), none]) rfl (by decide) dX11_learns_57 ?_
    exact (H hx1 hx2 hx3 hx4 hx3 (SR_setI hS o1))
  · intro cc; have H := H.2 cc
    refine sb_aload_n (pc' := 21) rfl rfl dX11_learns_20 ?_
    refine sb_getC (pc' := 24) rfl fc_102_10 wd_1560 dX11_learns_21 ?_
    refine sb_iconst (pc' := 25) rfl dX11_learns_24 ?_
    refine sb_iload (pc' := 27) rfl rfl dX11_learns_25 ?_
    refine sb_iadd (pc' := 28) rfl dX11_learns_27 ?_
    refine sb_iload_n (pc' := 29) rfl rfl dX11_learns_28 ?_
    refine sb_isub (pc' := 30) rfl dX11_learns_29 ?_
    refine sb_aload_n (pc' := 31) rfl rfl dX11_learns_30 ?_
    refine sb_getC (pc' := 34) rfl fc_102_13 wd_1563 dX11_learns_31 ?_
    refine sb_iload (pc' := 36) rfl rfl dX11_learns_34 ?_
    obtain ⟨o2, H⟩ := H
    refine sb_iald (pc' := 37) rfl aI_109 o2.1 o2.2 dX11_learns_36 ?_
    obtain ⟨o3, H⟩ := H
    refine sb_iast (pc' := 38) rfl aI_107 o3.1 o3.2  dX11_learns_37 ?_
    refine sb_iinc (pc' := 41) rfl rfl (L' := [some (.ref (ad 102)), some (vi x1), some (vi x2), some (vi x3), some (vi x4), some (vi (x5 + 1)), none]) rfl (by decide) dX11_learns_38 ?_
    refine sb_goto (tgt := 14) (by decide) dX11_learns_41 ?_
    obtain ⟨o4, H⟩ := H
    exact (H hx1 hx2 hx3 hx4 o4 (SR_setI hS (SR_ia hS _ _)))
theorem bX11_learns_59 {g : AG} {ad : Nat → Nat} {d : Nat} {Q : AO → SG → Prop} {rc rs : Nat} {σ : SG} {x1 x2 x3 x4 x5 : Int}  (hx1 : iR x1) (hx2 : iR x2) (hx3 : iR x3) (hx4 : iR x4) (hx5 : iR x5) (hS : SR σ) (H : ((x4 < x5 → Cl g ad d mX11_alike 0 0 [(.ref (ad 102)), (.ref (ad 107)), (vi 0), (vi ((-1)))] σ (Ki fun r1 s1 => ((r1 = ((-1)) → ((¬ (ia s1 103 1) = 30 → Cl g ad d mX11_unlinked 0 0 [(.ref (ad 102)), (vi x1), (vi x2), (vi x3), (vi x4)] s1 (Ki fun r2 s2 => Cl g ad d mX11_comes 0 0 [(.ref (ad 102)), (vi 0), (vi (10 + (5 * r2)))] s2 (Kv fun s3 => (iR 1 → SR s3 → Q (.inl (some (vi 1))) s3)))) ∧ ((ia s1 103 1) = 30 → (iR 2 → SR s1 → Q (.inl (some (vi 2))) s1)))) ∧ (¬ r1 = ((-1)) → (0 ≤ (369 + (10 * r1)) + 8 ∧ (369 + (10 * r1)) + 8 < 855) ∧ (((ia s1 103 ((369 + (10 * r1)) + 8)) ≤ 0 → (iR 0 → SR (setI s1 103 ((369 + (10 * r1)) + 8) 0) → Q (.inl (some (vi 0))) (setI s1 103 ((369 + (10 * r1)) + 8) 0))) ∧ (¬ (ia s1 103 ((369 + (10 * r1)) + 8)) ≤ 0 → iR ((ia s1 103 ((369 + (10 * r1)) + 8)) - 1) ∧ (iR 0 → SR (setI s1 103 ((369 + (10 * r1)) + 8) ((ia s1 103 ((369 + (10 * r1)) + 8)) - 1)) → Q (.inl (some (vi 0))) (setI s1 103 ((369 + (10 * r1)) + 8) ((ia s1 103 ((369 + (10 * r1)) + 8)) - 1))))))))) ∧ (¬ x4 < x5 → (0 ≤ (sc σ 102 15) + x5 ∧ (sc σ 102 15) + x5 < 18) ∧ (0 ≤ (5 + x5) - x3 ∧ (5 + x5) - x3 < 120) ∧ iR (x5 + 1) ∧ (iR x1 → iR x2 → iR x3 → iR x4 → iR (x5 + 1) → SR (setI σ 107 ((5 + x5) - x3) (ia σ 109 ((sc σ 102 15) + x5))) → Wb g ad d mX11_learns Q 59 [some (.ref (ad 102)), some (vi x1), some (vi x2), some (vi x3), some (vi x4), some (vi (x5 + 1)), none] [] (setI σ 107 ((5 + x5) - x3) (ia σ 109 ((sc σ 102 15) + x5))) rc rs)))) : Wb g ad d mX11_learns Q 59 [some (.ref (ad 102)), some (vi x1), some (vi x2), some (vi x3), some (vi x4), some (vi x5), none] [] σ rc rs := by
  refine sb_iload (pc' := 61) rfl rfl dX11_learns_59 ?_
  refine sb_iload (pc' := 63) rfl rfl dX11_learns_61 ?_
  refine sb_icmp_gt (pc' := 66) (tgt := 95) rfl (by decide) hx5 hx4 dX11_learns_63 ?_ ?_
  · intro cc; have H := H.1 cc
    refine sb_aload_n (pc' := 96) rfl rfl dX11_learns_95 ?_
    refine sb_aload_n (pc' := 97) rfl rfl dX11_learns_96 ?_
    refine sb_getC (pc' := 100) rfl fc_102_10 wd_1560 dX11_learns_97 ?_
    refine sb_iconst (pc' := 101) rfl dX11_learns_100 ?_
    refine sb_iconst (pc' := 102) rfl dX11_learns_101 ?_
    obtain ⟨d1, hd1, H⟩ := H
    refine sb_callV (pc' := 105) rfl rfl (rc := rc) (rs := rs) (mc' := 0) (ms' := 0) (As := [(.ref (ad 107)), (vi 0), (vi ((-1)))]) (st := []) of_102 rfl rfl (Nat.le_of_ble_eq_true rfl) hd1 kX11_alike ⟨wd_1778, wd_1780, wd_111⟩ dX11_learns_102 (Eb.mono H ?_)
    rintro o s1 ⟨r1, rfl, hr1, hs1, H⟩
    show Wb g ad d mX11_learns Q 105 [some (.ref (ad 102)), some (vi x1), some (vi x2), some (vi x3), some (vi x4), some (vi x5), none] [(vi r1)] s1 rc rs
    refine sb_istore (pc' := 107) rfl (L' := [some (.ref (ad 102)), some (vi x1), some (vi x2), some (vi x3), some (vi x4), some (vi r1), none]) rfl (by decide) dX11_learns_105 ?_
    refine sb_iload (pc' := 109) rfl rfl dX11_learns_107 ?_
    refine sb_iconst (pc' := 110) rfl dX11_learns_109 ?_
    refine sb_icmp_eq (pc' := 113) (tgt := 159) rfl (by decide) hr1 (iR_lit rfl) dX11_learns_110 ?_ ?_
    · intro cc; have H := H.1 cc
      refine sb_aload_n (pc' := 160) rfl rfl dX11_learns_159 ?_
      refine sb_getC (pc' := 163) rfl fc_102_1 wd_1551 dX11_learns_160 ?_
      refine sb_iconst (pc' := 164) rfl dX11_learns_163 ?_
      refine sb_iald (pc' := 165) rfl aI_103 (by decide) (by decide) dX11_learns_164 ?_
      refine sb_bipush (pc' := 167) rfl (z := 30) (by decide) dX11_learns_165 ?_
      refine sb_icmp_ne (pc' := 170) (tgt := 172) rfl (by decide) (SR_ia hs1 _ _) (iR_lit rfl) dX11_learns_167 ?_ ?_
      · intro cc; have H := H.1 cc
        refine sb_aload_n (pc' := 173) rfl rfl dX11_learns_172 ?_
        refine sb_iconst (pc' := 174) rfl dX11_learns_173 ?_
        refine sb_bipush (pc' := 176) rfl (z := 10) (by decide) dX11_learns_174 ?_
        refine sb_iconst (pc' := 177) rfl dX11_learns_176 ?_
        refine sb_aload_n (pc' := 178) rfl rfl dX11_learns_177 ?_
        refine sb_iload_n (pc' := 179) rfl rfl dX11_learns_178 ?_
        refine sb_iload_n (pc' := 180) rfl rfl dX11_learns_179 ?_
        refine sb_iload_n (pc' := 181) rfl rfl dX11_learns_180 ?_
        refine sb_iload (pc' := 183) rfl rfl dX11_learns_181 ?_
        obtain ⟨d2, hd2, H⟩ := H
        refine sb_callV (pc' := 186) rfl rfl (rc := rc) (rs := rs) (mc' := 0) (ms' := 0) (As := [(vi x1), (vi x2), (vi x3), (vi x4)]) (st := [(vi 5), (vi 10), (vi 0), (.ref (ad 102))]) of_102 rfl rfl (Nat.le_of_ble_eq_true rfl) hd2 kX11_unlinked ⟨wd_1826, wd_1828, wd_120⟩ dX11_learns_183 (Eb.mono H ?_)
        rintro o s2 ⟨r2, rfl, hr2, hs2, H⟩
        show Wb g ad d mX11_learns Q 186 [some (.ref (ad 102)), some (vi x1), some (vi x2), some (vi x3), some (vi x4), some (vi r1), none] [(vi r2), (vi 5), (vi 10), (vi 0), (.ref (ad 102))] s2 rc rs
        refine sb_imul (pc' := 187) rfl dX11_learns_186 ?_
        refine sb_iadd (pc' := 188) rfl dX11_learns_187 ?_
        obtain ⟨d3, hd3, H⟩ := H
        refine sb_callV (pc' := 191) rfl rfl (rc := rc) (rs := rs) (mc' := 0) (ms' := 0) (As := [(vi 0), (vi (10 + (5 * r2)))]) (st := []) of_102 rfl rfl (Nat.le_of_ble_eq_true rfl) hd3 kX11_comes ⟨wd_1786, wd_1788, wd_113⟩ dX11_learns_188 (Eb.mono H ?_)
        rintro o s3 ⟨rfl, hs3, H⟩
        show Wb g ad d mX11_learns Q 191 [some (.ref (ad 102)), some (vi x1), some (vi x2), some (vi x3), some (vi x4), some (vi r1), none] [] s3 rc rs
        refine sb_iconst (pc' := 192) rfl dX11_learns_191 ?_
        exact sb_iret rfl rfl dX11_learns_192 (H (iR_lit rfl) hs3)
      · intro cc; have H := H.2 cc
        refine sb_iconst (pc' := 171) rfl dX11_learns_170 ?_
        exact sb_iret rfl rfl dX11_learns_171 (H (iR_lit rfl) hs1)
    · intro cc; have H := H.2 cc
      refine sb_sipush (pc' := 116) rfl (z := 369) (by decide) dX11_learns_113 ?_
      refine sb_bipush (pc' := 118) rfl (z := 10) (by decide) dX11_learns_116 ?_
      refine sb_iload (pc' := 120) rfl rfl dX11_learns_118 ?_
      refine sb_imul (pc' := 121) rfl dX11_learns_120 ?_
      refine sb_iadd (pc' := 122) rfl dX11_learns_121 ?_
      refine sb_bipush (pc' := 124) rfl (z := 8) (by decide) dX11_learns_122 ?_
      refine sb_iadd (pc' := 125) rfl dX11_learns_124 ?_
      refine sb_istore (pc' := 127) rfl (L' := [some (.ref (ad 102)), some (vi x1), some (vi x2), some (vi x3), some (vi x4), some (vi r1), some (vi ((369 + (10 * r1)) + 8))]) rfl (by decide) dX11_learns_125 ?_
      refine sb_aload_n (pc' := 128) rfl rfl dX11_learns_127 ?_
      refine sb_getC (pc' := 131) rfl fc_102_1 wd_1551 dX11_learns_128 ?_
      refine sb_iload (pc' := 133) rfl rfl dX11_learns_131 ?_
      refine sb_aload_n (pc' := 134) rfl rfl dX11_learns_133 ?_
      refine sb_getC (pc' := 137) rfl fc_102_1 wd_1551 dX11_learns_134 ?_
      refine sb_iload (pc' := 139) rfl rfl dX11_learns_137 ?_
      obtain ⟨o4, H⟩ := H
      refine sb_iald (pc' := 140) rfl aI_103 o4.1 o4.2 dX11_learns_139 ?_
      refine sb_if_le (pc' := 143) (tgt := 155) rfl (by decide) (SR_ia hs1 _ _) dX11_learns_140 ?_ ?_
      · intro cc; have H := H.1 cc
        refine sb_iconst (pc' := 156) rfl dX11_learns_155 ?_
        refine sb_iast (pc' := 157) rfl aI_103 o4.1 o4.2  dX11_learns_156 ?_
        refine sb_iconst (pc' := 158) rfl dX11_learns_157 ?_
        exact sb_iret rfl rfl dX11_learns_158 (H (iR_lit rfl) (SR_setI hs1 (iR_lit rfl)))
      · intro cc; have H := H.2 cc
        refine sb_aload_n (pc' := 144) rfl rfl dX11_learns_143 ?_
        refine sb_getC (pc' := 147) rfl fc_102_1 wd_1551 dX11_learns_144 ?_
        refine sb_iload (pc' := 149) rfl rfl dX11_learns_147 ?_
        refine sb_iald (pc' := 150) rfl aI_103 o4.1 o4.2 dX11_learns_149 ?_
        refine sb_iconst (pc' := 151) rfl dX11_learns_150 ?_
        refine sb_isub (pc' := 152) rfl dX11_learns_151 ?_
        refine sb_goto (tgt := 156) (by decide) dX11_learns_152 ?_
        obtain ⟨o5, H⟩ := H
        refine sb_iast (pc' := 157) rfl aI_103 o4.1 o4.2  dX11_learns_156 ?_
        refine sb_iconst (pc' := 158) rfl dX11_learns_157 ?_
        exact sb_iret rfl rfl dX11_learns_158 (H (iR_lit rfl) (SR_setI hs1 o5))
  · intro cc; have H := H.2 cc
    refine sb_aload_n (pc' := 67) rfl rfl dX11_learns_66 ?_
    refine sb_getC (pc' := 70) rfl fc_102_10 wd_1560 dX11_learns_67 ?_
    refine sb_iconst (pc' := 71) rfl dX11_learns_70 ?_
    refine sb_iload (pc' := 73) rfl rfl dX11_learns_71 ?_
    refine sb_iadd (pc' := 74) rfl dX11_learns_73 ?_
    refine sb_iload_n (pc' := 75) rfl rfl dX11_learns_74 ?_
    refine sb_isub (pc' := 76) rfl dX11_learns_75 ?_
    refine sb_aload_n (pc' := 77) rfl rfl dX11_learns_76 ?_
    refine sb_getC (pc' := 80) rfl fc_102_13 wd_1563 dX11_learns_77 ?_
    refine sb_aload_n (pc' := 81) rfl rfl dX11_learns_80 ?_
    refine sb_getI (pc' := 84) rfl fi_102_15 wd_1565 dX11_learns_81 ?_
    refine sb_iload (pc' := 86) rfl rfl dX11_learns_84 ?_
    refine sb_iadd (pc' := 87) rfl dX11_learns_86 ?_
    obtain ⟨o6, H⟩ := H
    refine sb_iald (pc' := 88) rfl aI_109 o6.1 o6.2 dX11_learns_87 ?_
    obtain ⟨o7, H⟩ := H
    refine sb_iast (pc' := 89) rfl aI_107 o7.1 o7.2  dX11_learns_88 ?_
    refine sb_iinc (pc' := 92) rfl rfl (L' := [some (.ref (ad 102)), some (vi x1), some (vi x2), some (vi x3), some (vi x4), some (vi (x5 + 1)), none]) rfl (by decide) dX11_learns_89 ?_
    refine sb_goto (tgt := 59) (by decide) dX11_learns_92 ?_
    obtain ⟨o8, H⟩ := H
    exact (H hx1 hx2 hx3 hx4 o8 (SR_setI hS (SR_ia hS _ _)))
theorem bX11_learn_0 {g : AG} {ad : Nat → Nat} {d : Nat} {Q : AO → SG → Prop} {rc rs : Nat} {σ : SG}    (hS : SR σ) (H : Cl g ad d mX11_begins 0 0 [(.ref (ad 102))] σ (Kv fun s1 => Cl g ad d mX11_lesson 0 0 [(.ref (ad 102))] s1 (Kv fun s2 => Cl g ad d mX11_isRight 0 0 [(.ref (ad 102))] s2 (Ki fun r3 s3 => ((¬ r3 = 0 → (iR 0 → iR 0 → iR 0 → SR s3 → Wb g ad d mX11_learn Q 23 [some (.ref (ad 102)), some (vi 0), some (vi 0), some (vi 0), none, none, none, none] [] s3 rc rs)) ∧ (r3 = 0 → (iR 0 → SR s3 → Q (.inl (some (vi 0))) s3))))))) : Wb g ad d mX11_learn Q 0 [some (.ref (ad 102)), none, none, none, none, none, none, none] [] σ rc rs := by
  refine sb_aload_n (pc' := 1) rfl rfl dX11_learn_0 ?_
  obtain ⟨d1, hd1, H⟩ := H
  refine sb_callV (pc' := 4) rfl rfl (rc := rc) (rs := rs) (mc' := 0) (ms' := 0) (As := []) (st := []) of_102 rfl rfl (Nat.le_of_ble_eq_true rfl) hd1 kX11_begins ⟨wd_1726, wd_1728, wd_98⟩ dX11_learn_1 (Eb.mono H ?_)
  rintro o s1 ⟨rfl, hs1, H⟩
  show Wb g ad d mX11_learn Q 4 [some (.ref (ad 102)), none, none, none, none, none, none, none] [] s1 rc rs
  refine sb_aload_n (pc' := 5) rfl rfl dX11_learn_4 ?_
  obtain ⟨d2, hd2, H⟩ := H
  refine sb_callV (pc' := 8) rfl rfl (rc := rc) (rs := rs) (mc' := 0) (ms' := 0) (As := []) (st := []) of_102 rfl rfl (Nat.le_of_ble_eq_true rfl) hd2 kX11_lesson ⟨wd_1810, wd_1812, wd_116⟩ dX11_learn_5 (Eb.mono H ?_)
  rintro o s2 ⟨rfl, hs2, H⟩
  show Wb g ad d mX11_learn Q 8 [some (.ref (ad 102)), none, none, none, none, none, none, none] [] s2 rc rs
  refine sb_aload_n (pc' := 9) rfl rfl dX11_learn_8 ?_
  obtain ⟨d3, hd3, H⟩ := H
  refine sb_callV (pc' := 12) rfl rfl (rc := rc) (rs := rs) (mc' := 0) (ms' := 0) (As := []) (st := []) of_102 rfl rfl (Nat.le_of_ble_eq_true rfl) hd3 kX11_isRight ⟨wd_1790, wd_1792, wd_114⟩ dX11_learn_9 (Eb.mono H ?_)
  rintro o s3 ⟨r3, rfl, hr3, hs3, H⟩
  show Wb g ad d mX11_learn Q 12 [some (.ref (ad 102)), none, none, none, none, none, none, none] [(vi r3)] s3 rc rs
  refine sb_if_ne (pc' := 15) (tgt := 17) rfl (by decide) hr3 dX11_learn_12 ?_ ?_
  · intro cc; have H := H.1 cc
    refine sb_iconst (pc' := 18) rfl dX11_learn_17 ?_
    refine sb_istore_n (pc' := 19) rfl (L' := [some (.ref (ad 102)), some (vi 0), none, none, none, none, none, none]) rfl (by decide) dX11_learn_18 ?_
    refine sb_iconst (pc' := 20) rfl dX11_learn_19 ?_
    refine sb_istore_n (pc' := 21) rfl (L' := [some (.ref (ad 102)), some (vi 0), some (vi 0), none, none, none, none, none]) rfl (by decide) dX11_learn_20 ?_
    refine sb_iconst (pc' := 22) rfl dX11_learn_21 ?_
    refine sb_istore_n (pc' := 23) rfl (L' := [some (.ref (ad 102)), some (vi 0), some (vi 0), some (vi 0), none, none, none, none]) rfl (by decide) dX11_learn_22 ?_
    exact (H (iR_lit rfl) (iR_lit rfl) (iR_lit rfl) hs3)
  · intro cc; have H := H.2 cc
    refine sb_iconst (pc' := 16) rfl dX11_learn_15 ?_
    exact sb_iret rfl rfl dX11_learn_16 (H (iR_lit rfl) hs3)
theorem bX11_learn_23 {g : AG} {ad : Nat → Nat} {d : Nat} {Q : AO → SG → Prop} {rc rs : Nat} {σ : SG} {x1 x2 x3 : Int}  (hx1 : iR x1) (hx2 : iR x2) (hx3 : iR x3) (hS : SR σ) (H : (((sc σ 102 15) ≤ x3 → ((¬ x2 = 0 → (iR x1 → iR x2 → iR 0 → SR (setS σ 102 0 2) → Wb g ad d mX11_learn Q 191 [some (.ref (ad 102)), some (vi x1), some (vi x2), some (vi 0), none, none, none, none] [] (setS σ 102 0 2) rc rs)) ∧ (x2 = 0 → (iR x1 → SR σ → Q (.inl (some (vi x1))) σ)))) ∧ (¬ (sc σ 102 15) ≤ x3 → (iR x1 → iR x2 → iR x3 → iR x3 → SR σ → Wb g ad d mX11_learn Q 34 [some (.ref (ad 102)), some (vi x1), some (vi x2), some (vi x3), some (vi x3), none, none, none] [] σ rc rs)))) : Wb g ad d mX11_learn Q 23 [some (.ref (ad 102)), some (vi x1), some (vi x2), some (vi x3), none, none, none, none] [] σ rc rs := by
  refine sb_iload_n (pc' := 24) rfl rfl dX11_learn_23 ?_
  refine sb_aload_n (pc' := 25) rfl rfl dX11_learn_24 ?_
  refine sb_getI (pc' := 28) rfl fi_102_15 wd_1565 dX11_learn_25 ?_
  refine sb_icmp_ge (pc' := 31) (tgt := 178) rfl (by decide) hx3 (SR_sc hS _ _) dX11_learn_28 ?_ ?_
  · intro cc; have H := H.1 cc
    refine sb_iload_n (pc' := 179) rfl rfl dX11_learn_178 ?_
    refine sb_if_ne (pc' := 182) (tgt := 184) rfl (by decide) hx2 dX11_learn_179 ?_ ?_
    · intro cc; have H := H.1 cc
      refine sb_aload_n (pc' := 185) rfl rfl dX11_learn_184 ?_
      refine sb_iconst (pc' := 186) rfl dX11_learn_185 ?_
      refine sb_putI (pc' := 189) rfl fi_102_0 (Or.inl rfl) wd_1550 dX11_learn_186 ?_
      refine sb_iconst (pc' := 190) rfl dX11_learn_189 ?_
      refine sb_istore_n (pc' := 191) rfl (L' := [some (.ref (ad 102)), some (vi x1), some (vi x2), some (vi 0), none, none, none, none]) rfl (by decide) dX11_learn_190 ?_
      exact (H hx1 hx2 (iR_lit rfl) (SR_setS hS (iR_lit rfl)))
    · intro cc; have H := H.2 cc
      refine sb_iload_n (pc' := 183) rfl rfl dX11_learn_182 ?_
      exact sb_iret rfl rfl dX11_learn_183 (H hx1 hS)
  · intro cc; have H := H.2 cc
    refine sb_iload_n (pc' := 32) rfl rfl dX11_learn_31 ?_
    refine sb_istore (pc' := 34) rfl (L' := [some (.ref (ad 102)), some (vi x1), some (vi x2), some (vi x3), some (vi x3), none, none, none]) rfl (by decide) dX11_learn_32 ?_
    exact (H hx1 hx2 hx3 hx3 hS)
theorem bX11_learn_34 {g : AG} {ad : Nat → Nat} {d : Nat} {Q : AO → SG → Prop} {rc rs : Nat} {σ : SG} {x1 x2 x3 x4 : Int}  (hx1 : iR x1) (hx2 : iR x2) (hx3 : iR x3) (hx4 : iR x4) (hS : SR σ) (H : (((sc σ 102 15) ≤ x4 → iR (x3 + 1) ∧ (iR x1 → iR x2 → iR (x3 + 1) → SR σ → Wb g ad d mX11_learn Q 23 [some (.ref (ad 102)), some (vi x1), some (vi x2), some (vi (x3 + 1)), none, none, none, none] [] σ rc rs)) ∧ (¬ (sc σ 102 15) ≤ x4 → iR (x3 + 3) ∧ (((x3 + 3) ≤ x4 → iR (x3 + 1) ∧ (iR x1 → iR x2 → iR (x3 + 1) → SR σ → Wb g ad d mX11_learn Q 23 [some (.ref (ad 102)), some (vi x1), some (vi x2), some (vi (x3 + 1)), none, none, none, none] [] σ rc rs)) ∧ (¬ (x3 + 3) ≤ x4 → (iR x1 → iR x2 → iR x3 → iR x4 → iR 0 → SR σ → Wb g ad d mX11_learn Q 54 [some (.ref (ad 102)), some (vi x1), some (vi x2), some (vi x3), some (vi x4), some (vi 0), none, none] [] σ rc rs)))))) : Wb g ad d mX11_learn Q 34 [some (.ref (ad 102)), some (vi x1), some (vi x2), some (vi x3), some (vi x4), none, none, none] [] σ rc rs := by
  refine sb_iload (pc' := 36) rfl rfl dX11_learn_34 ?_
  refine sb_aload_n (pc' := 37) rfl rfl dX11_learn_36 ?_
  refine sb_getI (pc' := 40) rfl fi_102_15 wd_1565 dX11_learn_37 ?_
  refine sb_icmp_ge (pc' := 43) (tgt := 172) rfl (by decide) hx4 (SR_sc hS _ _) dX11_learn_40 ?_ ?_
  · intro cc; have H := H.1 cc
    refine sb_iinc (pc' := 175) rfl rfl (L' := [some (.ref (ad 102)), some (vi x1), some (vi x2), some (vi (x3 + 1)), some (vi x4), none, none, none]) rfl (by decide) dX11_learn_172 ?_
    refine sb_goto (tgt := 23) (by decide) dX11_learn_175 ?_
    obtain ⟨o1, H⟩ := H
    refine Wb.forget [true, true, true, true, false, false, false, false] ?_
    exact (H hx1 hx2 o1 hS)
  · intro cc; have H := H.2 cc
    refine sb_iload (pc' := 45) rfl rfl dX11_learn_43 ?_
    refine sb_iload_n (pc' := 46) rfl rfl dX11_learn_45 ?_
    refine sb_iconst (pc' := 47) rfl dX11_learn_46 ?_
    refine sb_iadd (pc' := 48) rfl dX11_learn_47 ?_
    obtain ⟨o2, H⟩ := H
    refine sb_icmp_ge (pc' := 51) (tgt := 172) rfl (by decide) hx4 o2 dX11_learn_48 ?_ ?_
    · intro cc; have H := H.1 cc
      refine sb_iinc (pc' := 175) rfl rfl (L' := [some (.ref (ad 102)), some (vi x1), some (vi x2), some (vi (x3 + 1)), some (vi x4), none, none, none]) rfl (by decide) dX11_learn_172 ?_
      refine sb_goto (tgt := 23) (by decide) dX11_learn_175 ?_
      obtain ⟨o3, H⟩ := H
      refine Wb.forget [true, true, true, true, false, false, false, false] ?_
      exact (H hx1 hx2 o3 hS)
    · intro cc; have H := H.2 cc
      refine sb_iconst (pc' := 52) rfl dX11_learn_51 ?_
      refine sb_istore (pc' := 54) rfl (L' := [some (.ref (ad 102)), some (vi x1), some (vi x2), some (vi x3), some (vi x4), some (vi 0), none, none]) rfl (by decide) dX11_learn_52 ?_
      exact (H hx1 hx2 hx3 hx4 (iR_lit rfl) hS)
theorem bX11_learn_54 {g : AG} {ad : Nat → Nat} {d : Nat} {Q : AO → SG → Prop} {rc rs : Nat} {σ : SG} {x1 x2 x3 x4 x5 : Int}  (hx1 : iR x1) (hx2 : iR x2) (hx3 : iR x3) (hx4 : iR x4) (hx5 : iR x5) (hS : SR σ) (H : iR ((sc σ 102 14) - (sc σ 102 15)) ∧ ((((sc σ 102 14) - (sc σ 102 15)) ≤ x5 → iR (x4 + 1) ∧ (iR x1 → iR x2 → iR x3 → iR (x4 + 1) → SR σ → Wb g ad d mX11_learn Q 34 [some (.ref (ad 102)), some (vi x1), some (vi x2), some (vi x3), some (vi (x4 + 1)), none, none, none] [] σ rc rs)) ∧ (¬ ((sc σ 102 14) - (sc σ 102 15)) ≤ x5 → (iR x1 → iR x2 → iR x3 → iR x4 → iR x5 → iR x5 → SR σ → Wb g ad d mX11_learn Q 72 [some (.ref (ad 102)), some (vi x1), some (vi x2), some (vi x3), some (vi x4), some (vi x5), some (vi x5), none] [] σ rc rs)))) : Wb g ad d mX11_learn Q 54 [some (.ref (ad 102)), some (vi x1), some (vi x2), some (vi x3), some (vi x4), some (vi x5), none, none] [] σ rc rs := by
  refine sb_iload (pc' := 56) rfl rfl dX11_learn_54 ?_
  refine sb_aload_n (pc' := 57) rfl rfl dX11_learn_56 ?_
  refine sb_getI (pc' := 60) rfl fi_102_14 wd_1564 dX11_learn_57 ?_
  refine sb_aload_n (pc' := 61) rfl rfl dX11_learn_60 ?_
  refine sb_getI (pc' := 64) rfl fi_102_15 wd_1565 dX11_learn_61 ?_
  refine sb_isub (pc' := 65) rfl dX11_learn_64 ?_
  obtain ⟨o1, H⟩ := H
  refine sb_icmp_ge (pc' := 68) (tgt := 166) rfl (by decide) hx5 o1 dX11_learn_65 ?_ ?_
  · intro cc; have H := H.1 cc
    refine sb_iinc (pc' := 169) rfl rfl (L' := [some (.ref (ad 102)), some (vi x1), some (vi x2), some (vi x3), some (vi (x4 + 1)), some (vi x5), none, none]) rfl (by decide) dX11_learn_166 ?_
    refine sb_goto (tgt := 34) (by decide) dX11_learn_169 ?_
    obtain ⟨o2, H⟩ := H
    refine Wb.forget [true, true, true, true, true, false, false, false] ?_
    exact (H hx1 hx2 hx3 o2 hS)
  · intro cc; have H := H.2 cc
    refine sb_iload (pc' := 70) rfl rfl dX11_learn_68 ?_
    refine sb_istore (pc' := 72) rfl (L' := [some (.ref (ad 102)), some (vi x1), some (vi x2), some (vi x3), some (vi x4), some (vi x5), some (vi x5), none]) rfl (by decide) dX11_learn_70 ?_
    exact (H hx1 hx2 hx3 hx4 hx5 hx5 hS)
theorem bX11_learn_72 {g : AG} {ad : Nat → Nat} {d : Nat} {Q : AO → SG → Prop} {rc rs : Nat} {σ : SG} {x1 x2 x3 x4 x5 x6 : Int}  (hx1 : iR x1) (hx2 : iR x2) (hx3 : iR x3) (hx4 : iR x4) (hx5 : iR x5) (hx6 : iR x6) (hS : SR σ) (H : iR ((sc σ 102 14) - (sc σ 102 15)) ∧ ((((sc σ 102 14) - (sc σ 102 15)) ≤ x6 → iR (x5 + 1) ∧ (iR x1 → iR x2 → iR x3 → iR x4 → iR (x5 + 1) → SR σ → Wb g ad d mX11_learn Q 54 [some (.ref (ad 102)), some (vi x1), some (vi x2), some (vi x3), some (vi x4), some (vi (x5 + 1)), none, none] [] σ rc rs)) ∧ (¬ ((sc σ 102 14) - (sc σ 102 15)) ≤ x6 → iR (x5 + 3) ∧ (((x5 + 3) ≤ x6 → iR (x5 + 1) ∧ (iR x1 → iR x2 → iR x3 → iR x4 → iR (x5 + 1) → SR σ → Wb g ad d mX11_learn Q 54 [some (.ref (ad 102)), some (vi x1), some (vi x2), some (vi x3), some (vi x4), some (vi (x5 + 1)), none, none] [] σ rc rs)) ∧ (¬ (x5 + 3) ≤ x6 → ((¬ x2 = 0 → iR (x6 + 1) ∧ (iR x1 → iR x2 → iR x3 → iR x4 → iR x5 → iR (x6 + 1) → SR σ → Wb g ad d mX11_learn Q 72 [some (.ref (ad 102)), some (vi x1), some (vi x2), some (vi x3), some (vi x4), some (vi x5), some (vi (x6 + 1)), none] [] σ rc rs)) ∧ (x2 = 0 → Cl g ad d mX11_goTogether 0 0 [(.ref (ad 102)), (vi x3), (vi x4), (vi x5), (vi x6)] σ (Ki fun r6 s6 => ((¬ r6 = 0 → Cl g ad d mX11_learns 0 0 [(.ref (ad 102)), (vi x3), (vi x4), (vi x5), (vi x6)] s6 (Ki fun r7 s7 => ((¬ r7 = 2 → iR (x1 + r7) ∧ iR (x6 + 1) ∧ (iR (x1 + r7) → iR 0 → iR x3 → iR x4 → iR x5 → iR (x6 + 1) → SR s7 → Wb g ad d mX11_learn Q 72 [some (.ref (ad 102)), some (vi (x1 + r7)), some (vi 0), some (vi x3), some (vi x4), some (vi x5), some (vi (x6 + 1)), none] [] s7 rc rs)) ∧ (r7 = 2 → iR (x1 + 0) ∧ iR (x6 + 1) ∧ (iR (x1 + 0) → iR 1 → iR x3 → iR x4 → iR x5 → iR (x6 + 1) → SR s7 → Wb g ad d mX11_learn Q 72 [some (.ref (ad 102)), some (vi (x1 + 0)), some (vi 1), some (vi x3), some (vi x4), some (vi x5), some (vi (x6 + 1)), none] [] s7 rc rs))))) ∧ (r6 = 0 → iR (x6 + 1) ∧ (iR x1 → iR x2 → iR x3 → iR x4 → iR x5 → iR (x6 + 1) → SR s6 → Wb g ad d mX11_learn Q 72 [some (.ref (ad 102)), some (vi x1), some (vi x2), some (vi x3), some (vi x4), some (vi x5), some (vi (x6 + 1)), none] [] s6 rc rs))))))))))) : Wb g ad d mX11_learn Q 72 [some (.ref (ad 102)), some (vi x1), some (vi x2), some (vi x3), some (vi x4), some (vi x5), some (vi x6), none] [] σ rc rs := by
  refine sb_iload (pc' := 74) rfl rfl dX11_learn_72 ?_
  refine sb_aload_n (pc' := 75) rfl rfl dX11_learn_74 ?_
  refine sb_getI (pc' := 78) rfl fi_102_14 wd_1564 dX11_learn_75 ?_
  refine sb_aload_n (pc' := 79) rfl rfl dX11_learn_78 ?_
  refine sb_getI (pc' := 82) rfl fi_102_15 wd_1565 dX11_learn_79 ?_
  refine sb_isub (pc' := 83) rfl dX11_learn_82 ?_
  obtain ⟨o1, H⟩ := H
  refine sb_icmp_ge (pc' := 86) (tgt := 160) rfl (by decide) hx6 o1 dX11_learn_83 ?_ ?_
  · intro cc; have H := H.1 cc
    refine sb_iinc (pc' := 163) rfl rfl (L' := [some (.ref (ad 102)), some (vi x1), some (vi x2), some (vi x3), some (vi x4), some (vi (x5 + 1)), some (vi x6), none]) rfl (by decide) dX11_learn_160 ?_
    refine sb_goto (tgt := 54) (by decide) dX11_learn_163 ?_
    obtain ⟨o2, H⟩ := H
    refine Wb.forget [true, true, true, true, true, true, false, false] ?_
    exact (H hx1 hx2 hx3 hx4 o2 hS)
  · intro cc; have H := H.2 cc
    refine sb_iload (pc' := 88) rfl rfl dX11_learn_86 ?_
    refine sb_iload (pc' := 90) rfl rfl dX11_learn_88 ?_
    refine sb_iconst (pc' := 91) rfl dX11_learn_90 ?_
    refine sb_iadd (pc' := 92) rfl dX11_learn_91 ?_
    obtain ⟨o3, H⟩ := H
    refine sb_icmp_ge (pc' := 95) (tgt := 160) rfl (by decide) hx6 o3 dX11_learn_92 ?_ ?_
    · intro cc; have H := H.1 cc
      refine sb_iinc (pc' := 163) rfl rfl (L' := [some (.ref (ad 102)), some (vi x1), some (vi x2), some (vi x3), some (vi x4), some (vi (x5 + 1)), some (vi x6), none]) rfl (by decide) dX11_learn_160 ?_
      refine sb_goto (tgt := 54) (by decide) dX11_learn_163 ?_
      obtain ⟨o4, H⟩ := H
      refine Wb.forget [true, true, true, true, true, true, false, false] ?_
      exact (H hx1 hx2 hx3 hx4 o4 hS)
    · intro cc; have H := H.2 cc
      refine sb_iload_n (pc' := 96) rfl rfl dX11_learn_95 ?_
      refine sb_if_ne (pc' := 99) (tgt := 154) rfl (by decide) hx2 dX11_learn_96 ?_ ?_
      · intro cc; have H := H.1 cc
        refine sb_iinc (pc' := 157) rfl rfl (L' := [some (.ref (ad 102)), some (vi x1), some (vi x2), some (vi x3), some (vi x4), some (vi x5), some (vi (x6 + 1)), none]) rfl (by decide) dX11_learn_154 ?_
        refine sb_goto (tgt := 72) (by decide) dX11_learn_157 ?_
        obtain ⟨o5, H⟩ := H
        exact (H hx1 hx2 hx3 hx4 hx5 o5 hS)
      · intro cc; have H := H.2 cc
        refine sb_aload_n (pc' := 100) rfl rfl dX11_learn_99 ?_
        refine sb_iload_n (pc' := 101) rfl rfl dX11_learn_100 ?_
        refine sb_iload (pc' := 103) rfl rfl dX11_learn_101 ?_
        refine sb_iload (pc' := 105) rfl rfl dX11_learn_103 ?_
        refine sb_iload (pc' := 107) rfl rfl dX11_learn_105 ?_
        obtain ⟨d6, hd6, H⟩ := H
        refine sb_callV (pc' := 110) rfl rfl (rc := rc) (rs := rs) (mc' := 0) (ms' := 0) (As := [(vi x3), (vi x4), (vi x5), (vi x6)]) (st := []) of_102 rfl rfl (Nat.le_of_ble_eq_true rfl) hd6 kX11_goTogether ⟨wd_1818, wd_1820, wd_118⟩ dX11_learn_107 (Eb.mono H ?_)
        rintro o s6 ⟨r6, rfl, hr6, hs6, H⟩
        show Wb g ad d mX11_learn Q 110 [some (.ref (ad 102)), some (vi x1), some (vi x2), some (vi x3), some (vi x4), some (vi x5), some (vi x6), none] [(vi r6)] s6 rc rs
        refine sb_if_ne (pc' := 113) (tgt := 116) rfl (by decide) hr6 dX11_learn_110 ?_ ?_
        · intro cc; have H := H.1 cc
          refine sb_aload_n (pc' := 117) rfl rfl dX11_learn_116 ?_
          refine sb_iload_n (pc' := 118) rfl rfl dX11_learn_117 ?_
          refine sb_iload (pc' := 120) rfl rfl dX11_learn_118 ?_
          refine sb_iload (pc' := 122) rfl rfl dX11_learn_120 ?_
          refine sb_iload (pc' := 124) rfl rfl dX11_learn_122 ?_
          obtain ⟨d7, hd7, H⟩ := H
          refine sb_callV (pc' := 127) rfl rfl (rc := rc) (rs := rs) (mc' := 0) (ms' := 0) (As := [(vi x3), (vi x4), (vi x5), (vi x6)]) (st := []) of_102 rfl rfl (Nat.le_of_ble_eq_true rfl) hd7 kX11_learns ⟨wd_1822, wd_1824, wd_119⟩ dX11_learn_124 (Eb.mono H ?_)
          rintro o s7 ⟨r7, rfl, hr7, hs7, H⟩
          show Wb g ad d mX11_learn Q 127 [some (.ref (ad 102)), some (vi x1), some (vi x2), some (vi x3), some (vi x4), some (vi x5), some (vi x6), none] [(vi r7)] s7 rc rs
          refine sb_istore (pc' := 129) rfl (L' := [some (.ref (ad 102)), some (vi x1), some (vi x2), some (vi x3), some (vi x4), some (vi x5), some (vi x6), some (vi r7)]) rfl (by decide) dX11_learn_127 ?_
          refine sb_iload (pc' := 131) rfl rfl dX11_learn_129 ?_
          refine sb_iconst (pc' := 132) rfl dX11_learn_131 ?_
          refine sb_icmp_ne (pc' := 135) (tgt := 139) rfl (by decide) hr7 (iR_lit rfl) dX11_learn_132 ?_ ?_
          · intro cc; have H := H.1 cc
            refine sb_iconst (pc' := 140) rfl dX11_learn_139 ?_
            refine sb_istore_n (pc' := 141) rfl (L' := [some (.ref (ad 102)), some (vi x1), some (vi 0), some (vi x3), some (vi x4), some (vi x5), some (vi x6), some (vi r7)]) rfl (by decide) dX11_learn_140 ?_
            refine sb_iload_n (pc' := 142) rfl rfl dX11_learn_141 ?_
            refine sb_iload_n (pc' := 143) rfl rfl dX11_learn_142 ?_
            refine sb_if_eq (pc' := 146) (tgt := 150) rfl (by decide) (iR_lit rfl) dX11_learn_143 ?_ ?_
            · intro cc
              refine sb_iload (pc' := 152) rfl rfl dX11_learn_150 ?_
              refine sb_iadd (pc' := 153) rfl dX11_learn_152 ?_
              refine sb_istore_n (pc' := 154) rfl (L' := [some (.ref (ad 102)), some (vi (x1 + r7)), some (vi 0), some (vi x3), some (vi x4), some (vi x5), some (vi x6), some (vi r7)]) rfl (by decide) dX11_learn_153 ?_
              refine sb_iinc (pc' := 157) rfl rfl (L' := [some (.ref (ad 102)), some (vi (x1 + r7)), some (vi 0), some (vi x3), some (vi x4), some (vi x5), some (vi (x6 + 1)), some (vi r7)]) rfl (by decide) dX11_learn_154 ?_
              refine sb_goto (tgt := 72) (by decide) dX11_learn_157 ?_
              obtain ⟨o8, H⟩ := H
              obtain ⟨o9, H⟩ := H
              refine Wb.forget [true, true, true, true, true, true, true, false] ?_
              exact (H o8 (iR_lit rfl) hx3 hx4 hx5 o9 hs7)
            · intro cc; exact absurd cc (by decide)
          · intro cc; have H := H.2 cc
            refine sb_iconst (pc' := 136) rfl dX11_learn_135 ?_
            refine sb_goto (tgt := 140) (by decide) dX11_learn_136 ?_
            refine sb_istore_n (pc' := 141) rfl (L' := [some (.ref (ad 102)), some (vi x1), some (vi 1), some (vi x3), some (vi x4), some (vi x5), some (vi x6), some (vi r7)]) rfl (by decide) dX11_learn_140 ?_
            refine sb_iload_n (pc' := 142) rfl rfl dX11_learn_141 ?_
            refine sb_iload_n (pc' := 143) rfl rfl dX11_learn_142 ?_
            refine sb_if_eq (pc' := 146) (tgt := 150) rfl (by decide) (iR_lit rfl) dX11_learn_143 ?_ ?_
            · intro cc; exact absurd cc (by decide)
            · intro cc
              refine sb_iconst (pc' := 147) rfl dX11_learn_146 ?_
              refine sb_goto (tgt := 152) (by decide) dX11_learn_147 ?_
              refine sb_iadd (pc' := 153) rfl dX11_learn_152 ?_
              refine sb_istore_n (pc' := 154) rfl (L' := [some (.ref (ad 102)), some (vi (x1 + 0)), some (vi 1), some (vi x3), some (vi x4), some (vi x5), some (vi x6), some (vi r7)]) rfl (by decide) dX11_learn_153 ?_
              refine sb_iinc (pc' := 157) rfl rfl (L' := [some (.ref (ad 102)), some (vi (x1 + 0)), some (vi 1), some (vi x3), some (vi x4), some (vi x5), some (vi (x6 + 1)), some (vi r7)]) rfl (by decide) dX11_learn_154 ?_
              refine sb_goto (tgt := 72) (by decide) dX11_learn_157 ?_
              obtain ⟨o10, H⟩ := H
              obtain ⟨o11, H⟩ := H
              refine Wb.forget [true, true, true, true, true, true, true, false] ?_
              exact (H o10 (iR_lit rfl) hx3 hx4 hx5 o11 hs7)
        · intro cc; have H := H.2 cc
          refine sb_goto (tgt := 154) (by decide) dX11_learn_113 ?_
          refine sb_iinc (pc' := 157) rfl rfl (L' := [some (.ref (ad 102)), some (vi x1), some (vi x2), some (vi x3), some (vi x4), some (vi x5), some (vi (x6 + 1)), none]) rfl (by decide) dX11_learn_154 ?_
          refine sb_goto (tgt := 72) (by decide) dX11_learn_157 ?_
          obtain ⟨o12, H⟩ := H
          exact (H hx1 hx2 hx3 hx4 hx5 o12 hs6)
theorem bX11_learn_191 {g : AG} {ad : Nat → Nat} {d : Nat} {Q : AO → SG → Prop} {rc rs : Nat} {σ : SG} {x1 x2 x3 : Int}  (hx1 : iR x1) (hx2 : iR x2) (hx3 : iR x3) (hS : SR σ) (H : ((855 ≤ x3 → (iR 0 → SR σ → Q (.inl (some (vi 0))) σ)) ∧ (¬ 855 ≤ x3 → (0 ≤ x3 ∧ x3 < 855) ∧ iR (x3 + 1) ∧ (iR x1 → iR x2 → iR (x3 + 1) → SR (setI σ 103 x3 (ia σ 104 x3)) → Wb g ad d mX11_learn Q 191 [some (.ref (ad 102)), some (vi x1), some (vi x2), some (vi (x3 + 1)), none, none, none, none] [] (setI σ 103 x3 (ia σ 104 x3)) rc rs)))) : Wb g ad d mX11_learn Q 191 [some (.ref (ad 102)), some (vi x1), some (vi x2), some (vi x3), none, none, none, none] [] σ rc rs := by
  refine sb_iload_n (pc' := 192) rfl rfl dX11_learn_191 ?_
  refine sb_sipush (pc' := 195) rfl (z := 855) (by decide) dX11_learn_192 ?_
  refine sb_icmp_ge (pc' := 198) (tgt := 216) rfl (by decide) hx3 (iR_lit rfl) dX11_learn_195 ?_ ?_
  · intro cc; have H := H.1 cc
    refine sb_iconst (pc' := 217) rfl dX11_learn_216 ?_
    exact sb_iret rfl rfl dX11_learn_217 (H (iR_lit rfl) hS)
  · intro cc; have H := H.2 cc
    refine sb_aload_n (pc' := 199) rfl rfl dX11_learn_198 ?_
    refine sb_getC (pc' := 202) rfl fc_102_1 wd_1551 dX11_learn_199 ?_
    refine sb_iload_n (pc' := 203) rfl rfl dX11_learn_202 ?_
    refine sb_aload_n (pc' := 204) rfl rfl dX11_learn_203 ?_
    refine sb_getC (pc' := 207) rfl fc_102_2 wd_1552 dX11_learn_204 ?_
    refine sb_iload_n (pc' := 208) rfl rfl dX11_learn_207 ?_
    obtain ⟨o1, H⟩ := H
    refine sb_iald (pc' := 209) rfl aI_104 o1.1 o1.2 dX11_learn_208 ?_
    refine sb_iast (pc' := 210) rfl aI_103 o1.1 o1.2  dX11_learn_209 ?_
    refine sb_iinc (pc' := 213) rfl rfl (L' := [some (.ref (ad 102)), some (vi x1), some (vi x2), some (vi (x3 + 1)), none, none, none, none]) rfl (by decide) dX11_learn_210 ?_
    refine sb_goto (tgt := 191) (by decide) dX11_learn_213 ?_
    obtain ⟨o2, H⟩ := H
    exact (H hx1 hx2 o2 (SR_setI hS (SR_ia hS _ _)))
theorem bX11_fault_0 {g : AG} {ad : Nat → Nat} {d : Nat} {Q : AO → SG → Prop} {rc rs : Nat} {σ : SG}    (hS : SR σ) (H : (iR (sc (setS σ 102 0 0) 102 9) → SR (setS σ 102 0 0) → Q (.inl (some (vi (sc (setS σ 102 0 0) 102 9)))) (setS σ 102 0 0))) : Wb g ad d mX11_fault Q 0 [some (.ref (ad 102))] [] σ rc rs := by
  refine sb_aload_n (pc' := 1) rfl rfl dX11_fault_0 ?_
  refine sb_iconst (pc' := 2) rfl dX11_fault_1 ?_
  refine sb_putI (pc' := 5) rfl fi_102_0 (Or.inl rfl) wd_1550 dX11_fault_2 ?_
  refine sb_aload_n (pc' := 6) rfl rfl dX11_fault_5 ?_
  refine sb_getI (pc' := 9) rfl fi_102_9 wd_1559 dX11_fault_6 ?_
  exact sb_iret rfl rfl dX11_fault_9 (H (SR_sc (SR_setS hS (iR_lit rfl)) _ _) (SR_setS hS (iR_lit rfl)))
theorem bX11_letter_0 {g : AG} {ad : Nat → Nat} {d : Nat} {Q : AO → SG → Prop} {rc rs : Nat} {σ : SG} {x1 x2 : Int}  (hx1 : iR x1) (hx2 : iR x2) (hS : SR σ) (H : Cl g ad d mX11_isWord 0 0 [(.ref (ad 102)), (vi x1)] σ (Ki fun r1 s1 => ((r1 = 0 → (((sc (setS s1 102 0 1) 102 0) ≤ 0 → (0 ≤ 9 + (9 * x1) ∧ 9 + (9 * x1) < 855) ∧ Cl g ad d mX11_isIn 0 0 [(vi x2), (vi 0), (vi ((ia (setS s1 102 0 1) 103 (9 + (9 * x1))) - 1))] (setS s1 102 0 1) (Ki fun r3 s3 => ((r3 = 0 → (iR ((-1)) → SR s3 → Q (.inl (some (vi ((-1))))) s3)) ∧ (¬ r3 = 0 → (0 ≤ ((9 + (9 * x1)) + 1) + x2 ∧ ((9 + (9 * x1)) + 1) + x2 < 855) ∧ (iR (ia s3 103 (((9 + (9 * x1)) + 1) + x2)) → SR s3 → Q (.inl (some (vi (ia s3 103 (((9 + (9 * x1)) + 1) + x2))))) s3))))) ∧ (¬ (sc (setS s1 102 0 1) 102 0) ≤ 0 → (iR 0 → SR (setS s1 102 0 1) → Q (.inl (some (vi 0))) (setS s1 102 0 1))))) ∧ (¬ r1 = 0 → (((sc (setS s1 102 0 0) 102 0) ≤ 0 → (0 ≤ 9 + (9 * x1) ∧ 9 + (9 * x1) < 855) ∧ Cl g ad d mX11_isIn 0 0 [(vi x2), (vi 0), (vi ((ia (setS s1 102 0 0) 103 (9 + (9 * x1))) - 1))] (setS s1 102 0 0) (Ki fun r6 s6 => ((r6 = 0 → (iR ((-1)) → SR s6 → Q (.inl (some (vi ((-1))))) s6)) ∧ (¬ r6 = 0 → (0 ≤ ((9 + (9 * x1)) + 1) + x2 ∧ ((9 + (9 * x1)) + 1) + x2 < 855) ∧ (iR (ia s6 103 (((9 + (9 * x1)) + 1) + x2)) → SR s6 → Q (.inl (some (vi (ia s6 103 (((9 + (9 * x1)) + 1) + x2))))) s6))))) ∧ (¬ (sc (setS s1 102 0 0) 102 0) ≤ 0 → (iR 0 → SR (setS s1 102 0 0) → Q (.inl (some (vi 0))) (setS s1 102 0 0)))))))) : Wb g ad d mX11_letter Q 0 [some (.ref (ad 102)), some (vi x1), some (vi x2)] [] σ rc rs := by
  refine sb_aload_n (pc' := 1) rfl rfl dX11_letter_0 ?_
  refine sb_aload_n (pc' := 2) rfl rfl dX11_letter_1 ?_
  refine sb_iload_n (pc' := 3) rfl rfl dX11_letter_2 ?_
  obtain ⟨d1, hd1, H⟩ := H
  refine sb_callV (pc' := 6) rfl rfl (rc := rc) (rs := rs) (mc' := 0) (ms' := 0) (As := [(vi x1)]) (st := [(.ref (ad 102))]) of_102 rfl rfl (Nat.le_of_ble_eq_true rfl) hd1 kX11_isWord ⟨wd_1838, wd_1840, wd_121⟩ dX11_letter_3 (Eb.mono H ?_)
  rintro o s1 ⟨r1, rfl, hr1, hs1, H⟩
  show Wb g ad d mX11_letter Q 6 [some (.ref (ad 102)), some (vi x1), some (vi x2)] [(vi r1), (.ref (ad 102))] s1 rc rs
  refine sb_if_eq (pc' := 9) (tgt := 13) rfl (by decide) hr1 dX11_letter_6 ?_ ?_
  · intro cc; have H := H.1 cc
    refine sb_iconst (pc' := 14) rfl dX11_letter_13 ?_
    refine sb_putI (pc' := 17) rfl fi_102_0 (Or.inl rfl) wd_1550 dX11_letter_14 ?_
    refine sb_aload_n (pc' := 18) rfl rfl dX11_letter_17 ?_
    refine sb_getI (pc' := 21) rfl fi_102_0 wd_1550 dX11_letter_18 ?_
    refine sb_if_le (pc' := 24) (tgt := 26) rfl (by decide) (SR_sc (SR_setS hs1 (iR_lit rfl)) _ _) dX11_letter_21 ?_ ?_
    · intro cc; have H := H.1 cc
      refine sb_iload_n (pc' := 27) rfl rfl dX11_letter_26 ?_
      refine sb_iconst (pc' := 28) rfl dX11_letter_27 ?_
      refine sb_aload_n (pc' := 29) rfl rfl dX11_letter_28 ?_
      refine sb_getC (pc' := 32) rfl fc_102_1 wd_1551 dX11_letter_29 ?_
      refine sb_bipush (pc' := 34) rfl (z := 9) (by decide) dX11_letter_32 ?_
      refine sb_bipush (pc' := 36) rfl (z := 9) (by decide) dX11_letter_34 ?_
      refine sb_iload_n (pc' := 37) rfl rfl dX11_letter_36 ?_
      refine sb_imul (pc' := 38) rfl dX11_letter_37 ?_
      refine sb_iadd (pc' := 39) rfl dX11_letter_38 ?_
      obtain ⟨o2, H⟩ := H
      refine sb_iald (pc' := 40) rfl aI_103 o2.1 o2.2 dX11_letter_39 ?_
      refine sb_iconst (pc' := 41) rfl dX11_letter_40 ?_
      refine sb_isub (pc' := 42) rfl dX11_letter_41 ?_
      obtain ⟨d3, hd3, H⟩ := H
      refine sb_callS (pc' := 45) rfl rfl (rc := rc) (rs := rs) (mc' := 0) (ms' := 0) (As := [(vi x2), (vi 0), (vi ((ia (setS s1 102 0 1) 103 (9 + (9 * x1))) - 1))]) (st := [])  rfl rfl (Nat.le_of_ble_eq_true rfl) hd3 kX11_isIn ⟨wd_1719, wd_1720⟩ dX11_letter_42 (Eb.mono H ?_)
      rintro o s3 ⟨r3, rfl, hr3, hs3, H⟩
      show Wb g ad d mX11_letter Q 45 [some (.ref (ad 102)), some (vi x1), some (vi x2)] [(vi r3)] s3 rc rs
      refine sb_if_eq (pc' := 48) (tgt := 67) rfl (by decide) hr3 dX11_letter_45 ?_ ?_
      · intro cc; have H := H.1 cc
        refine sb_iconst (pc' := 68) rfl dX11_letter_67 ?_
        exact sb_iret rfl rfl dX11_letter_68 (H (iR_lit rfl) hs3)
      · intro cc; have H := H.2 cc
        refine sb_aload_n (pc' := 49) rfl rfl dX11_letter_48 ?_
        refine sb_getC (pc' := 52) rfl fc_102_1 wd_1551 dX11_letter_49 ?_
        refine sb_bipush (pc' := 54) rfl (z := 9) (by decide) dX11_letter_52 ?_
        refine sb_bipush (pc' := 56) rfl (z := 9) (by decide) dX11_letter_54 ?_
        refine sb_iload_n (pc' := 57) rfl rfl dX11_letter_56 ?_
        refine sb_imul (pc' := 58) rfl dX11_letter_57 ?_
        refine sb_iadd (pc' := 59) rfl dX11_letter_58 ?_
        refine sb_iconst (pc' := 60) rfl dX11_letter_59 ?_
        refine sb_iadd (pc' := 61) rfl dX11_letter_60 ?_
        refine sb_iload_n (pc' := 62) rfl rfl dX11_letter_61 ?_
        refine sb_iadd (pc' := 63) rfl dX11_letter_62 ?_
        obtain ⟨o4, H⟩ := H
        refine sb_iald (pc' := 64) rfl aI_103 o4.1 o4.2 dX11_letter_63 ?_
        refine sb_goto (tgt := 68) (by decide) dX11_letter_64 ?_
        exact sb_iret rfl rfl dX11_letter_68 (H (SR_ia hs3 _ _) hs3)
    · intro cc; have H := H.2 cc
      refine sb_iconst (pc' := 25) rfl dX11_letter_24 ?_
      exact sb_iret rfl rfl dX11_letter_25 (H (iR_lit rfl) (SR_setS hs1 (iR_lit rfl)))
  · intro cc; have H := H.2 cc
    refine sb_iconst (pc' := 10) rfl dX11_letter_9 ?_
    refine sb_goto (tgt := 14) (by decide) dX11_letter_10 ?_
    refine sb_putI (pc' := 17) rfl fi_102_0 (Or.inl rfl) wd_1550 dX11_letter_14 ?_
    refine sb_aload_n (pc' := 18) rfl rfl dX11_letter_17 ?_
    refine sb_getI (pc' := 21) rfl fi_102_0 wd_1550 dX11_letter_18 ?_
    refine sb_if_le (pc' := 24) (tgt := 26) rfl (by decide) (SR_sc (SR_setS hs1 (iR_lit rfl)) _ _) dX11_letter_21 ?_ ?_
    · intro cc; have H := H.1 cc
      refine sb_iload_n (pc' := 27) rfl rfl dX11_letter_26 ?_
      refine sb_iconst (pc' := 28) rfl dX11_letter_27 ?_
      refine sb_aload_n (pc' := 29) rfl rfl dX11_letter_28 ?_
      refine sb_getC (pc' := 32) rfl fc_102_1 wd_1551 dX11_letter_29 ?_
      refine sb_bipush (pc' := 34) rfl (z := 9) (by decide) dX11_letter_32 ?_
      refine sb_bipush (pc' := 36) rfl (z := 9) (by decide) dX11_letter_34 ?_
      refine sb_iload_n (pc' := 37) rfl rfl dX11_letter_36 ?_
      refine sb_imul (pc' := 38) rfl dX11_letter_37 ?_
      refine sb_iadd (pc' := 39) rfl dX11_letter_38 ?_
      obtain ⟨o5, H⟩ := H
      refine sb_iald (pc' := 40) rfl aI_103 o5.1 o5.2 dX11_letter_39 ?_
      refine sb_iconst (pc' := 41) rfl dX11_letter_40 ?_
      refine sb_isub (pc' := 42) rfl dX11_letter_41 ?_
      obtain ⟨d6, hd6, H⟩ := H
      refine sb_callS (pc' := 45) rfl rfl (rc := rc) (rs := rs) (mc' := 0) (ms' := 0) (As := [(vi x2), (vi 0), (vi ((ia (setS s1 102 0 0) 103 (9 + (9 * x1))) - 1))]) (st := [])  rfl rfl (Nat.le_of_ble_eq_true rfl) hd6 kX11_isIn ⟨wd_1719, wd_1720⟩ dX11_letter_42 (Eb.mono H ?_)
      rintro o s6 ⟨r6, rfl, hr6, hs6, H⟩
      show Wb g ad d mX11_letter Q 45 [some (.ref (ad 102)), some (vi x1), some (vi x2)] [(vi r6)] s6 rc rs
      refine sb_if_eq (pc' := 48) (tgt := 67) rfl (by decide) hr6 dX11_letter_45 ?_ ?_
      · intro cc; have H := H.1 cc
        refine sb_iconst (pc' := 68) rfl dX11_letter_67 ?_
        exact sb_iret rfl rfl dX11_letter_68 (H (iR_lit rfl) hs6)
      · intro cc; have H := H.2 cc
        refine sb_aload_n (pc' := 49) rfl rfl dX11_letter_48 ?_
        refine sb_getC (pc' := 52) rfl fc_102_1 wd_1551 dX11_letter_49 ?_
        refine sb_bipush (pc' := 54) rfl (z := 9) (by decide) dX11_letter_52 ?_
        refine sb_bipush (pc' := 56) rfl (z := 9) (by decide) dX11_letter_54 ?_
        refine sb_iload_n (pc' := 57) rfl rfl dX11_letter_56 ?_
        refine sb_imul (pc' := 58) rfl dX11_letter_57 ?_
        refine sb_iadd (pc' := 59) rfl dX11_letter_58 ?_
        refine sb_iconst (pc' := 60) rfl dX11_letter_59 ?_
        refine sb_iadd (pc' := 61) rfl dX11_letter_60 ?_
        refine sb_iload_n (pc' := 62) rfl rfl dX11_letter_61 ?_
        refine sb_iadd (pc' := 63) rfl dX11_letter_62 ?_
        obtain ⟨o7, H⟩ := H
        refine sb_iald (pc' := 64) rfl aI_103 o7.1 o7.2 dX11_letter_63 ?_
        refine sb_goto (tgt := 68) (by decide) dX11_letter_64 ?_
        exact sb_iret rfl rfl dX11_letter_68 (H (SR_ia hs6 _ _) hs6)
    · intro cc; have H := H.2 cc
      refine sb_iconst (pc' := 25) rfl dX11_letter_24 ?_
      exact sb_iret rfl rfl dX11_letter_25 (H (iR_lit rfl) (SR_setS hs1 (iR_lit rfl)))
theorem bX11_placesOf_0 {g : AG} {ad : Nat → Nat} {d : Nat} {Q : AO → SG → Prop} {rc rs : Nat} {σ : SG} {x1 : Int}  (hx1 : iR x1) (hS : SR σ) (H : (iR x1 → iR 0 → iR 0 → SR σ → Wb g ad d mX11_placesOf Q 4 [some (.ref (ad 102)), some (vi x1), some (vi 0), some (vi 0)] [] σ rc rs)) : Wb g ad d mX11_placesOf Q 0 [some (.ref (ad 102)), some (vi x1), none, none] [] σ rc rs := by
  refine sb_iconst (pc' := 1) rfl dX11_placesOf_0 ?_
  refine sb_istore_n (pc' := 2) rfl (L' := [some (.ref (ad 102)), some (vi x1), some (vi 0), none]) rfl (by decide) dX11_placesOf_1 ?_
  refine sb_iconst (pc' := 3) rfl dX11_placesOf_2 ?_
  refine sb_istore_n (pc' := 4) rfl (L' := [some (.ref (ad 102)), some (vi x1), some (vi 0), some (vi 0)]) rfl (by decide) dX11_placesOf_3 ?_
  exact (H hx1 (iR_lit rfl) (iR_lit rfl) hS)
theorem bX11_placesOf_4 {g : AG} {ad : Nat → Nat} {d : Nat} {Q : AO → SG → Prop} {rc rs : Nat} {σ : SG} {x1 x2 x3 : Int}  (hx1 : iR x1) (hx2 : iR x2) (hx3 : iR x3) (hS : SR σ) (H : (((ia σ 103 3) ≤ x3 → (iR x2 → SR σ → Q (.inl (some (vi x2))) σ)) ∧ (¬ (ia σ 103 3) ≤ x3 → Cl g ad d mX11_isOption 0 0 [(.ref (ad 102)), (vi x1), (vi x3)] σ (Ki fun r1 s1 => ((r1 = 0 → iR (x2 + 0) ∧ iR (x3 + 1) ∧ (iR x1 → iR (x2 + 0) → iR (x3 + 1) → SR s1 → Wb g ad d mX11_placesOf Q 4 [some (.ref (ad 102)), some (vi x1), some (vi (x2 + 0)), some (vi (x3 + 1))] [] s1 rc rs)) ∧ (¬ r1 = 0 → iR (x2 + 1) ∧ iR (x3 + 1) ∧ (iR x1 → iR (x2 + 1) → iR (x3 + 1) → SR s1 → Wb g ad d mX11_placesOf Q 4 [some (.ref (ad 102)), some (vi x1), some (vi (x2 + 1)), some (vi (x3 + 1))] [] s1 rc rs))))))) : Wb g ad d mX11_placesOf Q 4 [some (.ref (ad 102)), some (vi x1), some (vi x2), some (vi x3)] [] σ rc rs := by
  refine sb_iload_n (pc' := 5) rfl rfl dX11_placesOf_4 ?_
  refine sb_aload_n (pc' := 6) rfl rfl dX11_placesOf_5 ?_
  refine sb_getC (pc' := 9) rfl fc_102_1 wd_1551 dX11_placesOf_6 ?_
  refine sb_iconst (pc' := 10) rfl dX11_placesOf_9 ?_
  refine sb_iald (pc' := 11) rfl aI_103 (by decide) (by decide) dX11_placesOf_10 ?_
  refine sb_icmp_ge (pc' := 14) (tgt := 37) rfl (by decide) hx3 (SR_ia hS _ _) dX11_placesOf_11 ?_ ?_
  · intro cc; have H := H.1 cc
    refine sb_iload_n (pc' := 38) rfl rfl dX11_placesOf_37 ?_
    exact sb_iret rfl rfl dX11_placesOf_38 (H hx2 hS)
  · intro cc; have H := H.2 cc
    refine sb_iload_n (pc' := 15) rfl rfl dX11_placesOf_14 ?_
    refine sb_aload_n (pc' := 16) rfl rfl dX11_placesOf_15 ?_
    refine sb_iload_n (pc' := 17) rfl rfl dX11_placesOf_16 ?_
    refine sb_iload_n (pc' := 18) rfl rfl dX11_placesOf_17 ?_
    obtain ⟨d1, hd1, H⟩ := H
    refine sb_callV (pc' := 21) rfl rfl (rc := rc) (rs := rs) (mc' := 0) (ms' := 0) (As := [(vi x1), (vi x3)]) (st := [(vi x2)]) of_102 rfl rfl (Nat.le_of_ble_eq_true rfl) hd1 kX11_isOption ⟨wd_1854, wd_1856, wd_124⟩ dX11_placesOf_18 (Eb.mono H ?_)
    rintro o s1 ⟨r1, rfl, hr1, hs1, H⟩
    show Wb g ad d mX11_placesOf Q 21 [some (.ref (ad 102)), some (vi x1), some (vi x2), some (vi x3)] [(vi r1), (vi x2)] s1 rc rs
    refine sb_if_eq (pc' := 24) (tgt := 28) rfl (by decide) hr1 dX11_placesOf_21 ?_ ?_
    · intro cc; have H := H.1 cc
      refine sb_iconst (pc' := 29) rfl dX11_placesOf_28 ?_
      refine sb_iadd (pc' := 30) rfl dX11_placesOf_29 ?_
      refine sb_istore_n (pc' := 31) rfl (L' := [some (.ref (ad 102)), some (vi x1), some (vi (x2 + 0)), some (vi x3)]) rfl (by decide) dX11_placesOf_30 ?_
      refine sb_iinc (pc' := 34) rfl rfl (L' := [some (.ref (ad 102)), some (vi x1), some (vi (x2 + 0)), some (vi (x3 + 1))]) rfl (by decide) dX11_placesOf_31 ?_
      refine sb_goto (tgt := 4) (by decide) dX11_placesOf_34 ?_
      obtain ⟨o2, H⟩ := H
      obtain ⟨o3, H⟩ := H
      exact (H hx1 o2 o3 hs1)
    · intro cc; have H := H.2 cc
      refine sb_iconst (pc' := 25) rfl dX11_placesOf_24 ?_
      refine sb_goto (tgt := 29) (by decide) dX11_placesOf_25 ?_
      refine sb_iadd (pc' := 30) rfl dX11_placesOf_29 ?_
      refine sb_istore_n (pc' := 31) rfl (L' := [some (.ref (ad 102)), some (vi x1), some (vi (x2 + 1)), some (vi x3)]) rfl (by decide) dX11_placesOf_30 ?_
      refine sb_iinc (pc' := 34) rfl rfl (L' := [some (.ref (ad 102)), some (vi x1), some (vi (x2 + 1)), some (vi (x3 + 1))]) rfl (by decide) dX11_placesOf_31 ?_
      refine sb_goto (tgt := 4) (by decide) dX11_placesOf_34 ?_
      obtain ⟨o4, H⟩ := H
      obtain ⟨o5, H⟩ := H
      exact (H hx1 o4 o5 hs1)
theorem bX11_phrase_0 {g : AG} {ad : Nat → Nat} {d : Nat} {Q : AO → SG → Prop} {rc rs : Nat} {σ : SG} {x1 x2 : Int}  (hx1 : iR x1) (hx2 : iR x2) (hS : SR σ) (H : Cl g ad d mX11_isPhrase 0 0 [(.ref (ad 102)), (vi x1)] σ (Ki fun r1 s1 => ((¬ r1 = 0 → Cl g ad d mX11_isIn 0 0 [(vi x2), (vi 0), (vi 5)] s1 (Ki fun r2 s2 => ((¬ r2 = 0 → (iR x1 → iR x2 → SR (setS s2 102 0 0) → Wb g ad d mX11_phrase Q 30 [some (.ref (ad 102)), some (vi x1), some (vi x2)] [] (setS s2 102 0 0) rc rs)) ∧ (r2 = 0 → (iR x1 → iR x2 → SR (setS s2 102 0 2) → Wb g ad d mX11_phrase Q 30 [some (.ref (ad 102)), some (vi x1), some (vi x2)] [] (setS s2 102 0 2) rc rs))))) ∧ (r1 = 0 → (iR x1 → iR x2 → SR (setS s1 102 0 1) → Wb g ad d mX11_phrase Q 30 [some (.ref (ad 102)), some (vi x1), some (vi x2)] [] (setS s1 102 0 1) rc rs))))) : Wb g ad d mX11_phrase Q 0 [some (.ref (ad 102)), some (vi x1), some (vi x2)] [] σ rc rs := by
  refine sb_aload_n (pc' := 1) rfl rfl dX11_phrase_0 ?_
  refine sb_aload_n (pc' := 2) rfl rfl dX11_phrase_1 ?_
  refine sb_iload_n (pc' := 3) rfl rfl dX11_phrase_2 ?_
  obtain ⟨d1, hd1, H⟩ := H
  refine sb_callV (pc' := 6) rfl rfl (rc := rc) (rs := rs) (mc' := 0) (ms' := 0) (As := [(vi x1)]) (st := [(.ref (ad 102))]) of_102 rfl rfl (Nat.le_of_ble_eq_true rfl) hd1 kX11_isPhrase ⟨wd_1846, wd_1848, wd_122⟩ dX11_phrase_3 (Eb.mono H ?_)
  rintro o s1 ⟨r1, rfl, hr1, hs1, H⟩
  show Wb g ad d mX11_phrase Q 6 [some (.ref (ad 102)), some (vi x1), some (vi x2)] [(vi r1), (.ref (ad 102))] s1 rc rs
  refine sb_if_ne (pc' := 9) (tgt := 13) rfl (by decide) hr1 dX11_phrase_6 ?_ ?_
  · intro cc; have H := H.1 cc
    refine sb_iload_n (pc' := 14) rfl rfl dX11_phrase_13 ?_
    refine sb_iconst (pc' := 15) rfl dX11_phrase_14 ?_
    refine sb_iconst (pc' := 16) rfl dX11_phrase_15 ?_
    obtain ⟨d2, hd2, H⟩ := H
    refine sb_callS (pc' := 19) rfl rfl (rc := rc) (rs := rs) (mc' := 0) (ms' := 0) (As := [(vi x2), (vi 0), (vi 5)]) (st := [(.ref (ad 102))])  rfl rfl (Nat.le_of_ble_eq_true rfl) hd2 kX11_isIn ⟨wd_1719, wd_1720⟩ dX11_phrase_16 (Eb.mono H ?_)
    rintro o s2 ⟨r2, rfl, hr2, hs2, H⟩
    show Wb g ad d mX11_phrase Q 19 [some (.ref (ad 102)), some (vi x1), some (vi x2)] [(vi r2), (.ref (ad 102))] s2 rc rs
    refine sb_if_ne (pc' := 22) (tgt := 26) rfl (by decide) hr2 dX11_phrase_19 ?_ ?_
    · intro cc; have H := H.1 cc
      refine sb_iconst (pc' := 27) rfl dX11_phrase_26 ?_
      refine sb_putI (pc' := 30) rfl fi_102_0 (Or.inl rfl) wd_1550 dX11_phrase_27 ?_
      exact (H hx1 hx2 (SR_setS hs2 (iR_lit rfl)))
    · intro cc; have H := H.2 cc
      refine sb_iconst (pc' := 23) rfl dX11_phrase_22 ?_
      refine sb_goto (tgt := 27) (by decide) dX11_phrase_23 ?_
      refine sb_putI (pc' := 30) rfl fi_102_0 (Or.inl rfl) wd_1550 dX11_phrase_27 ?_
      exact (H hx1 hx2 (SR_setS hs2 (iR_lit rfl)))
  · intro cc; have H := H.2 cc
    refine sb_iconst (pc' := 10) rfl dX11_phrase_9 ?_
    refine sb_goto (tgt := 27) (by decide) dX11_phrase_10 ?_
    refine sb_putI (pc' := 30) rfl fi_102_0 (Or.inl rfl) wd_1550 dX11_phrase_27 ?_
    exact (H hx1 hx2 (SR_setS hs1 (iR_lit rfl)))
theorem bX11_phrase_30 {g : AG} {ad : Nat → Nat} {d : Nat} {Q : AO → SG → Prop} {rc rs : Nat} {σ : SG} {x1 x2 : Int}  (hx1 : iR x1) (hx2 : iR x2) (hS : SR σ) (H : (((sc σ 102 0) ≤ 0 → (((x2 < 0 ∨ 4 < x2) → Cl g ad d mX11_worth 0 0 [(.ref (ad 102)), (vi x1)] σ (Ki fun r1 s1 => (iR r1 → SR s1 → Q (.inl (some (vi r1))) s1))) ∧ (x2 = 0 → Cl g ad d mX11_of 0 0 [(.ref (ad 102)), (vi x1), (vi 0)] σ (Ki fun r2 s2 => (iR r2 → SR s2 → Q (.inl (some (vi r2))) s2))) ∧ (x2 = 1 → Cl g ad d mX11_of 0 0 [(.ref (ad 102)), (vi x1), (vi 4)] σ (Ki fun r3 s3 => (iR r3 → SR s3 → Q (.inl (some (vi r3))) s3))) ∧ (x2 = 2 → Cl g ad d mX11_of 0 0 [(.ref (ad 102)), (vi x1), (vi 8)] σ (Ki fun r4 s4 => (iR r4 → SR s4 → Q (.inl (some (vi r4))) s4))) ∧ (x2 = 3 → Cl g ad d mX11_of 0 0 [(.ref (ad 102)), (vi x1), (vi 9)] σ (Ki fun r5 s5 => (iR r5 → SR s5 → Q (.inl (some (vi r5))) s5))) ∧ (x2 = 4 → Cl g ad d mX11_placesOf 0 0 [(.ref (ad 102)), (vi x1)] σ (Ki fun r6 s6 => (iR r6 → SR s6 → Q (.inl (some (vi r6))) s6))))) ∧ (¬ (sc σ 102 0) ≤ 0 → (iR 0 → SR σ → Q (.inl (some (vi 0))) σ)))) : Wb g ad d mX11_phrase Q 30 [some (.ref (ad 102)), some (vi x1), some (vi x2)] [] σ rc rs := by
  refine sb_aload_n (pc' := 31) rfl rfl dX11_phrase_30 ?_
  refine sb_getI (pc' := 34) rfl fi_102_0 wd_1550 dX11_phrase_31 ?_
  refine sb_if_le (pc' := 37) (tgt := 39) rfl (by decide) (SR_sc hS _ _) dX11_phrase_34 ?_ ?_
  · intro cc; have H := H.1 cc
    refine sb_iload_n (pc' := 40) rfl rfl dX11_phrase_39 ?_
    by_cases cc : x2 < 0 ∨ 4 < x2
    · have H := H.1 cc
      refine sb_swOut (tgt := 112) hx2 cc (by decide) dX11_phrase_40 ?_
      refine sb_aload_n (pc' := 113) rfl rfl dX11_phrase_112 ?_
      refine sb_iload_n (pc' := 114) rfl rfl dX11_phrase_113 ?_
      obtain ⟨d1, hd1, H⟩ := H
      refine sb_callV (pc' := 117) rfl rfl (rc := rc) (rs := rs) (mc' := 0) (ms' := 0) (As := [(vi x1)]) (st := []) of_102 rfl rfl (Nat.le_of_ble_eq_true rfl) hd1 kX11_worth ⟨wd_1866, wd_1868, wd_127⟩ dX11_phrase_114 (Eb.mono H ?_)
      rintro o s1 ⟨r1, rfl, hr1, hs1, H⟩
      show Wb g ad d mX11_phrase Q 117 [some (.ref (ad 102)), some (vi x1), some (vi x2)] [(vi r1)] s1 rc rs
      exact sb_iret rfl rfl dX11_phrase_117 (H hr1 hs1)
    · have H := H.2
      rcases (show x2 = 0 ∨ x2 = 1 ∨ x2 = 2 ∨ x2 = 3 ∨ x2 = 4 by omega) with cc | cc | cc | cc | cc
      · have H := H.1 cc
        refine sb_swIn (tgt := 76) (off := 36) hx2 (by omega) (by omega) (by rw [cc]; rfl) (by decide) dX11_phrase_40 ?_
        refine sb_aload_n (pc' := 77) rfl rfl dX11_phrase_76 ?_
        refine sb_iload_n (pc' := 78) rfl rfl dX11_phrase_77 ?_
        refine sb_iconst (pc' := 79) rfl dX11_phrase_78 ?_
        obtain ⟨d2, hd2, H⟩ := H
        refine sb_callV (pc' := 82) rfl rfl (rc := rc) (rs := rs) (mc' := 0) (ms' := 0) (As := [(vi x1), (vi 0)]) (st := []) of_102 rfl rfl (Nat.le_of_ble_eq_true rfl) hd2 kX11_of ⟨wd_1782, wd_1784, wd_112⟩ dX11_phrase_79 (Eb.mono H ?_)
        rintro o s2 ⟨r2, rfl, hr2, hs2, H⟩
        show Wb g ad d mX11_phrase Q 82 [some (.ref (ad 102)), some (vi x1), some (vi x2)] [(vi r2)] s2 rc rs
        exact sb_iret rfl rfl dX11_phrase_82 (H hr2 hs2)
      · have H := H.2.1 cc
        refine sb_swIn (tgt := 83) (off := 43) hx2 (by omega) (by omega) (by rw [cc]; rfl) (by decide) dX11_phrase_40 ?_
        refine sb_aload_n (pc' := 84) rfl rfl dX11_phrase_83 ?_
        refine sb_iload_n (pc' := 85) rfl rfl dX11_phrase_84 ?_
        refine sb_iconst (pc' := 86) rfl dX11_phrase_85 ?_
        obtain ⟨d3, hd3, H⟩ := H
        refine sb_callV (pc' := 89) rfl rfl (rc := rc) (rs := rs) (mc' := 0) (ms' := 0) (As := [(vi x1), (vi 4)]) (st := []) of_102 rfl rfl (Nat.le_of_ble_eq_true rfl) hd3 kX11_of ⟨wd_1782, wd_1784, wd_112⟩ dX11_phrase_86 (Eb.mono H ?_)
        rintro o s3 ⟨r3, rfl, hr3, hs3, H⟩
        show Wb g ad d mX11_phrase Q 89 [some (.ref (ad 102)), some (vi x1), some (vi x2)] [(vi r3)] s3 rc rs
        exact sb_iret rfl rfl dX11_phrase_89 (H hr3 hs3)
      · have H := H.2.2.1 cc
        refine sb_swIn (tgt := 90) (off := 50) hx2 (by omega) (by omega) (by rw [cc]; rfl) (by decide) dX11_phrase_40 ?_
        refine sb_aload_n (pc' := 91) rfl rfl dX11_phrase_90 ?_
        refine sb_iload_n (pc' := 92) rfl rfl dX11_phrase_91 ?_
        refine sb_bipush (pc' := 94) rfl (z := 8) (by decide) dX11_phrase_92 ?_
        obtain ⟨d4, hd4, H⟩ := H
        refine sb_callV (pc' := 97) rfl rfl (rc := rc) (rs := rs) (mc' := 0) (ms' := 0) (As := [(vi x1), (vi 8)]) (st := []) of_102 rfl rfl (Nat.le_of_ble_eq_true rfl) hd4 kX11_of ⟨wd_1782, wd_1784, wd_112⟩ dX11_phrase_94 (Eb.mono H ?_)
        rintro o s4 ⟨r4, rfl, hr4, hs4, H⟩
        show Wb g ad d mX11_phrase Q 97 [some (.ref (ad 102)), some (vi x1), some (vi x2)] [(vi r4)] s4 rc rs
        exact sb_iret rfl rfl dX11_phrase_97 (H hr4 hs4)
      · have H := H.2.2.2.1 cc
        refine sb_swIn (tgt := 98) (off := 58) hx2 (by omega) (by omega) (by rw [cc]; rfl) (by decide) dX11_phrase_40 ?_
        refine sb_aload_n (pc' := 99) rfl rfl dX11_phrase_98 ?_
        refine sb_iload_n (pc' := 100) rfl rfl dX11_phrase_99 ?_
        refine sb_bipush (pc' := 102) rfl (z := 9) (by decide) dX11_phrase_100 ?_
        obtain ⟨d5, hd5, H⟩ := H
        refine sb_callV (pc' := 105) rfl rfl (rc := rc) (rs := rs) (mc' := 0) (ms' := 0) (As := [(vi x1), (vi 9)]) (st := []) of_102 rfl rfl (Nat.le_of_ble_eq_true rfl) hd5 kX11_of ⟨wd_1782, wd_1784, wd_112⟩ dX11_phrase_102 (Eb.mono H ?_)
        rintro o s5 ⟨r5, rfl, hr5, hs5, H⟩
        show Wb g ad d mX11_phrase Q 105 [some (.ref (ad 102)), some (vi x1), some (vi x2)] [(vi r5)] s5 rc rs
        exact sb_iret rfl rfl dX11_phrase_105 (H hr5 hs5)
      · have H := H.2.2.2.2 cc
        refine sb_swIn (tgt := 106) (off := 66) hx2 (by omega) (by omega) (by rw [cc]; rfl) (by decide) dX11_phrase_40 ?_
        refine sb_aload_n (pc' := 107) rfl rfl dX11_phrase_106 ?_
        refine sb_iload_n (pc' := 108) rfl rfl dX11_phrase_107 ?_
        obtain ⟨d6, hd6, H⟩ := H
        refine sb_callV (pc' := 111) rfl rfl (rc := rc) (rs := rs) (mc' := 0) (ms' := 0) (As := [(vi x1)]) (st := []) of_102 rfl rfl (Nat.le_of_ble_eq_true rfl) hd6 kX11_placesOf ⟨wd_1850, wd_1852, wd_123⟩ dX11_phrase_108 (Eb.mono H ?_)
        rintro o s6 ⟨r6, rfl, hr6, hs6, H⟩
        show Wb g ad d mX11_phrase Q 111 [some (.ref (ad 102)), some (vi x1), some (vi x2)] [(vi r6)] s6 rc rs
        exact sb_iret rfl rfl dX11_phrase_111 (H hr6 hs6)
  · intro cc; have H := H.2 cc
    refine sb_iconst (pc' := 38) rfl dX11_phrase_37 ?_
    exact sb_iret rfl rfl dX11_phrase_38 (H (iR_lit rfl) hS)
theorem bX11_part_0 {g : AG} {ad : Nat → Nat} {d : Nat} {Q : AO → SG → Prop} {rc rs : Nat} {σ : SG} {x1 x2 x3 : Int}  (hx1 : iR x1) (hx2 : iR x2) (hx3 : iR x3) (hS : SR σ) (H : Cl g ad d mX11_isPhrase 0 0 [(.ref (ad 102)), (vi x1)] σ (Ki fun r1 s1 => ((r1 = 0 → (iR x1 → iR x2 → iR x3 → SR (setS s1 102 0 1) → Wb g ad d mX11_part Q 17 [some (.ref (ad 102)), some (vi x1), some (vi x2), some (vi x3), none] [] (setS s1 102 0 1) rc rs)) ∧ (¬ r1 = 0 → (iR x1 → iR x2 → iR x3 → SR (setS s1 102 0 0) → Wb g ad d mX11_part Q 17 [some (.ref (ad 102)), some (vi x1), some (vi x2), some (vi x3), none] [] (setS s1 102 0 0) rc rs))))) : Wb g ad d mX11_part Q 0 [some (.ref (ad 102)), some (vi x1), some (vi x2), some (vi x3), none] [] σ rc rs := by
  refine sb_aload_n (pc' := 1) rfl rfl dX11_part_0 ?_
  refine sb_aload_n (pc' := 2) rfl rfl dX11_part_1 ?_
  refine sb_iload_n (pc' := 3) rfl rfl dX11_part_2 ?_
  obtain ⟨d1, hd1, H⟩ := H
  refine sb_callV (pc' := 6) rfl rfl (rc := rc) (rs := rs) (mc' := 0) (ms' := 0) (As := [(vi x1)]) (st := [(.ref (ad 102))]) of_102 rfl rfl (Nat.le_of_ble_eq_true rfl) hd1 kX11_isPhrase ⟨wd_1846, wd_1848, wd_122⟩ dX11_part_3 (Eb.mono H ?_)
  rintro o s1 ⟨r1, rfl, hr1, hs1, H⟩
  show Wb g ad d mX11_part Q 6 [some (.ref (ad 102)), some (vi x1), some (vi x2), some (vi x3), none] [(vi r1), (.ref (ad 102))] s1 rc rs
  refine sb_if_eq (pc' := 9) (tgt := 13) rfl (by decide) hr1 dX11_part_6 ?_ ?_
  · intro cc; have H := H.1 cc
    refine sb_iconst (pc' := 14) rfl dX11_part_13 ?_
    refine sb_putI (pc' := 17) rfl fi_102_0 (Or.inl rfl) wd_1550 dX11_part_14 ?_
    exact (H hx1 hx2 hx3 (SR_setS hs1 (iR_lit rfl)))
  · intro cc; have H := H.2 cc
    refine sb_iconst (pc' := 10) rfl dX11_part_9 ?_
    refine sb_goto (tgt := 14) (by decide) dX11_part_10 ?_
    refine sb_putI (pc' := 17) rfl fi_102_0 (Or.inl rfl) wd_1550 dX11_part_14 ?_
    exact (H hx1 hx2 hx3 (SR_setS hs1 (iR_lit rfl)))
theorem bX11_part_17 {g : AG} {ad : Nat → Nat} {d : Nat} {Q : AO → SG → Prop} {rc rs : Nat} {σ : SG} {x1 x2 x3 : Int}  (hx1 : iR x1) (hx2 : iR x2) (hx3 : iR x3) (hS : SR σ) (H : (((sc σ 102 0) ≤ 0 → ((x2 = 0 → Cl g ad d mX11_of 0 0 [(.ref (ad 102)), (vi x1), (vi 0)] σ (Ki fun r1 s1 => Cl g ad d mX11_isIn 0 0 [(vi x3), (vi 0), (vi (r1 - 1))] s1 (Ki fun r2 s2 => ((r2 = 0 → (iR ((-1)) → SR s2 → Q (.inl (some (vi ((-1))))) s2)) ∧ (¬ r2 = 0 → Cl g ad d mX11_of 0 0 [(.ref (ad 102)), (vi x1), (vi ((0 + 1) + x3))] s2 (Ki fun r3 s3 => (iR r3 → SR s3 → Q (.inl (some (vi r3))) s3))))))) ∧ (¬ x2 = 0 → Cl g ad d mX11_of 0 0 [(.ref (ad 102)), (vi x1), (vi 4)] σ (Ki fun r4 s4 => Cl g ad d mX11_isIn 0 0 [(vi x3), (vi 0), (vi (r4 - 1))] s4 (Ki fun r5 s5 => ((r5 = 0 → (iR ((-1)) → SR s5 → Q (.inl (some (vi ((-1))))) s5)) ∧ (¬ r5 = 0 → Cl g ad d mX11_of 0 0 [(.ref (ad 102)), (vi x1), (vi ((4 + 1) + x3))] s5 (Ki fun r6 s6 => (iR r6 → SR s6 → Q (.inl (some (vi r6))) s6))))))))) ∧ (¬ (sc σ 102 0) ≤ 0 → (iR 0 → SR σ → Q (.inl (some (vi 0))) σ)))) : Wb g ad d mX11_part Q 17 [some (.ref (ad 102)), some (vi x1), some (vi x2), some (vi x3), none] [] σ rc rs := by
  refine sb_aload_n (pc' := 18) rfl rfl dX11_part_17 ?_
  refine sb_getI (pc' := 21) rfl fi_102_0 wd_1550 dX11_part_18 ?_
  refine sb_if_le (pc' := 24) (tgt := 26) rfl (by decide) (SR_sc hS _ _) dX11_part_21 ?_ ?_
  · intro cc; have H := H.1 cc
    refine sb_iload_n (pc' := 27) rfl rfl dX11_part_26 ?_
    refine sb_if_eq (pc' := 30) (tgt := 34) rfl (by decide) hx2 dX11_part_27 ?_ ?_
    · intro cc; have H := H.1 cc
      refine sb_iconst (pc' := 35) rfl dX11_part_34 ?_
      refine sb_istore (pc' := 37) rfl (L' := [some (.ref (ad 102)), some (vi x1), some (vi x2), some (vi x3), some (vi 0)]) rfl (by decide) dX11_part_35 ?_
      refine sb_iload_n (pc' := 38) rfl rfl dX11_part_37 ?_
      refine sb_iconst (pc' := 39) rfl dX11_part_38 ?_
      refine sb_aload_n (pc' := 40) rfl rfl dX11_part_39 ?_
      refine sb_iload_n (pc' := 41) rfl rfl dX11_part_40 ?_
      refine sb_iload (pc' := 43) rfl rfl dX11_part_41 ?_
      obtain ⟨d1, hd1, H⟩ := H
      refine sb_callV (pc' := 46) rfl rfl (rc := rc) (rs := rs) (mc' := 0) (ms' := 0) (As := [(vi x1), (vi 0)]) (st := [(vi 0), (vi x3)]) of_102 rfl rfl (Nat.le_of_ble_eq_true rfl) hd1 kX11_of ⟨wd_1782, wd_1784, wd_112⟩ dX11_part_43 (Eb.mono H ?_)
      rintro o s1 ⟨r1, rfl, hr1, hs1, H⟩
      show Wb g ad d mX11_part Q 46 [some (.ref (ad 102)), some (vi x1), some (vi x2), some (vi x3), some (vi 0)] [(vi r1), (vi 0), (vi x3)] s1 rc rs
      refine sb_iconst (pc' := 47) rfl dX11_part_46 ?_
      refine sb_isub (pc' := 48) rfl dX11_part_47 ?_
      obtain ⟨d2, hd2, H⟩ := H
      refine sb_callS (pc' := 51) rfl rfl (rc := rc) (rs := rs) (mc' := 0) (ms' := 0) (As := [(vi x3), (vi 0), (vi (r1 - 1))]) (st := [])  rfl rfl (Nat.le_of_ble_eq_true rfl) hd2 kX11_isIn ⟨wd_1719, wd_1720⟩ dX11_part_48 (Eb.mono H ?_)
      rintro o s2 ⟨r2, rfl, hr2, hs2, H⟩
      show Wb g ad d mX11_part Q 51 [some (.ref (ad 102)), some (vi x1), some (vi x2), some (vi x3), some (vi 0)] [(vi r2)] s2 rc rs
      refine sb_if_eq (pc' := 54) (tgt := 68) rfl (by decide) hr2 dX11_part_51 ?_ ?_
      · intro cc; have H := H.1 cc
        refine sb_iconst (pc' := 69) rfl dX11_part_68 ?_
        exact sb_iret rfl rfl dX11_part_69 (H (iR_lit rfl) hs2)
      · intro cc; have H := H.2 cc
        refine sb_aload_n (pc' := 55) rfl rfl dX11_part_54 ?_
        refine sb_iload_n (pc' := 56) rfl rfl dX11_part_55 ?_
        refine sb_iload (pc' := 58) rfl rfl dX11_part_56 ?_
        refine sb_iconst (pc' := 59) rfl dX11_part_58 ?_
        refine sb_iadd (pc' := 60) rfl dX11_part_59 ?_
        refine sb_iload_n (pc' := 61) rfl rfl dX11_part_60 ?_
        refine sb_iadd (pc' := 62) rfl dX11_part_61 ?_
        obtain ⟨d3, hd3, H⟩ := H
        refine sb_callV (pc' := 65) rfl rfl (rc := rc) (rs := rs) (mc' := 0) (ms' := 0) (As := [(vi x1), (vi ((0 + 1) + x3))]) (st := []) of_102 rfl rfl (Nat.le_of_ble_eq_true rfl) hd3 kX11_of ⟨wd_1782, wd_1784, wd_112⟩ dX11_part_62 (Eb.mono H ?_)
        rintro o s3 ⟨r3, rfl, hr3, hs3, H⟩
        show Wb g ad d mX11_part Q 65 [some (.ref (ad 102)), some (vi x1), some (vi x2), some (vi x3), some (vi 0)] [(vi r3)] s3 rc rs
        refine sb_goto (tgt := 69) (by decide) dX11_part_65 ?_
        exact sb_iret rfl rfl dX11_part_69 (H hr3 hs3)
    · intro cc; have H := H.2 cc
      refine sb_iconst (pc' := 31) rfl dX11_part_30 ?_
      refine sb_goto (tgt := 35) (by decide) dX11_part_31 ?_
      refine sb_istore (pc' := 37) rfl (L' := [some (.ref (ad 102)), some (vi x1), some (vi x2), some (vi x3), some (vi 4)]) rfl (by decide) dX11_part_35 ?_
      refine sb_iload_n (pc' := 38) rfl rfl dX11_part_37 ?_
      refine sb_iconst (pc' := 39) rfl dX11_part_38 ?_
      refine sb_aload_n (pc' := 40) rfl rfl dX11_part_39 ?_
      refine sb_iload_n (pc' := 41) rfl rfl dX11_part_40 ?_
      refine sb_iload (pc' := 43) rfl rfl dX11_part_41 ?_
      obtain ⟨d4, hd4, H⟩ := H
      refine sb_callV (pc' := 46) rfl rfl (rc := rc) (rs := rs) (mc' := 0) (ms' := 0) (As := [(vi x1), (vi 4)]) (st := [(vi 0), (vi x3)]) of_102 rfl rfl (Nat.le_of_ble_eq_true rfl) hd4 kX11_of ⟨wd_1782, wd_1784, wd_112⟩ dX11_part_43 (Eb.mono H ?_)
      rintro o s4 ⟨r4, rfl, hr4, hs4, H⟩
      show Wb g ad d mX11_part Q 46 [some (.ref (ad 102)), some (vi x1), some (vi x2), some (vi x3), some (vi 4)] [(vi r4), (vi 0), (vi x3)] s4 rc rs
      refine sb_iconst (pc' := 47) rfl dX11_part_46 ?_
      refine sb_isub (pc' := 48) rfl dX11_part_47 ?_
      obtain ⟨d5, hd5, H⟩ := H
      refine sb_callS (pc' := 51) rfl rfl (rc := rc) (rs := rs) (mc' := 0) (ms' := 0) (As := [(vi x3), (vi 0), (vi (r4 - 1))]) (st := [])  rfl rfl (Nat.le_of_ble_eq_true rfl) hd5 kX11_isIn ⟨wd_1719, wd_1720⟩ dX11_part_48 (Eb.mono H ?_)
      rintro o s5 ⟨r5, rfl, hr5, hs5, H⟩
      show Wb g ad d mX11_part Q 51 [some (.ref (ad 102)), some (vi x1), some (vi x2), some (vi x3), some (vi 4)] [(vi r5)] s5 rc rs
      refine sb_if_eq (pc' := 54) (tgt := 68) rfl (by decide) hr5 dX11_part_51 ?_ ?_
      · intro cc; have H := H.1 cc
        refine sb_iconst (pc' := 69) rfl dX11_part_68 ?_
        exact sb_iret rfl rfl dX11_part_69 (H (iR_lit rfl) hs5)
      · intro cc; have H := H.2 cc
        refine sb_aload_n (pc' := 55) rfl rfl dX11_part_54 ?_
        refine sb_iload_n (pc' := 56) rfl rfl dX11_part_55 ?_
        refine sb_iload (pc' := 58) rfl rfl dX11_part_56 ?_
        refine sb_iconst (pc' := 59) rfl dX11_part_58 ?_
        refine sb_iadd (pc' := 60) rfl dX11_part_59 ?_
        refine sb_iload_n (pc' := 61) rfl rfl dX11_part_60 ?_
        refine sb_iadd (pc' := 62) rfl dX11_part_61 ?_
        obtain ⟨d6, hd6, H⟩ := H
        refine sb_callV (pc' := 65) rfl rfl (rc := rc) (rs := rs) (mc' := 0) (ms' := 0) (As := [(vi x1), (vi ((4 + 1) + x3))]) (st := []) of_102 rfl rfl (Nat.le_of_ble_eq_true rfl) hd6 kX11_of ⟨wd_1782, wd_1784, wd_112⟩ dX11_part_62 (Eb.mono H ?_)
        rintro o s6 ⟨r6, rfl, hr6, hs6, H⟩
        show Wb g ad d mX11_part Q 65 [some (.ref (ad 102)), some (vi x1), some (vi x2), some (vi x3), some (vi 4)] [(vi r6)] s6 rc rs
        refine sb_goto (tgt := 69) (by decide) dX11_part_65 ?_
        exact sb_iret rfl rfl dX11_part_69 (H hr6 hs6)
  · intro cc; have H := H.2 cc
    refine sb_iconst (pc' := 25) rfl dX11_part_24 ?_
    exact sb_iret rfl rfl dX11_part_25 (H (iR_lit rfl) hS)
theorem bX11_after0_0 {g : AG} {ad : Nat → Nat} {d : Nat} {Q : AO → SG → Prop} {rc rs : Nat} {σ : SG} {x1 x2 : Int}  (hx1 : iR x1) (hx2 : iR x2) (hS : SR σ) (H : Cl g ad d mX11_pairOf 0 0 [(.ref (ad 102)), (vi x1), (vi x2)] σ (Ki fun r1 s1 => ((¬ r1 = ((-1)) → (0 ≤ (669 + (3 * r1)) + 2 ∧ (669 + (3 * r1)) + 2 < 855) ∧ (iR (ia s1 103 ((669 + (3 * r1)) + 2)) → SR s1 → Q (.inl (some (vi (ia s1 103 ((669 + (3 * r1)) + 2))))) s1)) ∧ (r1 = ((-1)) → (iR (ia s1 103 4) → SR s1 → Q (.inl (some (vi (ia s1 103 4)))) s1))))) : Wb g ad d mX11_after0 Q 0 [some (.ref (ad 102)), some (vi x1), some (vi x2), none] [] σ rc rs := by
  refine sb_aload_n (pc' := 1) rfl rfl dX11_after0_0 ?_
  refine sb_iload_n (pc' := 2) rfl rfl dX11_after0_1 ?_
  refine sb_iload_n (pc' := 3) rfl rfl dX11_after0_2 ?_
  obtain ⟨d1, hd1, H⟩ := H
  refine sb_callV (pc' := 6) rfl rfl (rc := rc) (rs := rs) (mc' := 0) (ms' := 0) (As := [(vi x1), (vi x2)]) (st := []) of_102 rfl rfl (Nat.le_of_ble_eq_true rfl) hd1 kX11_pairOf ⟨wd_1798, wd_1800, wd_115⟩ dX11_after0_3 (Eb.mono H ?_)
  rintro o s1 ⟨r1, rfl, hr1, hs1, H⟩
  show Wb g ad d mX11_after0 Q 6 [some (.ref (ad 102)), some (vi x1), some (vi x2), none] [(vi r1)] s1 rc rs
  refine sb_istore_n (pc' := 7) rfl (L' := [some (.ref (ad 102)), some (vi x1), some (vi x2), some (vi r1)]) rfl (by decide) dX11_after0_6 ?_
  refine sb_iload_n (pc' := 8) rfl rfl dX11_after0_7 ?_
  refine sb_iconst (pc' := 9) rfl dX11_after0_8 ?_
  refine sb_icmp_ne (pc' := 12) (tgt := 21) rfl (by decide) hr1 (iR_lit rfl) dX11_after0_9 ?_ ?_
  · intro cc; have H := H.1 cc
    refine sb_aload_n (pc' := 22) rfl rfl dX11_after0_21 ?_
    refine sb_getC (pc' := 25) rfl fc_102_1 wd_1551 dX11_after0_22 ?_
    refine sb_sipush (pc' := 28) rfl (z := 669) (by decide) dX11_after0_25 ?_
    refine sb_iconst (pc' := 29) rfl dX11_after0_28 ?_
    refine sb_iload_n (pc' := 30) rfl rfl dX11_after0_29 ?_
    refine sb_imul (pc' := 31) rfl dX11_after0_30 ?_
    refine sb_iadd (pc' := 32) rfl dX11_after0_31 ?_
    refine sb_iconst (pc' := 33) rfl dX11_after0_32 ?_
    refine sb_iadd (pc' := 34) rfl dX11_after0_33 ?_
    obtain ⟨o2, H⟩ := H
    refine sb_iald (pc' := 35) rfl aI_103 o2.1 o2.2 dX11_after0_34 ?_
    exact sb_iret rfl rfl dX11_after0_35 (H (SR_ia hs1 _ _) hs1)
  · intro cc; have H := H.2 cc
    refine sb_aload_n (pc' := 13) rfl rfl dX11_after0_12 ?_
    refine sb_getC (pc' := 16) rfl fc_102_1 wd_1551 dX11_after0_13 ?_
    refine sb_iconst (pc' := 17) rfl dX11_after0_16 ?_
    refine sb_iald (pc' := 18) rfl aI_103 (by decide) (by decide) dX11_after0_17 ?_
    refine sb_goto (tgt := 35) (by decide) dX11_after0_18 ?_
    exact sb_iret rfl rfl dX11_after0_35 (H (SR_ia hs1 _ _) hs1)
theorem bX11_after_0 {g : AG} {ad : Nat → Nat} {d : Nat} {Q : AO → SG → Prop} {rc rs : Nat} {σ : SG} {x1 x2 : Int}  (hx1 : iR x1) (hx2 : iR x2) (hS : SR σ) (H : ((x1 = ((-1)) → ((x2 = ((-1)) → (iR x1 → iR x2 → SR (setS σ 102 0 0) → Wb g ad d mX11_after Q 35 [some (.ref (ad 102)), some (vi x1), some (vi x2)] [] (setS σ 102 0 0) rc rs)) ∧ (¬ x2 = ((-1)) → Cl g ad d mX11_isWord 0 0 [(.ref (ad 102)), (vi x2)] σ (Ki fun r1 s1 => ((r1 = 0 → (iR x1 → iR x2 → SR (setS s1 102 0 1) → Wb g ad d mX11_after Q 35 [some (.ref (ad 102)), some (vi x1), some (vi x2)] [] (setS s1 102 0 1) rc rs)) ∧ (¬ r1 = 0 → (iR x1 → iR x2 → SR (setS s1 102 0 0) → Wb g ad d mX11_after Q 35 [some (.ref (ad 102)), some (vi x1), some (vi x2)] [] (setS s1 102 0 0) rc rs))))))) ∧ (¬ x1 = ((-1)) → Cl g ad d mX11_isWord 0 0 [(.ref (ad 102)), (vi x1)] σ (Ki fun r2 s2 => ((r2 = 0 → (iR x1 → iR x2 → SR (setS s2 102 0 1) → Wb g ad d mX11_after Q 35 [some (.ref (ad 102)), some (vi x1), some (vi x2)] [] (setS s2 102 0 1) rc rs)) ∧ (¬ r2 = 0 → ((x2 = ((-1)) → (iR x1 → iR x2 → SR (setS s2 102 0 0) → Wb g ad d mX11_after Q 35 [some (.ref (ad 102)), some (vi x1), some (vi x2)] [] (setS s2 102 0 0) rc rs)) ∧ (¬ x2 = ((-1)) → Cl g ad d mX11_isWord 0 0 [(.ref (ad 102)), (vi x2)] s2 (Ki fun r3 s3 => ((r3 = 0 → (iR x1 → iR x2 → SR (setS s3 102 0 1) → Wb g ad d mX11_after Q 35 [some (.ref (ad 102)), some (vi x1), some (vi x2)] [] (setS s3 102 0 1) rc rs)) ∧ (¬ r3 = 0 → (iR x1 → iR x2 → SR (setS s3 102 0 0) → Wb g ad d mX11_after Q 35 [some (.ref (ad 102)), some (vi x1), some (vi x2)] [] (setS s3 102 0 0) rc rs)))))))))))) : Wb g ad d mX11_after Q 0 [some (.ref (ad 102)), some (vi x1), some (vi x2)] [] σ rc rs := by
  refine sb_aload_n (pc' := 1) rfl rfl dX11_after_0 ?_
  refine sb_iload_n (pc' := 2) rfl rfl dX11_after_1 ?_
  refine sb_iconst (pc' := 3) rfl dX11_after_2 ?_
  refine sb_icmp_eq (pc' := 6) (tgt := 14) rfl (by decide) hx1 (iR_lit rfl) dX11_after_3 ?_ ?_
  · intro cc; have H := H.1 cc
    refine sb_iload_n (pc' := 15) rfl rfl dX11_after_14 ?_
    refine sb_iconst (pc' := 16) rfl dX11_after_15 ?_
    refine sb_icmp_eq (pc' := 19) (tgt := 27) rfl (by decide) hx2 (iR_lit rfl) dX11_after_16 ?_ ?_
    · intro cc; have H := H.1 cc
      refine sb_iconst (pc' := 28) rfl dX11_after_27 ?_
      refine sb_goto (tgt := 32) (by decide) dX11_after_28 ?_
      refine sb_putI (pc' := 35) rfl fi_102_0 (Or.inl rfl) wd_1550 dX11_after_32 ?_
      exact (H hx1 hx2 (SR_setS hS (iR_lit rfl)))
    · intro cc; have H := H.2 cc
      refine sb_aload_n (pc' := 20) rfl rfl dX11_after_19 ?_
      refine sb_iload_n (pc' := 21) rfl rfl dX11_after_20 ?_
      obtain ⟨d1, hd1, H⟩ := H
      refine sb_callV (pc' := 24) rfl rfl (rc := rc) (rs := rs) (mc' := 0) (ms' := 0) (As := [(vi x2)]) (st := [(.ref (ad 102))]) of_102 rfl rfl (Nat.le_of_ble_eq_true rfl) hd1 kX11_isWord ⟨wd_1838, wd_1840, wd_121⟩ dX11_after_21 (Eb.mono H ?_)
      rintro o s1 ⟨r1, rfl, hr1, hs1, H⟩
      show Wb g ad d mX11_after Q 24 [some (.ref (ad 102)), some (vi x1), some (vi x2)] [(vi r1), (.ref (ad 102))] s1 rc rs
      refine sb_if_eq (pc' := 27) (tgt := 31) rfl (by decide) hr1 dX11_after_24 ?_ ?_
      · intro cc; have H := H.1 cc
        refine sb_iconst (pc' := 32) rfl dX11_after_31 ?_
        refine sb_putI (pc' := 35) rfl fi_102_0 (Or.inl rfl) wd_1550 dX11_after_32 ?_
        exact (H hx1 hx2 (SR_setS hs1 (iR_lit rfl)))
      · intro cc; have H := H.2 cc
        refine sb_iconst (pc' := 28) rfl dX11_after_27 ?_
        refine sb_goto (tgt := 32) (by decide) dX11_after_28 ?_
        refine sb_putI (pc' := 35) rfl fi_102_0 (Or.inl rfl) wd_1550 dX11_after_32 ?_
        exact (H hx1 hx2 (SR_setS hs1 (iR_lit rfl)))
  · intro cc; have H := H.2 cc
    refine sb_aload_n (pc' := 7) rfl rfl dX11_after_6 ?_
    refine sb_iload_n (pc' := 8) rfl rfl dX11_after_7 ?_
    obtain ⟨d2, hd2, H⟩ := H
    refine sb_callV (pc' := 11) rfl rfl (rc := rc) (rs := rs) (mc' := 0) (ms' := 0) (As := [(vi x1)]) (st := [(.ref (ad 102))]) of_102 rfl rfl (Nat.le_of_ble_eq_true rfl) hd2 kX11_isWord ⟨wd_1838, wd_1840, wd_121⟩ dX11_after_8 (Eb.mono H ?_)
    rintro o s2 ⟨r2, rfl, hr2, hs2, H⟩
    show Wb g ad d mX11_after Q 11 [some (.ref (ad 102)), some (vi x1), some (vi x2)] [(vi r2), (.ref (ad 102))] s2 rc rs
    refine sb_if_eq (pc' := 14) (tgt := 31) rfl (by decide) hr2 dX11_after_11 ?_ ?_
    · intro cc; have H := H.1 cc
      refine sb_iconst (pc' := 32) rfl dX11_after_31 ?_
      refine sb_putI (pc' := 35) rfl fi_102_0 (Or.inl rfl) wd_1550 dX11_after_32 ?_
      exact (H hx1 hx2 (SR_setS hs2 (iR_lit rfl)))
    · intro cc; have H := H.2 cc
      refine sb_iload_n (pc' := 15) rfl rfl dX11_after_14 ?_
      refine sb_iconst (pc' := 16) rfl dX11_after_15 ?_
      refine sb_icmp_eq (pc' := 19) (tgt := 27) rfl (by decide) hx2 (iR_lit rfl) dX11_after_16 ?_ ?_
      · intro cc; have H := H.1 cc
        refine sb_iconst (pc' := 28) rfl dX11_after_27 ?_
        refine sb_goto (tgt := 32) (by decide) dX11_after_28 ?_
        refine sb_putI (pc' := 35) rfl fi_102_0 (Or.inl rfl) wd_1550 dX11_after_32 ?_
        exact (H hx1 hx2 (SR_setS hs2 (iR_lit rfl)))
      · intro cc; have H := H.2 cc
        refine sb_aload_n (pc' := 20) rfl rfl dX11_after_19 ?_
        refine sb_iload_n (pc' := 21) rfl rfl dX11_after_20 ?_
        obtain ⟨d3, hd3, H⟩ := H
        refine sb_callV (pc' := 24) rfl rfl (rc := rc) (rs := rs) (mc' := 0) (ms' := 0) (As := [(vi x2)]) (st := [(.ref (ad 102))]) of_102 rfl rfl (Nat.le_of_ble_eq_true rfl) hd3 kX11_isWord ⟨wd_1838, wd_1840, wd_121⟩ dX11_after_21 (Eb.mono H ?_)
        rintro o s3 ⟨r3, rfl, hr3, hs3, H⟩
        show Wb g ad d mX11_after Q 24 [some (.ref (ad 102)), some (vi x1), some (vi x2)] [(vi r3), (.ref (ad 102))] s3 rc rs
        refine sb_if_eq (pc' := 27) (tgt := 31) rfl (by decide) hr3 dX11_after_24 ?_ ?_
        · intro cc; have H := H.1 cc
          refine sb_iconst (pc' := 32) rfl dX11_after_31 ?_
          refine sb_putI (pc' := 35) rfl fi_102_0 (Or.inl rfl) wd_1550 dX11_after_32 ?_
          exact (H hx1 hx2 (SR_setS hs3 (iR_lit rfl)))
        · intro cc; have H := H.2 cc
          refine sb_iconst (pc' := 28) rfl dX11_after_27 ?_
          refine sb_goto (tgt := 32) (by decide) dX11_after_28 ?_
          refine sb_putI (pc' := 35) rfl fi_102_0 (Or.inl rfl) wd_1550 dX11_after_32 ?_
          exact (H hx1 hx2 (SR_setS hs3 (iR_lit rfl)))
theorem bX11_after_35 {g : AG} {ad : Nat → Nat} {d : Nat} {Q : AO → SG → Prop} {rc rs : Nat} {σ : SG} {x1 x2 : Int}  (hx1 : iR x1) (hx2 : iR x2) (hS : SR σ) (H : (((sc σ 102 0) ≤ 0 → Cl g ad d mX11_after0 0 0 [(.ref (ad 102)), (vi x1), (vi x2)] σ (Ki fun r1 s1 => (iR r1 → SR s1 → Q (.inl (some (vi r1))) s1))) ∧ (¬ (sc σ 102 0) ≤ 0 → (iR 0 → SR σ → Q (.inl (some (vi 0))) σ)))) : Wb g ad d mX11_after Q 35 [some (.ref (ad 102)), some (vi x1), some (vi x2)] [] σ rc rs := by
  refine sb_aload_n (pc' := 36) rfl rfl dX11_after_35 ?_
  refine sb_getI (pc' := 39) rfl fi_102_0 wd_1550 dX11_after_36 ?_
  refine sb_if_le (pc' := 42) (tgt := 46) rfl (by decide) (SR_sc hS _ _) dX11_after_39 ?_ ?_
  · intro cc; have H := H.1 cc
    refine sb_aload_n (pc' := 47) rfl rfl dX11_after_46 ?_
    refine sb_iload_n (pc' := 48) rfl rfl dX11_after_47 ?_
    refine sb_iload_n (pc' := 49) rfl rfl dX11_after_48 ?_
    obtain ⟨d1, hd1, H⟩ := H
    refine sb_callV (pc' := 52) rfl rfl (rc := rc) (rs := rs) (mc' := 0) (ms' := 0) (As := [(vi x1), (vi x2)]) (st := []) of_102 rfl rfl (Nat.le_of_ble_eq_true rfl) hd1 kX11_after0 ⟨wd_1886, wd_1888, wd_132⟩ dX11_after_49 (Eb.mono H ?_)
    rintro o s1 ⟨r1, rfl, hr1, hs1, H⟩
    show Wb g ad d mX11_after Q 52 [some (.ref (ad 102)), some (vi x1), some (vi x2)] [(vi r1)] s1 rc rs
    exact sb_iret rfl rfl dX11_after_52 (H hr1 hs1)
  · intro cc; have H := H.2 cc
    refine sb_iconst (pc' := 43) rfl dX11_after_42 ?_
    refine sb_goto (tgt := 52) (by decide) dX11_after_43 ?_
    exact sb_iret rfl rfl dX11_after_52 (H (iR_lit rfl) hS)
theorem bX11_place_0 {g : AG} {ad : Nat → Nat} {d : Nat} {Q : AO → SG → Prop} {rc rs : Nat} {σ : SG} {x1 : Int}  (hx1 : iR x1) (hS : SR σ) (H : Cl g ad d mX11_isPlace 0 0 [(.ref (ad 102)), (vi x1)] σ (Ki fun r1 s1 => ((r1 = 0 → (((sc (setS s1 102 0 1) 102 0) ≤ 0 → (0 ≤ 849 + x1 ∧ 849 + x1 < 855) ∧ (iR (ia (setS s1 102 0 1) 103 (849 + x1)) → SR (setS s1 102 0 1) → Q (.inl (some (vi (ia (setS s1 102 0 1) 103 (849 + x1))))) (setS s1 102 0 1))) ∧ (¬ (sc (setS s1 102 0 1) 102 0) ≤ 0 → (iR 0 → SR (setS s1 102 0 1) → Q (.inl (some (vi 0))) (setS s1 102 0 1))))) ∧ (¬ r1 = 0 → (((sc (setS s1 102 0 0) 102 0) ≤ 0 → (0 ≤ 849 + x1 ∧ 849 + x1 < 855) ∧ (iR (ia (setS s1 102 0 0) 103 (849 + x1)) → SR (setS s1 102 0 0) → Q (.inl (some (vi (ia (setS s1 102 0 0) 103 (849 + x1))))) (setS s1 102 0 0))) ∧ (¬ (sc (setS s1 102 0 0) 102 0) ≤ 0 → (iR 0 → SR (setS s1 102 0 0) → Q (.inl (some (vi 0))) (setS s1 102 0 0)))))))) : Wb g ad d mX11_place Q 0 [some (.ref (ad 102)), some (vi x1)] [] σ rc rs := by
  refine sb_aload_n (pc' := 1) rfl rfl dX11_place_0 ?_
  refine sb_aload_n (pc' := 2) rfl rfl dX11_place_1 ?_
  refine sb_iload_n (pc' := 3) rfl rfl dX11_place_2 ?_
  obtain ⟨d1, hd1, H⟩ := H
  refine sb_callV (pc' := 6) rfl rfl (rc := rc) (rs := rs) (mc' := 0) (ms' := 0) (As := [(vi x1)]) (st := [(.ref (ad 102))]) of_102 rfl rfl (Nat.le_of_ble_eq_true rfl) hd1 kX11_isPlace ⟨wd_1858, wd_1860, wd_125⟩ dX11_place_3 (Eb.mono H ?_)
  rintro o s1 ⟨r1, rfl, hr1, hs1, H⟩
  show Wb g ad d mX11_place Q 6 [some (.ref (ad 102)), some (vi x1)] [(vi r1), (.ref (ad 102))] s1 rc rs
  refine sb_if_eq (pc' := 9) (tgt := 13) rfl (by decide) hr1 dX11_place_6 ?_ ?_
  · intro cc; have H := H.1 cc
    refine sb_iconst (pc' := 14) rfl dX11_place_13 ?_
    refine sb_putI (pc' := 17) rfl fi_102_0 (Or.inl rfl) wd_1550 dX11_place_14 ?_
    refine sb_aload_n (pc' := 18) rfl rfl dX11_place_17 ?_
    refine sb_getI (pc' := 21) rfl fi_102_0 wd_1550 dX11_place_18 ?_
    refine sb_if_le (pc' := 24) (tgt := 28) rfl (by decide) (SR_sc (SR_setS hs1 (iR_lit rfl)) _ _) dX11_place_21 ?_ ?_
    · intro cc; have H := H.1 cc
      refine sb_aload_n (pc' := 29) rfl rfl dX11_place_28 ?_
      refine sb_getC (pc' := 32) rfl fc_102_1 wd_1551 dX11_place_29 ?_
      refine sb_sipush (pc' := 35) rfl (z := 849) (by decide) dX11_place_32 ?_
      refine sb_iload_n (pc' := 36) rfl rfl dX11_place_35 ?_
      refine sb_iadd (pc' := 37) rfl dX11_place_36 ?_
      obtain ⟨o2, H⟩ := H
      refine sb_iald (pc' := 38) rfl aI_103 o2.1 o2.2 dX11_place_37 ?_
      exact sb_iret rfl rfl dX11_place_38 (H (SR_ia (SR_setS hs1 (iR_lit rfl)) _ _) (SR_setS hs1 (iR_lit rfl)))
    · intro cc; have H := H.2 cc
      refine sb_iconst (pc' := 25) rfl dX11_place_24 ?_
      refine sb_goto (tgt := 38) (by decide) dX11_place_25 ?_
      exact sb_iret rfl rfl dX11_place_38 (H (iR_lit rfl) (SR_setS hs1 (iR_lit rfl)))
  · intro cc; have H := H.2 cc
    refine sb_iconst (pc' := 10) rfl dX11_place_9 ?_
    refine sb_goto (tgt := 14) (by decide) dX11_place_10 ?_
    refine sb_putI (pc' := 17) rfl fi_102_0 (Or.inl rfl) wd_1550 dX11_place_14 ?_
    refine sb_aload_n (pc' := 18) rfl rfl dX11_place_17 ?_
    refine sb_getI (pc' := 21) rfl fi_102_0 wd_1550 dX11_place_18 ?_
    refine sb_if_le (pc' := 24) (tgt := 28) rfl (by decide) (SR_sc (SR_setS hs1 (iR_lit rfl)) _ _) dX11_place_21 ?_ ?_
    · intro cc; have H := H.1 cc
      refine sb_aload_n (pc' := 29) rfl rfl dX11_place_28 ?_
      refine sb_getC (pc' := 32) rfl fc_102_1 wd_1551 dX11_place_29 ?_
      refine sb_sipush (pc' := 35) rfl (z := 849) (by decide) dX11_place_32 ?_
      refine sb_iload_n (pc' := 36) rfl rfl dX11_place_35 ?_
      refine sb_iadd (pc' := 37) rfl dX11_place_36 ?_
      obtain ⟨o3, H⟩ := H
      refine sb_iald (pc' := 38) rfl aI_103 o3.1 o3.2 dX11_place_37 ?_
      exact sb_iret rfl rfl dX11_place_38 (H (SR_ia (SR_setS hs1 (iR_lit rfl)) _ _) (SR_setS hs1 (iR_lit rfl)))
    · intro cc; have H := H.2 cc
      refine sb_iconst (pc' := 25) rfl dX11_place_24 ?_
      refine sb_goto (tgt := 38) (by decide) dX11_place_25 ?_
      exact sb_iret rfl rfl dX11_place_38 (H (iR_lit rfl) (SR_setS hs1 (iR_lit rfl)))
theorem bX11_put_0 {g : AG} {ad : Nat → Nat} {d : Nat} {Q : AO → SG → Prop} {rc rs : Nat} {σ : SG} {x1 x2 : Int}  (hx1 : iR x1) (hx2 : iR x2) (hS : SR σ) (H : Cl g ad d mX11_isPlace 0 0 [(.ref (ad 102)), (vi x1)] σ (Ki fun r1 s1 => ((r1 = 0 → (((sc (setS s1 102 0 1) 102 0) ≤ 0 → (0 ≤ 849 + x1 ∧ 849 + x1 < 855) ∧ (iR (ia (setS s1 102 0 1) 103 (849 + x1)) → SR (setS (setI (setS s1 102 0 1) 103 (849 + x1) x2) 102 20 0) → Q (.inl (some (vi (ia (setS s1 102 0 1) 103 (849 + x1))))) (setS (setI (setS s1 102 0 1) 103 (849 + x1) x2) 102 20 0))) ∧ (¬ (sc (setS s1 102 0 1) 102 0) ≤ 0 → (iR 0 → SR (setS s1 102 0 1) → Q (.inl (some (vi 0))) (setS s1 102 0 1))))) ∧ (¬ r1 = 0 → Cl g ad d mX11_isWord 0 0 [(.ref (ad 102)), (vi x2)] s1 (Ki fun r3 s3 => ((r3 = 0 → (((sc (setS s3 102 0 1) 102 0) ≤ 0 → (0 ≤ 849 + x1 ∧ 849 + x1 < 855) ∧ (iR (ia (setS s3 102 0 1) 103 (849 + x1)) → SR (setS (setI (setS s3 102 0 1) 103 (849 + x1) x2) 102 20 0) → Q (.inl (some (vi (ia (setS s3 102 0 1) 103 (849 + x1))))) (setS (setI (setS s3 102 0 1) 103 (849 + x1) x2) 102 20 0))) ∧ (¬ (sc (setS s3 102 0 1) 102 0) ≤ 0 → (iR 0 → SR (setS s3 102 0 1) → Q (.inl (some (vi 0))) (setS s3 102 0 1))))) ∧ (¬ r3 = 0 → (((sc (setS s3 102 0 0) 102 0) ≤ 0 → (0 ≤ 849 + x1 ∧ 849 + x1 < 855) ∧ (iR (ia (setS s3 102 0 0) 103 (849 + x1)) → SR (setS (setI (setS s3 102 0 0) 103 (849 + x1) x2) 102 20 0) → Q (.inl (some (vi (ia (setS s3 102 0 0) 103 (849 + x1))))) (setS (setI (setS s3 102 0 0) 103 (849 + x1) x2) 102 20 0))) ∧ (¬ (sc (setS s3 102 0 0) 102 0) ≤ 0 → (iR 0 → SR (setS s3 102 0 0) → Q (.inl (some (vi 0))) (setS s3 102 0 0))))))))))) : Wb g ad d mX11_put Q 0 [some (.ref (ad 102)), some (vi x1), some (vi x2), none] [] σ rc rs := by
  refine sb_aload_n (pc' := 1) rfl rfl dX11_put_0 ?_
  refine sb_aload_n (pc' := 2) rfl rfl dX11_put_1 ?_
  refine sb_iload_n (pc' := 3) rfl rfl dX11_put_2 ?_
  obtain ⟨d1, hd1, H⟩ := H
  refine sb_callV (pc' := 6) rfl rfl (rc := rc) (rs := rs) (mc' := 0) (ms' := 0) (As := [(vi x1)]) (st := [(.ref (ad 102))]) of_102 rfl rfl (Nat.le_of_ble_eq_true rfl) hd1 kX11_isPlace ⟨wd_1858, wd_1860, wd_125⟩ dX11_put_3 (Eb.mono H ?_)
  rintro o s1 ⟨r1, rfl, hr1, hs1, H⟩
  show Wb g ad d mX11_put Q 6 [some (.ref (ad 102)), some (vi x1), some (vi x2), none] [(vi r1), (.ref (ad 102))] s1 rc rs
  refine sb_if_eq (pc' := 9) (tgt := 21) rfl (by decide) hr1 dX11_put_6 ?_ ?_
  · intro cc; have H := H.1 cc
    refine sb_iconst (pc' := 22) rfl dX11_put_21 ?_
    refine sb_putI (pc' := 25) rfl fi_102_0 (Or.inl rfl) wd_1550 dX11_put_22 ?_
    refine sb_aload_n (pc' := 26) rfl rfl dX11_put_25 ?_
    refine sb_getI (pc' := 29) rfl fi_102_0 wd_1550 dX11_put_26 ?_
    refine sb_if_le (pc' := 32) (tgt := 34) rfl (by decide) (SR_sc (SR_setS hs1 (iR_lit rfl)) _ _) dX11_put_29 ?_ ?_
    · intro cc; have H := H.1 cc
      refine sb_aload_n (pc' := 35) rfl rfl dX11_put_34 ?_
      refine sb_getC (pc' := 38) rfl fc_102_1 wd_1551 dX11_put_35 ?_
      refine sb_sipush (pc' := 41) rfl (z := 849) (by decide) dX11_put_38 ?_
      refine sb_iload_n (pc' := 42) rfl rfl dX11_put_41 ?_
      refine sb_iadd (pc' := 43) rfl dX11_put_42 ?_
      obtain ⟨o2, H⟩ := H
      refine sb_iald (pc' := 44) rfl aI_103 o2.1 o2.2 dX11_put_43 ?_
      refine sb_istore_n (pc' := 45) rfl (L' := [some (.ref (ad 102)), some (vi x1), some (vi x2), some (vi (ia (setS s1 102 0 1) 103 (849 + x1)))]) rfl (by decide) dX11_put_44 ?_
      refine sb_aload_n (pc' := 46) rfl rfl dX11_put_45 ?_
      refine sb_getC (pc' := 49) rfl fc_102_1 wd_1551 dX11_put_46 ?_
      refine sb_sipush (pc' := 52) rfl (z := 849) (by decide) dX11_put_49 ?_
      refine sb_iload_n (pc' := 53) rfl rfl dX11_put_52 ?_
      refine sb_iadd (pc' := 54) rfl dX11_put_53 ?_
      refine sb_iload_n (pc' := 55) rfl rfl dX11_put_54 ?_
      refine sb_iast (pc' := 56) rfl aI_103 o2.1 o2.2  dX11_put_55 ?_
      refine sb_aload_n (pc' := 57) rfl rfl dX11_put_56 ?_
      refine sb_iconst (pc' := 58) rfl dX11_put_57 ?_
      refine sb_putI (pc' := 61) rfl fi_102_20 (Or.inr (Or.inl rfl)) wd_1570 dX11_put_58 ?_
      refine sb_iload_n (pc' := 62) rfl rfl dX11_put_61 ?_
      exact sb_iret rfl rfl dX11_put_62 (H (SR_ia (SR_setS hs1 (iR_lit rfl)) _ _) (SR_setS (SR_setI (SR_setS hs1 (iR_lit rfl)) hx2) (iR_lit rfl)))
    · intro cc; have H := H.2 cc
      refine sb_iconst (pc' := 33) rfl dX11_put_32 ?_
      exact sb_iret rfl rfl dX11_put_33 (H (iR_lit rfl) (SR_setS hs1 (iR_lit rfl)))
  · intro cc; have H := H.2 cc
    refine sb_aload_n (pc' := 10) rfl rfl dX11_put_9 ?_
    refine sb_iload_n (pc' := 11) rfl rfl dX11_put_10 ?_
    obtain ⟨d3, hd3, H⟩ := H
    refine sb_callV (pc' := 14) rfl rfl (rc := rc) (rs := rs) (mc' := 0) (ms' := 0) (As := [(vi x2)]) (st := [(.ref (ad 102))]) of_102 rfl rfl (Nat.le_of_ble_eq_true rfl) hd3 kX11_isWord ⟨wd_1838, wd_1840, wd_121⟩ dX11_put_11 (Eb.mono H ?_)
    rintro o s3 ⟨r3, rfl, hr3, hs3, H⟩
    show Wb g ad d mX11_put Q 14 [some (.ref (ad 102)), some (vi x1), some (vi x2), none] [(vi r3), (.ref (ad 102))] s3 rc rs
    refine sb_if_eq (pc' := 17) (tgt := 21) rfl (by decide) hr3 dX11_put_14 ?_ ?_
    · intro cc; have H := H.1 cc
      refine sb_iconst (pc' := 22) rfl dX11_put_21 ?_
      refine sb_putI (pc' := 25) rfl fi_102_0 (Or.inl rfl) wd_1550 dX11_put_22 ?_
      refine sb_aload_n (pc' := 26) rfl rfl dX11_put_25 ?_
      refine sb_getI (pc' := 29) rfl fi_102_0 wd_1550 dX11_put_26 ?_
      refine sb_if_le (pc' := 32) (tgt := 34) rfl (by decide) (SR_sc (SR_setS hs3 (iR_lit rfl)) _ _) dX11_put_29 ?_ ?_
      · intro cc; have H := H.1 cc
        refine sb_aload_n (pc' := 35) rfl rfl dX11_put_34 ?_
        refine sb_getC (pc' := 38) rfl fc_102_1 wd_1551 dX11_put_35 ?_
        refine sb_sipush (pc' := 41) rfl (z := 849) (by decide) dX11_put_38 ?_
        refine sb_iload_n (pc' := 42) rfl rfl dX11_put_41 ?_
        refine sb_iadd (pc' := 43) rfl dX11_put_42 ?_
        obtain ⟨o4, H⟩ := H
        refine sb_iald (pc' := 44) rfl aI_103 o4.1 o4.2 dX11_put_43 ?_
        refine sb_istore_n (pc' := 45) rfl (L' := [some (.ref (ad 102)), some (vi x1), some (vi x2), some (vi (ia (setS s3 102 0 1) 103 (849 + x1)))]) rfl (by decide) dX11_put_44 ?_
        refine sb_aload_n (pc' := 46) rfl rfl dX11_put_45 ?_
        refine sb_getC (pc' := 49) rfl fc_102_1 wd_1551 dX11_put_46 ?_
        refine sb_sipush (pc' := 52) rfl (z := 849) (by decide) dX11_put_49 ?_
        refine sb_iload_n (pc' := 53) rfl rfl dX11_put_52 ?_
        refine sb_iadd (pc' := 54) rfl dX11_put_53 ?_
        refine sb_iload_n (pc' := 55) rfl rfl dX11_put_54 ?_
        refine sb_iast (pc' := 56) rfl aI_103 o4.1 o4.2  dX11_put_55 ?_
        refine sb_aload_n (pc' := 57) rfl rfl dX11_put_56 ?_
        refine sb_iconst (pc' := 58) rfl dX11_put_57 ?_
        refine sb_putI (pc' := 61) rfl fi_102_20 (Or.inr (Or.inl rfl)) wd_1570 dX11_put_58 ?_
        refine sb_iload_n (pc' := 62) rfl rfl dX11_put_61 ?_
        exact sb_iret rfl rfl dX11_put_62 (H (SR_ia (SR_setS hs3 (iR_lit rfl)) _ _) (SR_setS (SR_setI (SR_setS hs3 (iR_lit rfl)) hx2) (iR_lit rfl)))
      · intro cc; have H := H.2 cc
        refine sb_iconst (pc' := 33) rfl dX11_put_32 ?_
        exact sb_iret rfl rfl dX11_put_33 (H (iR_lit rfl) (SR_setS hs3 (iR_lit rfl)))
    · intro cc; have H := H.2 cc
      refine sb_iconst (pc' := 18) rfl dX11_put_17 ?_
      refine sb_goto (tgt := 22) (by decide) dX11_put_18 ?_
      refine sb_putI (pc' := 25) rfl fi_102_0 (Or.inl rfl) wd_1550 dX11_put_22 ?_
      refine sb_aload_n (pc' := 26) rfl rfl dX11_put_25 ?_
      refine sb_getI (pc' := 29) rfl fi_102_0 wd_1550 dX11_put_26 ?_
      refine sb_if_le (pc' := 32) (tgt := 34) rfl (by decide) (SR_sc (SR_setS hs3 (iR_lit rfl)) _ _) dX11_put_29 ?_ ?_
      · intro cc; have H := H.1 cc
        refine sb_aload_n (pc' := 35) rfl rfl dX11_put_34 ?_
        refine sb_getC (pc' := 38) rfl fc_102_1 wd_1551 dX11_put_35 ?_
        refine sb_sipush (pc' := 41) rfl (z := 849) (by decide) dX11_put_38 ?_
        refine sb_iload_n (pc' := 42) rfl rfl dX11_put_41 ?_
        refine sb_iadd (pc' := 43) rfl dX11_put_42 ?_
        obtain ⟨o5, H⟩ := H
        refine sb_iald (pc' := 44) rfl aI_103 o5.1 o5.2 dX11_put_43 ?_
        refine sb_istore_n (pc' := 45) rfl (L' := [some (.ref (ad 102)), some (vi x1), some (vi x2), some (vi (ia (setS s3 102 0 0) 103 (849 + x1)))]) rfl (by decide) dX11_put_44 ?_
        refine sb_aload_n (pc' := 46) rfl rfl dX11_put_45 ?_
        refine sb_getC (pc' := 49) rfl fc_102_1 wd_1551 dX11_put_46 ?_
        refine sb_sipush (pc' := 52) rfl (z := 849) (by decide) dX11_put_49 ?_
        refine sb_iload_n (pc' := 53) rfl rfl dX11_put_52 ?_
        refine sb_iadd (pc' := 54) rfl dX11_put_53 ?_
        refine sb_iload_n (pc' := 55) rfl rfl dX11_put_54 ?_
        refine sb_iast (pc' := 56) rfl aI_103 o5.1 o5.2  dX11_put_55 ?_
        refine sb_aload_n (pc' := 57) rfl rfl dX11_put_56 ?_
        refine sb_iconst (pc' := 58) rfl dX11_put_57 ?_
        refine sb_putI (pc' := 61) rfl fi_102_20 (Or.inr (Or.inl rfl)) wd_1570 dX11_put_58 ?_
        refine sb_iload_n (pc' := 62) rfl rfl dX11_put_61 ?_
        exact sb_iret rfl rfl dX11_put_62 (H (SR_ia (SR_setS hs3 (iR_lit rfl)) _ _) (SR_setS (SR_setI (SR_setS hs3 (iR_lit rfl)) hx2) (iR_lit rfl)))
      · intro cc; have H := H.2 cc
        refine sb_iconst (pc' := 33) rfl dX11_put_32 ?_
        exact sb_iret rfl rfl dX11_put_33 (H (iR_lit rfl) (SR_setS hs3 (iR_lit rfl)))
theorem bX11_price_0 {g : AG} {ad : Nat → Nat} {d : Nat} {Q : AO → SG → Prop} {rc rs : Nat} {σ : SG} {x1 x2 : Int}  (hx1 : iR x1) (hx2 : iR x2) (hS : SR σ) (H : Cl g ad d mX11_isPhrase 0 0 [(.ref (ad 102)), (vi x1)] σ (Ki fun r1 s1 => ((¬ r1 = 0 → Cl g ad d mX11_isIn 0 0 [(vi x2), (vi 0), (vi 99)] s1 (Ki fun r2 s2 => ((¬ r2 = 0 → (((sc (setS s2 102 0 0) 102 0) ≤ 0 → Cl g ad d mX11_of 0 0 [(.ref (ad 102)), (vi x1), (vi 8)] (setS s2 102 0 0) (Ki fun r3 s3 => (0 ≤ (369 + (10 * x1)) + 8 ∧ (369 + (10 * x1)) + 8 < 855) ∧ (iR r3 → SR (setS (setI s3 103 ((369 + (10 * x1)) + 8) x2) 102 20 0) → Q (.inl (some (vi r3))) (setS (setI s3 103 ((369 + (10 * x1)) + 8) x2) 102 20 0)))) ∧ (¬ (sc (setS s2 102 0 0) 102 0) ≤ 0 → (iR 0 → SR (setS s2 102 0 0) → Q (.inl (some (vi 0))) (setS s2 102 0 0))))) ∧ (r2 = 0 → (((sc (setS s2 102 0 2) 102 0) ≤ 0 → Cl g ad d mX11_of 0 0 [(.ref (ad 102)), (vi x1), (vi 8)] (setS s2 102 0 2) (Ki fun r5 s5 => (0 ≤ (369 + (10 * x1)) + 8 ∧ (369 + (10 * x1)) + 8 < 855) ∧ (iR r5 → SR (setS (setI s5 103 ((369 + (10 * x1)) + 8) x2) 102 20 0) → Q (.inl (some (vi r5))) (setS (setI s5 103 ((369 + (10 * x1)) + 8) x2) 102 20 0)))) ∧ (¬ (sc (setS s2 102 0 2) 102 0) ≤ 0 → (iR 0 → SR (setS s2 102 0 2) → Q (.inl (some (vi 0))) (setS s2 102 0 2)))))))) ∧ (r1 = 0 → (((sc (setS s1 102 0 1) 102 0) ≤ 0 → Cl g ad d mX11_of 0 0 [(.ref (ad 102)), (vi x1), (vi 8)] (setS s1 102 0 1) (Ki fun r7 s7 => (0 ≤ (369 + (10 * x1)) + 8 ∧ (369 + (10 * x1)) + 8 < 855) ∧ (iR r7 → SR (setS (setI s7 103 ((369 + (10 * x1)) + 8) x2) 102 20 0) → Q (.inl (some (vi r7))) (setS (setI s7 103 ((369 + (10 * x1)) + 8) x2) 102 20 0)))) ∧ (¬ (sc (setS s1 102 0 1) 102 0) ≤ 0 → (iR 0 → SR (setS s1 102 0 1) → Q (.inl (some (vi 0))) (setS s1 102 0 1)))))))) : Wb g ad d mX11_price Q 0 [some (.ref (ad 102)), some (vi x1), some (vi x2), none] [] σ rc rs := by
  refine sb_aload_n (pc' := 1) rfl rfl dX11_price_0 ?_
  refine sb_aload_n (pc' := 2) rfl rfl dX11_price_1 ?_
  refine sb_iload_n (pc' := 3) rfl rfl dX11_price_2 ?_
  obtain ⟨d1, hd1, H⟩ := H
  refine sb_callV (pc' := 6) rfl rfl (rc := rc) (rs := rs) (mc' := 0) (ms' := 0) (As := [(vi x1)]) (st := [(.ref (ad 102))]) of_102 rfl rfl (Nat.le_of_ble_eq_true rfl) hd1 kX11_isPhrase ⟨wd_1846, wd_1848, wd_122⟩ dX11_price_3 (Eb.mono H ?_)
  rintro o s1 ⟨r1, rfl, hr1, hs1, H⟩
  show Wb g ad d mX11_price Q 6 [some (.ref (ad 102)), some (vi x1), some (vi x2), none] [(vi r1), (.ref (ad 102))] s1 rc rs
  refine sb_if_ne (pc' := 9) (tgt := 13) rfl (by decide) hr1 dX11_price_6 ?_ ?_
  · intro cc; have H := H.1 cc
    refine sb_iload_n (pc' := 14) rfl rfl dX11_price_13 ?_
    refine sb_iconst (pc' := 15) rfl dX11_price_14 ?_
    refine sb_bipush (pc' := 17) rfl (z := 99) (by decide) dX11_price_15 ?_
    obtain ⟨d2, hd2, H⟩ := H
    refine sb_callS (pc' := 20) rfl rfl (rc := rc) (rs := rs) (mc' := 0) (ms' := 0) (As := [(vi x2), (vi 0), (vi 99)]) (st := [(.ref (ad 102))])  rfl rfl (Nat.le_of_ble_eq_true rfl) hd2 kX11_isIn ⟨wd_1719, wd_1720⟩ dX11_price_17 (Eb.mono H ?_)
    rintro o s2 ⟨r2, rfl, hr2, hs2, H⟩
    show Wb g ad d mX11_price Q 20 [some (.ref (ad 102)), some (vi x1), some (vi x2), none] [(vi r2), (.ref (ad 102))] s2 rc rs
    refine sb_if_ne (pc' := 23) (tgt := 27) rfl (by decide) hr2 dX11_price_20 ?_ ?_
    · intro cc; have H := H.1 cc
      refine sb_iconst (pc' := 28) rfl dX11_price_27 ?_
      refine sb_putI (pc' := 31) rfl fi_102_0 (Or.inl rfl) wd_1550 dX11_price_28 ?_
      refine sb_aload_n (pc' := 32) rfl rfl dX11_price_31 ?_
      refine sb_getI (pc' := 35) rfl fi_102_0 wd_1550 dX11_price_32 ?_
      refine sb_if_le (pc' := 38) (tgt := 40) rfl (by decide) (SR_sc (SR_setS hs2 (iR_lit rfl)) _ _) dX11_price_35 ?_ ?_
      · intro cc; have H := H.1 cc
        refine sb_aload_n (pc' := 41) rfl rfl dX11_price_40 ?_
        refine sb_iload_n (pc' := 42) rfl rfl dX11_price_41 ?_
        refine sb_bipush (pc' := 44) rfl (z := 8) (by decide) dX11_price_42 ?_
        obtain ⟨d3, hd3, H⟩ := H
        refine sb_callV (pc' := 47) rfl rfl (rc := rc) (rs := rs) (mc' := 0) (ms' := 0) (As := [(vi x1), (vi 8)]) (st := []) of_102 rfl rfl (Nat.le_of_ble_eq_true rfl) hd3 kX11_of ⟨wd_1782, wd_1784, wd_112⟩ dX11_price_44 (Eb.mono H ?_)
        rintro o s3 ⟨r3, rfl, hr3, hs3, H⟩
        show Wb g ad d mX11_price Q 47 [some (.ref (ad 102)), some (vi x1), some (vi x2), none] [(vi r3)] s3 rc rs
        refine sb_istore_n (pc' := 48) rfl (L' := [some (.ref (ad 102)), some (vi x1), some (vi x2), some (vi r3)]) rfl (by decide) dX11_price_47 ?_
        refine sb_aload_n (pc' := 49) rfl rfl dX11_price_48 ?_
        refine sb_getC (pc' := 52) rfl fc_102_1 wd_1551 dX11_price_49 ?_
        refine sb_sipush (pc' := 55) rfl (z := 369) (by decide) dX11_price_52 ?_
        refine sb_bipush (pc' := 57) rfl (z := 10) (by decide) dX11_price_55 ?_
        refine sb_iload_n (pc' := 58) rfl rfl dX11_price_57 ?_
        refine sb_imul (pc' := 59) rfl dX11_price_58 ?_
        refine sb_iadd (pc' := 60) rfl dX11_price_59 ?_
        refine sb_bipush (pc' := 62) rfl (z := 8) (by decide) dX11_price_60 ?_
        refine sb_iadd (pc' := 63) rfl dX11_price_62 ?_
        refine sb_iload_n (pc' := 64) rfl rfl dX11_price_63 ?_
        obtain ⟨o4, H⟩ := H
        refine sb_iast (pc' := 65) rfl aI_103 o4.1 o4.2  dX11_price_64 ?_
        refine sb_aload_n (pc' := 66) rfl rfl dX11_price_65 ?_
        refine sb_iconst (pc' := 67) rfl dX11_price_66 ?_
        refine sb_putI (pc' := 70) rfl fi_102_20 (Or.inr (Or.inl rfl)) wd_1570 dX11_price_67 ?_
        refine sb_iload_n (pc' := 71) rfl rfl dX11_price_70 ?_
        exact sb_iret rfl rfl dX11_price_71 (H hr3 (SR_setS (SR_setI hs3 hx2) (iR_lit rfl)))
      · intro cc; have H := H.2 cc
        refine sb_iconst (pc' := 39) rfl dX11_price_38 ?_
        exact sb_iret rfl rfl dX11_price_39 (H (iR_lit rfl) (SR_setS hs2 (iR_lit rfl)))
    · intro cc; have H := H.2 cc
      refine sb_iconst (pc' := 24) rfl dX11_price_23 ?_
      refine sb_goto (tgt := 28) (by decide) dX11_price_24 ?_
      refine sb_putI (pc' := 31) rfl fi_102_0 (Or.inl rfl) wd_1550 dX11_price_28 ?_
      refine sb_aload_n (pc' := 32) rfl rfl dX11_price_31 ?_
      refine sb_getI (pc' := 35) rfl fi_102_0 wd_1550 dX11_price_32 ?_
      refine sb_if_le (pc' := 38) (tgt := 40) rfl (by decide) (SR_sc (SR_setS hs2 (iR_lit rfl)) _ _) dX11_price_35 ?_ ?_
      · intro cc; have H := H.1 cc
        refine sb_aload_n (pc' := 41) rfl rfl dX11_price_40 ?_
        refine sb_iload_n (pc' := 42) rfl rfl dX11_price_41 ?_
        refine sb_bipush (pc' := 44) rfl (z := 8) (by decide) dX11_price_42 ?_
        obtain ⟨d5, hd5, H⟩ := H
        refine sb_callV (pc' := 47) rfl rfl (rc := rc) (rs := rs) (mc' := 0) (ms' := 0) (As := [(vi x1), (vi 8)]) (st := []) of_102 rfl rfl (Nat.le_of_ble_eq_true rfl) hd5 kX11_of ⟨wd_1782, wd_1784, wd_112⟩ dX11_price_44 (Eb.mono H ?_)
        rintro o s5 ⟨r5, rfl, hr5, hs5, H⟩
        show Wb g ad d mX11_price Q 47 [some (.ref (ad 102)), some (vi x1), some (vi x2), none] [(vi r5)] s5 rc rs
        refine sb_istore_n (pc' := 48) rfl (L' := [some (.ref (ad 102)), some (vi x1), some (vi x2), some (vi r5)]) rfl (by decide) dX11_price_47 ?_
        refine sb_aload_n (pc' := 49) rfl rfl dX11_price_48 ?_
        refine sb_getC (pc' := 52) rfl fc_102_1 wd_1551 dX11_price_49 ?_
        refine sb_sipush (pc' := 55) rfl (z := 369) (by decide) dX11_price_52 ?_
        refine sb_bipush (pc' := 57) rfl (z := 10) (by decide) dX11_price_55 ?_
        refine sb_iload_n (pc' := 58) rfl rfl dX11_price_57 ?_
        refine sb_imul (pc' := 59) rfl dX11_price_58 ?_
        refine sb_iadd (pc' := 60) rfl dX11_price_59 ?_
        refine sb_bipush (pc' := 62) rfl (z := 8) (by decide) dX11_price_60 ?_
        refine sb_iadd (pc' := 63) rfl dX11_price_62 ?_
        refine sb_iload_n (pc' := 64) rfl rfl dX11_price_63 ?_
        obtain ⟨o6, H⟩ := H
        refine sb_iast (pc' := 65) rfl aI_103 o6.1 o6.2  dX11_price_64 ?_
        refine sb_aload_n (pc' := 66) rfl rfl dX11_price_65 ?_
        refine sb_iconst (pc' := 67) rfl dX11_price_66 ?_
        refine sb_putI (pc' := 70) rfl fi_102_20 (Or.inr (Or.inl rfl)) wd_1570 dX11_price_67 ?_
        refine sb_iload_n (pc' := 71) rfl rfl dX11_price_70 ?_
        exact sb_iret rfl rfl dX11_price_71 (H hr5 (SR_setS (SR_setI hs5 hx2) (iR_lit rfl)))
      · intro cc; have H := H.2 cc
        refine sb_iconst (pc' := 39) rfl dX11_price_38 ?_
        exact sb_iret rfl rfl dX11_price_39 (H (iR_lit rfl) (SR_setS hs2 (iR_lit rfl)))
  · intro cc; have H := H.2 cc
    refine sb_iconst (pc' := 10) rfl dX11_price_9 ?_
    refine sb_goto (tgt := 28) (by decide) dX11_price_10 ?_
    refine sb_putI (pc' := 31) rfl fi_102_0 (Or.inl rfl) wd_1550 dX11_price_28 ?_
    refine sb_aload_n (pc' := 32) rfl rfl dX11_price_31 ?_
    refine sb_getI (pc' := 35) rfl fi_102_0 wd_1550 dX11_price_32 ?_
    refine sb_if_le (pc' := 38) (tgt := 40) rfl (by decide) (SR_sc (SR_setS hs1 (iR_lit rfl)) _ _) dX11_price_35 ?_ ?_
    · intro cc; have H := H.1 cc
      refine sb_aload_n (pc' := 41) rfl rfl dX11_price_40 ?_
      refine sb_iload_n (pc' := 42) rfl rfl dX11_price_41 ?_
      refine sb_bipush (pc' := 44) rfl (z := 8) (by decide) dX11_price_42 ?_
      obtain ⟨d7, hd7, H⟩ := H
      refine sb_callV (pc' := 47) rfl rfl (rc := rc) (rs := rs) (mc' := 0) (ms' := 0) (As := [(vi x1), (vi 8)]) (st := []) of_102 rfl rfl (Nat.le_of_ble_eq_true rfl) hd7 kX11_of ⟨wd_1782, wd_1784, wd_112⟩ dX11_price_44 (Eb.mono H ?_)
      rintro o s7 ⟨r7, rfl, hr7, hs7, H⟩
      show Wb g ad d mX11_price Q 47 [some (.ref (ad 102)), some (vi x1), some (vi x2), none] [(vi r7)] s7 rc rs
      refine sb_istore_n (pc' := 48) rfl (L' := [some (.ref (ad 102)), some (vi x1), some (vi x2), some (vi r7)]) rfl (by decide) dX11_price_47 ?_
      refine sb_aload_n (pc' := 49) rfl rfl dX11_price_48 ?_
      refine sb_getC (pc' := 52) rfl fc_102_1 wd_1551 dX11_price_49 ?_
      refine sb_sipush (pc' := 55) rfl (z := 369) (by decide) dX11_price_52 ?_
      refine sb_bipush (pc' := 57) rfl (z := 10) (by decide) dX11_price_55 ?_
      refine sb_iload_n (pc' := 58) rfl rfl dX11_price_57 ?_
      refine sb_imul (pc' := 59) rfl dX11_price_58 ?_
      refine sb_iadd (pc' := 60) rfl dX11_price_59 ?_
      refine sb_bipush (pc' := 62) rfl (z := 8) (by decide) dX11_price_60 ?_
      refine sb_iadd (pc' := 63) rfl dX11_price_62 ?_
      refine sb_iload_n (pc' := 64) rfl rfl dX11_price_63 ?_
      obtain ⟨o8, H⟩ := H
      refine sb_iast (pc' := 65) rfl aI_103 o8.1 o8.2  dX11_price_64 ?_
      refine sb_aload_n (pc' := 66) rfl rfl dX11_price_65 ?_
      refine sb_iconst (pc' := 67) rfl dX11_price_66 ?_
      refine sb_putI (pc' := 70) rfl fi_102_20 (Or.inr (Or.inl rfl)) wd_1570 dX11_price_67 ?_
      refine sb_iload_n (pc' := 71) rfl rfl dX11_price_70 ?_
      exact sb_iret rfl rfl dX11_price_71 (H hr7 (SR_setS (SR_setI hs7 hx2) (iR_lit rfl)))
    · intro cc; have H := H.2 cc
      refine sb_iconst (pc' := 39) rfl dX11_price_38 ?_
      exact sb_iret rfl rfl dX11_price_39 (H (iR_lit rfl) (SR_setS hs1 (iR_lit rfl)))
theorem bX11_drop_0 {g : AG} {ad : Nat → Nat} {d : Nat} {Q : AO → SG → Prop} {rc rs : Nat} {σ : SG} {x1 x2 : Int}  (hx1 : iR x1) (hx2 : iR x2) (hS : SR σ) (H : Cl g ad d mX11_isPhrase 0 0 [(.ref (ad 102)), (vi x1)] σ (Ki fun r1 s1 => ((r1 = 0 → (iR x1 → iR x2 → SR (setS s1 102 0 1) → Wb g ad d mX11_drop Q 17 [some (.ref (ad 102)), some (vi x1), some (vi x2), none] [] (setS s1 102 0 1) rc rs)) ∧ (¬ r1 = 0 → (iR x1 → iR x2 → SR (setS s1 102 0 0) → Wb g ad d mX11_drop Q 17 [some (.ref (ad 102)), some (vi x1), some (vi x2), none] [] (setS s1 102 0 0) rc rs))))) : Wb g ad d mX11_drop Q 0 [some (.ref (ad 102)), some (vi x1), some (vi x2), none] [] σ rc rs := by
  refine sb_aload_n (pc' := 1) rfl rfl dX11_drop_0 ?_
  refine sb_aload_n (pc' := 2) rfl rfl dX11_drop_1 ?_
  refine sb_iload_n (pc' := 3) rfl rfl dX11_drop_2 ?_
  obtain ⟨d1, hd1, H⟩ := H
  refine sb_callV (pc' := 6) rfl rfl (rc := rc) (rs := rs) (mc' := 0) (ms' := 0) (As := [(vi x1)]) (st := [(.ref (ad 102))]) of_102 rfl rfl (Nat.le_of_ble_eq_true rfl) hd1 kX11_isPhrase ⟨wd_1846, wd_1848, wd_122⟩ dX11_drop_3 (Eb.mono H ?_)
  rintro o s1 ⟨r1, rfl, hr1, hs1, H⟩
  show Wb g ad d mX11_drop Q 6 [some (.ref (ad 102)), some (vi x1), some (vi x2), none] [(vi r1), (.ref (ad 102))] s1 rc rs
  refine sb_if_eq (pc' := 9) (tgt := 13) rfl (by decide) hr1 dX11_drop_6 ?_ ?_
  · intro cc; have H := H.1 cc
    refine sb_iconst (pc' := 14) rfl dX11_drop_13 ?_
    refine sb_putI (pc' := 17) rfl fi_102_0 (Or.inl rfl) wd_1550 dX11_drop_14 ?_
    exact (H hx1 hx2 (SR_setS hs1 (iR_lit rfl)))
  · intro cc; have H := H.2 cc
    refine sb_iconst (pc' := 10) rfl dX11_drop_9 ?_
    refine sb_goto (tgt := 14) (by decide) dX11_drop_10 ?_
    refine sb_putI (pc' := 17) rfl fi_102_0 (Or.inl rfl) wd_1550 dX11_drop_14 ?_
    exact (H hx1 hx2 (SR_setS hs1 (iR_lit rfl)))
theorem bX11_drop_17 {g : AG} {ad : Nat → Nat} {d : Nat} {Q : AO → SG → Prop} {rc rs : Nat} {σ : SG} {x1 x2 : Int}  (hx1 : iR x1) (hx2 : iR x2) (hS : SR σ) (H : (((sc σ 102 0) ≤ 0 → Cl g ad d mX11_of 0 0 [(.ref (ad 102)), (vi x1), (vi 9)] σ (Ki fun r1 s1 => ((¬ r1 = 1 → (iR x1 → iR x2 → iR 0 → SR (setS s1 102 0 0) → Wb g ad d mX11_drop Q 81 [some (.ref (ad 102)), some (vi x1), some (vi x2), some (vi 0)] [] (setS s1 102 0 0) rc rs)) ∧ (r1 = 1 → ((¬ x2 = 0 → (iR x1 → iR x2 → iR 1 → SR (setS s1 102 0 0) → Wb g ad d mX11_drop Q 81 [some (.ref (ad 102)), some (vi x1), some (vi x2), some (vi 1)] [] (setS s1 102 0 0) rc rs)) ∧ (x2 = 0 → Cl g ad d mX11_alike 0 0 [(.ref (ad 102)), (.ref (ad 103)), (vi (369 + (10 * x1))), (vi x1)] s1 (Ki fun r2 s2 => ((r2 = ((-1)) → (iR x1 → iR x2 → iR 1 → SR (setS s2 102 0 0) → Wb g ad d mX11_drop Q 81 [some (.ref (ad 102)), some (vi x1), some (vi x2), some (vi 1)] [] (setS s2 102 0 0) rc rs)) ∧ (¬ r2 = ((-1)) → (iR x1 → iR x2 → iR 1 → SR (setS s2 102 0 2) → Wb g ad d mX11_drop Q 81 [some (.ref (ad 102)), some (vi x1), some (vi x2), some (vi 1)] [] (setS s2 102 0 2) rc rs)))))))))) ∧ (¬ (sc σ 102 0) ≤ 0 → (iR 0 → SR σ → Q (.inl (some (vi 0))) σ)))) : Wb g ad d mX11_drop Q 17 [some (.ref (ad 102)), some (vi x1), some (vi x2), none] [] σ rc rs := by
  refine sb_aload_n (pc' := 18) rfl rfl dX11_drop_17 ?_
  refine sb_getI (pc' := 21) rfl fi_102_0 wd_1550 dX11_drop_18 ?_
  refine sb_if_le (pc' := 24) (tgt := 26) rfl (by decide) (SR_sc hS _ _) dX11_drop_21 ?_ ?_
  · intro cc; have H := H.1 cc
    refine sb_aload_n (pc' := 27) rfl rfl dX11_drop_26 ?_
    refine sb_iload_n (pc' := 28) rfl rfl dX11_drop_27 ?_
    refine sb_bipush (pc' := 30) rfl (z := 9) (by decide) dX11_drop_28 ?_
    obtain ⟨d1, hd1, H⟩ := H
    refine sb_callV (pc' := 33) rfl rfl (rc := rc) (rs := rs) (mc' := 0) (ms' := 0) (As := [(vi x1), (vi 9)]) (st := []) of_102 rfl rfl (Nat.le_of_ble_eq_true rfl) hd1 kX11_of ⟨wd_1782, wd_1784, wd_112⟩ dX11_drop_30 (Eb.mono H ?_)
    rintro o s1 ⟨r1, rfl, hr1, hs1, H⟩
    show Wb g ad d mX11_drop Q 33 [some (.ref (ad 102)), some (vi x1), some (vi x2), none] [(vi r1)] s1 rc rs
    refine sb_iconst (pc' := 34) rfl dX11_drop_33 ?_
    refine sb_icmp_ne (pc' := 37) (tgt := 41) rfl (by decide) hr1 (iR_lit rfl) dX11_drop_34 ?_ ?_
    · intro cc; have H := H.1 cc
      refine sb_iconst (pc' := 42) rfl dX11_drop_41 ?_
      refine sb_istore_n (pc' := 43) rfl (L' := [some (.ref (ad 102)), some (vi x1), some (vi x2), some (vi 0)]) rfl (by decide) dX11_drop_42 ?_
      refine sb_aload_n (pc' := 44) rfl rfl dX11_drop_43 ?_
      refine sb_iload_n (pc' := 45) rfl rfl dX11_drop_44 ?_
      refine sb_if_eq (pc' := 48) (tgt := 77) rfl (by decide) (iR_lit rfl) dX11_drop_45 ?_ ?_
      · intro cc
        refine sb_iconst (pc' := 78) rfl dX11_drop_77 ?_
        refine sb_putI (pc' := 81) rfl fi_102_0 (Or.inl rfl) wd_1550 dX11_drop_78 ?_
        exact (H hx1 hx2 (iR_lit rfl) (SR_setS hs1 (iR_lit rfl)))
      · intro cc; exact absurd cc (by decide)
    · intro cc; have H := H.2 cc
      refine sb_iconst (pc' := 38) rfl dX11_drop_37 ?_
      refine sb_goto (tgt := 42) (by decide) dX11_drop_38 ?_
      refine sb_istore_n (pc' := 43) rfl (L' := [some (.ref (ad 102)), some (vi x1), some (vi x2), some (vi 1)]) rfl (by decide) dX11_drop_42 ?_
      refine sb_aload_n (pc' := 44) rfl rfl dX11_drop_43 ?_
      refine sb_iload_n (pc' := 45) rfl rfl dX11_drop_44 ?_
      refine sb_if_eq (pc' := 48) (tgt := 77) rfl (by decide) (iR_lit rfl) dX11_drop_45 ?_ ?_
      · intro cc; exact absurd cc (by decide)
      · intro cc
        refine sb_iload_n (pc' := 49) rfl rfl dX11_drop_48 ?_
        refine sb_if_ne (pc' := 52) (tgt := 77) rfl (by decide) hx2 dX11_drop_49 ?_ ?_
        · intro cc; have H := H.1 cc
          refine sb_iconst (pc' := 78) rfl dX11_drop_77 ?_
          refine sb_putI (pc' := 81) rfl fi_102_0 (Or.inl rfl) wd_1550 dX11_drop_78 ?_
          exact (H hx1 hx2 (iR_lit rfl) (SR_setS hs1 (iR_lit rfl)))
        · intro cc; have H := H.2 cc
          refine sb_aload_n (pc' := 53) rfl rfl dX11_drop_52 ?_
          refine sb_aload_n (pc' := 54) rfl rfl dX11_drop_53 ?_
          refine sb_getC (pc' := 57) rfl fc_102_1 wd_1551 dX11_drop_54 ?_
          refine sb_sipush (pc' := 60) rfl (z := 369) (by decide) dX11_drop_57 ?_
          refine sb_bipush (pc' := 62) rfl (z := 10) (by decide) dX11_drop_60 ?_
          refine sb_iload_n (pc' := 63) rfl rfl dX11_drop_62 ?_
          refine sb_imul (pc' := 64) rfl dX11_drop_63 ?_
          refine sb_iadd (pc' := 65) rfl dX11_drop_64 ?_
          refine sb_iload_n (pc' := 66) rfl rfl dX11_drop_65 ?_
          obtain ⟨d2, hd2, H⟩ := H
          refine sb_callV (pc' := 69) rfl rfl (rc := rc) (rs := rs) (mc' := 0) (ms' := 0) (As := [(.ref (ad 103)), (vi (369 + (10 * x1))), (vi x1)]) (st := [(.ref (ad 102))]) of_102 rfl rfl (Nat.le_of_ble_eq_true rfl) hd2 kX11_alike ⟨wd_1778, wd_1780, wd_111⟩ dX11_drop_66 (Eb.mono H ?_)
          rintro o s2 ⟨r2, rfl, hr2, hs2, H⟩
          show Wb g ad d mX11_drop Q 69 [some (.ref (ad 102)), some (vi x1), some (vi x2), some (vi 1)] [(vi r2), (.ref (ad 102))] s2 rc rs
          refine sb_iconst (pc' := 70) rfl dX11_drop_69 ?_
          refine sb_icmp_eq (pc' := 73) (tgt := 77) rfl (by decide) hr2 (iR_lit rfl) dX11_drop_70 ?_ ?_
          · intro cc; have H := H.1 cc
            refine sb_iconst (pc' := 78) rfl dX11_drop_77 ?_
            refine sb_putI (pc' := 81) rfl fi_102_0 (Or.inl rfl) wd_1550 dX11_drop_78 ?_
            exact (H hx1 hx2 (iR_lit rfl) (SR_setS hs2 (iR_lit rfl)))
          · intro cc; have H := H.2 cc
            refine sb_iconst (pc' := 74) rfl dX11_drop_73 ?_
            refine sb_goto (tgt := 78) (by decide) dX11_drop_74 ?_
            refine sb_putI (pc' := 81) rfl fi_102_0 (Or.inl rfl) wd_1550 dX11_drop_78 ?_
            exact (H hx1 hx2 (iR_lit rfl) (SR_setS hs2 (iR_lit rfl)))
  · intro cc; have H := H.2 cc
    refine sb_iconst (pc' := 25) rfl dX11_drop_24 ?_
    exact sb_iret rfl (nar_z2 (Or.inl rfl)) dX11_drop_25 (H (iR_lit rfl) hS)
theorem bX11_drop_81 {g : AG} {ad : Nat → Nat} {d : Nat} {Q : AO → SG → Prop} {rc rs : Nat} {σ : SG} {x1 x2 x3 : Int}  (hx1 : iR x1) (hx2 : iR x2) (hx3 : iR x3) (hS : SR σ) (H : (((sc σ 102 0) ≤ 0 → ((x2 = 0 → (0 ≤ (369 + (10 * x1)) + 9 ∧ (369 + (10 * x1)) + 9 < 855) ∧ (iR x1 → iR x2 → iR x3 → SR (setS (setI σ 103 ((369 + (10 * x1)) + 9) 0) 102 20 0) → Wb g ad d mX11_drop Q 120 [some (.ref (ad 102)), some (vi x1), some (vi x2), some (vi x3)] [] (setS (setI σ 103 ((369 + (10 * x1)) + 9) 0) 102 20 0) rc rs)) ∧ (¬ x2 = 0 → (0 ≤ (369 + (10 * x1)) + 9 ∧ (369 + (10 * x1)) + 9 < 855) ∧ (iR x1 → iR x2 → iR x3 → SR (setS (setI σ 103 ((369 + (10 * x1)) + 9) 1) 102 20 0) → Wb g ad d mX11_drop Q 120 [some (.ref (ad 102)), some (vi x1), some (vi x2), some (vi x3)] [] (setS (setI σ 103 ((369 + (10 * x1)) + 9) 1) 102 20 0) rc rs)))) ∧ (¬ (sc σ 102 0) ≤ 0 → (iR 0 → SR σ → Q (.inl (some (vi 0))) σ)))) : Wb g ad d mX11_drop Q 81 [some (.ref (ad 102)), some (vi x1), some (vi x2), some (vi x3)] [] σ rc rs := by
  refine sb_aload_n (pc' := 82) rfl rfl dX11_drop_81 ?_
  refine sb_getI (pc' := 85) rfl fi_102_0 wd_1550 dX11_drop_82 ?_
  refine sb_if_le (pc' := 88) (tgt := 90) rfl (by decide) (SR_sc hS _ _) dX11_drop_85 ?_ ?_
  · intro cc; have H := H.1 cc
    refine sb_aload_n (pc' := 91) rfl rfl dX11_drop_90 ?_
    refine sb_getC (pc' := 94) rfl fc_102_1 wd_1551 dX11_drop_91 ?_
    refine sb_sipush (pc' := 97) rfl (z := 369) (by decide) dX11_drop_94 ?_
    refine sb_bipush (pc' := 99) rfl (z := 10) (by decide) dX11_drop_97 ?_
    refine sb_iload_n (pc' := 100) rfl rfl dX11_drop_99 ?_
    refine sb_imul (pc' := 101) rfl dX11_drop_100 ?_
    refine sb_iadd (pc' := 102) rfl dX11_drop_101 ?_
    refine sb_bipush (pc' := 104) rfl (z := 9) (by decide) dX11_drop_102 ?_
    refine sb_iadd (pc' := 105) rfl dX11_drop_104 ?_
    refine sb_iload_n (pc' := 106) rfl rfl dX11_drop_105 ?_
    refine sb_if_eq (pc' := 109) (tgt := 113) rfl (by decide) hx2 dX11_drop_106 ?_ ?_
    · intro cc; have H := H.1 cc
      refine sb_iconst (pc' := 114) rfl dX11_drop_113 ?_
      obtain ⟨o1, H⟩ := H
      refine sb_iast (pc' := 115) rfl aI_103 o1.1 o1.2  dX11_drop_114 ?_
      refine sb_aload_n (pc' := 116) rfl rfl dX11_drop_115 ?_
      refine sb_iconst (pc' := 117) rfl dX11_drop_116 ?_
      refine sb_putI (pc' := 120) rfl fi_102_20 (Or.inr (Or.inl rfl)) wd_1570 dX11_drop_117 ?_
      exact (H hx1 hx2 hx3 (SR_setS (SR_setI hS (iR_lit rfl)) (iR_lit rfl)))
    · intro cc; have H := H.2 cc
      refine sb_iconst (pc' := 110) rfl dX11_drop_109 ?_
      refine sb_goto (tgt := 114) (by decide) dX11_drop_110 ?_
      obtain ⟨o2, H⟩ := H
      refine sb_iast (pc' := 115) rfl aI_103 o2.1 o2.2  dX11_drop_114 ?_
      refine sb_aload_n (pc' := 116) rfl rfl dX11_drop_115 ?_
      refine sb_iconst (pc' := 117) rfl dX11_drop_116 ?_
      refine sb_putI (pc' := 120) rfl fi_102_20 (Or.inr (Or.inl rfl)) wd_1570 dX11_drop_117 ?_
      exact (H hx1 hx2 hx3 (SR_setS (SR_setI hS (iR_lit rfl)) (iR_lit rfl)))
  · intro cc; have H := H.2 cc
    refine sb_iconst (pc' := 89) rfl dX11_drop_88 ?_
    exact sb_iret rfl (nar_z2 (Or.inl rfl)) dX11_drop_89 (H (iR_lit rfl) hS)
theorem bX11_drop_120 {g : AG} {ad : Nat → Nat} {d : Nat} {Q : AO → SG → Prop} {rc rs : Nat} {σ : SG} {x1 x2 x3 : Int}  (hx1 : iR x1) (hx2 : iR x2) (hx3 : iR x3) (hS : SR σ) (H : ((x3 = x2 → (iR 0 → SR σ → Q (.inl (some (vi 0))) σ)) ∧ (¬ x3 = x2 → (iR 1 → SR σ → Q (.inl (some (vi 1))) σ)))) : Wb g ad d mX11_drop Q 120 [some (.ref (ad 102)), some (vi x1), some (vi x2), some (vi x3)] [] σ rc rs := by
  refine sb_iload_n (pc' := 121) rfl rfl dX11_drop_120 ?_
  refine sb_iload_n (pc' := 122) rfl rfl dX11_drop_121 ?_
  refine sb_icmp_eq (pc' := 125) (tgt := 129) rfl (by decide) hx3 hx2 dX11_drop_122 ?_ ?_
  · intro cc; have H := H.1 cc
    refine sb_iconst (pc' := 130) rfl dX11_drop_129 ?_
    exact sb_iret rfl (nar_z2 (Or.inl rfl)) dX11_drop_130 (H (iR_lit rfl) hS)
  · intro cc; have H := H.2 cc
    refine sb_iconst (pc' := 126) rfl dX11_drop_125 ?_
    refine sb_goto (tgt := 130) (by decide) dX11_drop_126 ?_
    exact sb_iret rfl (nar_z2 (Or.inr rfl)) dX11_drop_130 (H (iR_lit rfl) hS)
theorem bX11_tune_0 {g : AG} {ad : Nat → Nat} {d : Nat} {Q : AO → SG → Prop} {rc rs : Nat} {σ : SG} {x1 x2 : Int}  (hx1 : iR x1) (hx2 : iR x2) (hS : SR σ) (H : Cl g ad d mX11_isIn 0 0 [(vi x1), (vi 0), (vi 4)] σ (Ki fun r1 s1 => ((¬ r1 = 0 → (iR x1 → iR x2 → SR (setS s1 102 0 0) → Wb g ad d mX11_tune Q 18 [some (.ref (ad 102)), some (vi x1), some (vi x2), none, none] [] (setS s1 102 0 0) rc rs)) ∧ (r1 = 0 → (iR x1 → iR x2 → SR (setS s1 102 0 1) → Wb g ad d mX11_tune Q 18 [some (.ref (ad 102)), some (vi x1), some (vi x2), none, none] [] (setS s1 102 0 1) rc rs))))) : Wb g ad d mX11_tune Q 0 [some (.ref (ad 102)), some (vi x1), some (vi x2), none, none] [] σ rc rs := by
  refine sb_aload_n (pc' := 1) rfl rfl dX11_tune_0 ?_
  refine sb_iload_n (pc' := 2) rfl rfl dX11_tune_1 ?_
  refine sb_iconst (pc' := 3) rfl dX11_tune_2 ?_
  refine sb_iconst (pc' := 4) rfl dX11_tune_3 ?_
  obtain ⟨d1, hd1, H⟩ := H
  refine sb_callS (pc' := 7) rfl rfl (rc := rc) (rs := rs) (mc' := 0) (ms' := 0) (As := [(vi x1), (vi 0), (vi 4)]) (st := [(.ref (ad 102))])  rfl rfl (Nat.le_of_ble_eq_true rfl) hd1 kX11_isIn ⟨wd_1719, wd_1720⟩ dX11_tune_4 (Eb.mono H ?_)
  rintro o s1 ⟨r1, rfl, hr1, hs1, H⟩
  show Wb g ad d mX11_tune Q 7 [some (.ref (ad 102)), some (vi x1), some (vi x2), none, none] [(vi r1), (.ref (ad 102))] s1 rc rs
  refine sb_if_ne (pc' := 10) (tgt := 14) rfl (by decide) hr1 dX11_tune_7 ?_ ?_
  · intro cc; have H := H.1 cc
    refine sb_iconst (pc' := 15) rfl dX11_tune_14 ?_
    refine sb_putI (pc' := 18) rfl fi_102_0 (Or.inl rfl) wd_1550 dX11_tune_15 ?_
    exact (H hx1 hx2 (SR_setS hs1 (iR_lit rfl)))
  · intro cc; have H := H.2 cc
    refine sb_iconst (pc' := 11) rfl dX11_tune_10 ?_
    refine sb_goto (tgt := 15) (by decide) dX11_tune_11 ?_
    refine sb_putI (pc' := 18) rfl fi_102_0 (Or.inl rfl) wd_1550 dX11_tune_15 ?_
    exact (H hx1 hx2 (SR_setS hs1 (iR_lit rfl)))
theorem bX11_tune_18 {g : AG} {ad : Nat → Nat} {d : Nat} {Q : AO → SG → Prop} {rc rs : Nat} {σ : SG} {x1 x2 : Int}  (hx1 : iR x1) (hx2 : iR x2) (hS : SR σ) (H : (((sc σ 102 0) ≤ 0 → ((2 ≤ x1 → ((¬ x1 = 2 → ((¬ x1 = 3 → ((¬ x1 = 4 → Cl g ad d mX11_isIn 0 0 [(vi x2), (vi 0), (vi 40)] σ (Ki fun r1 s1 => ((r1 = 0 → (iR x1 → iR x2 → iR 40 → SR (setS s1 102 0 2) → Wb g ad d mX11_tune Q 87 [some (.ref (ad 102)), some (vi x1), some (vi x2), some (vi 40), none] [] (setS s1 102 0 2) rc rs)) ∧ (¬ r1 = 0 → (iR x1 → iR x2 → iR 40 → SR (setS s1 102 0 0) → Wb g ad d mX11_tune Q 87 [some (.ref (ad 102)), some (vi x1), some (vi x2), some (vi 40), none] [] (setS s1 102 0 0) rc rs))))) ∧ (x1 = 4 → Cl g ad d mX11_isIn 0 0 [(vi x2), (vi 1), (vi 40)] σ (Ki fun r2 s2 => ((r2 = 0 → (iR x1 → iR x2 → iR 40 → SR (setS s2 102 0 2) → Wb g ad d mX11_tune Q 87 [some (.ref (ad 102)), some (vi x1), some (vi x2), some (vi 40), none] [] (setS s2 102 0 2) rc rs)) ∧ (¬ r2 = 0 → (iR x1 → iR x2 → iR 40 → SR (setS s2 102 0 0) → Wb g ad d mX11_tune Q 87 [some (.ref (ad 102)), some (vi x1), some (vi x2), some (vi 40), none] [] (setS s2 102 0 0) rc rs))))))) ∧ (x1 = 3 → ((¬ x1 = 4 → Cl g ad d mX11_isIn 0 0 [(vi x2), (vi 0), (vi 6)] σ (Ki fun r3 s3 => ((r3 = 0 → (iR x1 → iR x2 → iR 6 → SR (setS s3 102 0 2) → Wb g ad d mX11_tune Q 87 [some (.ref (ad 102)), some (vi x1), some (vi x2), some (vi 6), none] [] (setS s3 102 0 2) rc rs)) ∧ (¬ r3 = 0 → (iR x1 → iR x2 → iR 6 → SR (setS s3 102 0 0) → Wb g ad d mX11_tune Q 87 [some (.ref (ad 102)), some (vi x1), some (vi x2), some (vi 6), none] [] (setS s3 102 0 0) rc rs))))) ∧ (x1 = 4 → Cl g ad d mX11_isIn 0 0 [(vi x2), (vi 1), (vi 6)] σ (Ki fun r4 s4 => ((r4 = 0 → (iR x1 → iR x2 → iR 6 → SR (setS s4 102 0 2) → Wb g ad d mX11_tune Q 87 [some (.ref (ad 102)), some (vi x1), some (vi x2), some (vi 6), none] [] (setS s4 102 0 2) rc rs)) ∧ (¬ r4 = 0 → (iR x1 → iR x2 → iR 6 → SR (setS s4 102 0 0) → Wb g ad d mX11_tune Q 87 [some (.ref (ad 102)), some (vi x1), some (vi x2), some (vi 6), none] [] (setS s4 102 0 0) rc rs))))))))) ∧ (x1 = 2 → ((¬ x1 = 4 → Cl g ad d mX11_isIn 0 0 [(vi x2), (vi 0), (vi 20)] σ (Ki fun r5 s5 => ((r5 = 0 → (iR x1 → iR x2 → iR 20 → SR (setS s5 102 0 2) → Wb g ad d mX11_tune Q 87 [some (.ref (ad 102)), some (vi x1), some (vi x2), some (vi 20), none] [] (setS s5 102 0 2) rc rs)) ∧ (¬ r5 = 0 → (iR x1 → iR x2 → iR 20 → SR (setS s5 102 0 0) → Wb g ad d mX11_tune Q 87 [some (.ref (ad 102)), some (vi x1), some (vi x2), some (vi 20), none] [] (setS s5 102 0 0) rc rs))))) ∧ (x1 = 4 → Cl g ad d mX11_isIn 0 0 [(vi x2), (vi 1), (vi 20)] σ (Ki fun r6 s6 => ((r6 = 0 → (iR x1 → iR x2 → iR 20 → SR (setS s6 102 0 2) → Wb g ad d mX11_tune Q 87 [some (.ref (ad 102)), some (vi x1), some (vi x2), some (vi 20), none] [] (setS s6 102 0 2) rc rs)) ∧ (¬ r6 = 0 → (iR x1 → iR x2 → iR 20 → SR (setS s6 102 0 0) → Wb g ad d mX11_tune Q 87 [some (.ref (ad 102)), some (vi x1), some (vi x2), some (vi 20), none] [] (setS s6 102 0 0) rc rs))))))))) ∧ (¬ 2 ≤ x1 → ((¬ x1 = 4 → Cl g ad d mX11_isIn 0 0 [(vi x2), (vi 0), (vi 99)] σ (Ki fun r7 s7 => ((r7 = 0 → (iR x1 → iR x2 → iR 99 → SR (setS s7 102 0 2) → Wb g ad d mX11_tune Q 87 [some (.ref (ad 102)), some (vi x1), some (vi x2), some (vi 99), none] [] (setS s7 102 0 2) rc rs)) ∧ (¬ r7 = 0 → (iR x1 → iR x2 → iR 99 → SR (setS s7 102 0 0) → Wb g ad d mX11_tune Q 87 [some (.ref (ad 102)), some (vi x1), some (vi x2), some (vi 99), none] [] (setS s7 102 0 0) rc rs))))) ∧ (x1 = 4 → Cl g ad d mX11_isIn 0 0 [(vi x2), (vi 1), (vi 99)] σ (Ki fun r8 s8 => ((r8 = 0 → (iR x1 → iR x2 → iR 99 → SR (setS s8 102 0 2) → Wb g ad d mX11_tune Q 87 [some (.ref (ad 102)), some (vi x1), some (vi x2), some (vi 99), none] [] (setS s8 102 0 2) rc rs)) ∧ (¬ r8 = 0 → (iR x1 → iR x2 → iR 99 → SR (setS s8 102 0 0) → Wb g ad d mX11_tune Q 87 [some (.ref (ad 102)), some (vi x1), some (vi x2), some (vi 99), none] [] (setS s8 102 0 0) rc rs))))))))) ∧ (¬ (sc σ 102 0) ≤ 0 → (iR 0 → SR σ → Q (.inl (some (vi 0))) σ)))) : Wb g ad d mX11_tune Q 18 [some (.ref (ad 102)), some (vi x1), some (vi x2), none, none] [] σ rc rs := by
  refine sb_aload_n (pc' := 19) rfl rfl dX11_tune_18 ?_
  refine sb_getI (pc' := 22) rfl fi_102_0 wd_1550 dX11_tune_19 ?_
  refine sb_if_le (pc' := 25) (tgt := 27) rfl (by decide) (SR_sc hS _ _) dX11_tune_22 ?_ ?_
  · intro cc; have H := H.1 cc
    refine sb_iload_n (pc' := 28) rfl rfl dX11_tune_27 ?_
    refine sb_iconst (pc' := 29) rfl dX11_tune_28 ?_
    refine sb_icmp_ge (pc' := 32) (tgt := 37) rfl (by decide) hx1 (iR_lit rfl) dX11_tune_29 ?_ ?_
    · intro cc; have H := H.1 cc
      refine sb_iload_n (pc' := 38) rfl rfl dX11_tune_37 ?_
      refine sb_iconst (pc' := 39) rfl dX11_tune_38 ?_
      refine sb_icmp_ne (pc' := 42) (tgt := 47) rfl (by decide) hx1 (iR_lit rfl) dX11_tune_39 ?_ ?_
      · intro cc; have H := H.1 cc
        refine sb_iload_n (pc' := 48) rfl rfl dX11_tune_47 ?_
        refine sb_iconst (pc' := 49) rfl dX11_tune_48 ?_
        refine sb_icmp_ne (pc' := 52) (tgt := 57) rfl (by decide) hx1 (iR_lit rfl) dX11_tune_49 ?_ ?_
        · intro cc; have H := H.1 cc
          refine sb_bipush (pc' := 59) rfl (z := 40) (by decide) dX11_tune_57 ?_
          refine sb_istore_n (pc' := 60) rfl (L' := [some (.ref (ad 102)), some (vi x1), some (vi x2), some (vi 40), none]) rfl (by decide) dX11_tune_59 ?_
          refine sb_aload_n (pc' := 61) rfl rfl dX11_tune_60 ?_
          refine sb_iload_n (pc' := 62) rfl rfl dX11_tune_61 ?_
          refine sb_iload_n (pc' := 63) rfl rfl dX11_tune_62 ?_
          refine sb_iconst (pc' := 64) rfl dX11_tune_63 ?_
          refine sb_icmp_ne (pc' := 67) (tgt := 71) rfl (by decide) hx1 (iR_lit rfl) dX11_tune_64 ?_ ?_
          · intro cc; have H := H.1 cc
            refine sb_iconst (pc' := 72) rfl dX11_tune_71 ?_
            refine sb_iload_n (pc' := 73) rfl rfl dX11_tune_72 ?_
            obtain ⟨d1, hd1, H⟩ := H
            refine sb_callS (pc' := 76) rfl rfl (rc := rc) (rs := rs) (mc' := 0) (ms' := 0) (As := [(vi x2), (vi 0), (vi 40)]) (st := [(.ref (ad 102))])  rfl rfl (Nat.le_of_ble_eq_true rfl) hd1 kX11_isIn ⟨wd_1719, wd_1720⟩ dX11_tune_73 (Eb.mono H ?_)
            rintro o s1 ⟨r1, rfl, hr1, hs1, H⟩
            show Wb g ad d mX11_tune Q 76 [some (.ref (ad 102)), some (vi x1), some (vi x2), some (vi 40), none] [(vi r1), (.ref (ad 102))] s1 rc rs
            refine sb_if_eq (pc' := 79) (tgt := 83) rfl (by decide) hr1 dX11_tune_76 ?_ ?_
            · intro cc; have H := H.1 cc
              refine sb_iconst (pc' := 84) rfl dX11_tune_83 ?_
              refine sb_putI (pc' := 87) rfl fi_102_0 (Or.inl rfl) wd_1550 dX11_tune_84 ?_
              exact (H hx1 hx2 (iR_lit rfl) (SR_setS hs1 (iR_lit rfl)))
            · intro cc; have H := H.2 cc
              refine sb_iconst (pc' := 80) rfl dX11_tune_79 ?_
              refine sb_goto (tgt := 84) (by decide) dX11_tune_80 ?_
              refine sb_putI (pc' := 87) rfl fi_102_0 (Or.inl rfl) wd_1550 dX11_tune_84 ?_
              exact (H hx1 hx2 (iR_lit rfl) (SR_setS hs1 (iR_lit rfl)))
          · intro cc; have H := H.2 cc
            refine sb_iconst (pc' := 68) rfl dX11_tune_67 ?_
            refine sb_goto (tgt := 72) (by decide) dX11_tune_68 ?_
            refine sb_iload_n (pc' := 73) rfl rfl dX11_tune_72 ?_
            obtain ⟨d2, hd2, H⟩ := H
            refine sb_callS (pc' := 76) rfl rfl (rc := rc) (rs := rs) (mc' := 0) (ms' := 0) (As := [(vi x2), (vi 1), (vi 40)]) (st := [(.ref (ad 102))])  rfl rfl (Nat.le_of_ble_eq_true rfl) hd2 kX11_isIn ⟨wd_1719, wd_1720⟩ dX11_tune_73 (Eb.mono H ?_)
            rintro o s2 ⟨r2, rfl, hr2, hs2, H⟩
            show Wb g ad d mX11_tune Q 76 [some (.ref (ad 102)), some (vi x1), some (vi x2), some (vi 40), none] [(vi r2), (.ref (ad 102))] s2 rc rs
            refine sb_if_eq (pc' := 79) (tgt := 83) rfl (by decide) hr2 dX11_tune_76 ?_ ?_
            · intro cc; have H := H.1 cc
              refine sb_iconst (pc' := 84) rfl dX11_tune_83 ?_
              refine sb_putI (pc' := 87) rfl fi_102_0 (Or.inl rfl) wd_1550 dX11_tune_84 ?_
              exact (H hx1 hx2 (iR_lit rfl) (SR_setS hs2 (iR_lit rfl)))
            · intro cc; have H := H.2 cc
              refine sb_iconst (pc' := 80) rfl dX11_tune_79 ?_
              refine sb_goto (tgt := 84) (by decide) dX11_tune_80 ?_
              refine sb_putI (pc' := 87) rfl fi_102_0 (Or.inl rfl) wd_1550 dX11_tune_84 ?_
              exact (H hx1 hx2 (iR_lit rfl) (SR_setS hs2 (iR_lit rfl)))
        · intro cc; have H := H.2 cc
          refine sb_bipush (pc' := 54) rfl (z := 6) (by decide) dX11_tune_52 ?_
          refine sb_goto (tgt := 59) (by decide) dX11_tune_54 ?_
          refine sb_istore_n (pc' := 60) rfl (L' := [some (.ref (ad 102)), some (vi x1), some (vi x2), some (vi 6), none]) rfl (by decide) dX11_tune_59 ?_
          refine sb_aload_n (pc' := 61) rfl rfl dX11_tune_60 ?_
          refine sb_iload_n (pc' := 62) rfl rfl dX11_tune_61 ?_
          refine sb_iload_n (pc' := 63) rfl rfl dX11_tune_62 ?_
          refine sb_iconst (pc' := 64) rfl dX11_tune_63 ?_
          refine sb_icmp_ne (pc' := 67) (tgt := 71) rfl (by decide) hx1 (iR_lit rfl) dX11_tune_64 ?_ ?_
          · intro cc; have H := H.1 cc
            refine sb_iconst (pc' := 72) rfl dX11_tune_71 ?_
            refine sb_iload_n (pc' := 73) rfl rfl dX11_tune_72 ?_
            obtain ⟨d3, hd3, H⟩ := H
            refine sb_callS (pc' := 76) rfl rfl (rc := rc) (rs := rs) (mc' := 0) (ms' := 0) (As := [(vi x2), (vi 0), (vi 6)]) (st := [(.ref (ad 102))])  rfl rfl (Nat.le_of_ble_eq_true rfl) hd3 kX11_isIn ⟨wd_1719, wd_1720⟩ dX11_tune_73 (Eb.mono H ?_)
            rintro o s3 ⟨r3, rfl, hr3, hs3, H⟩
            show Wb g ad d mX11_tune Q 76 [some (.ref (ad 102)), some (vi x1), some (vi x2), some (vi 6), none] [(vi r3), (.ref (ad 102))] s3 rc rs
            refine sb_if_eq (pc' := 79) (tgt := 83) rfl (by decide) hr3 dX11_tune_76 ?_ ?_
            · intro cc; have H := H.1 cc
              refine sb_iconst (pc' := 84) rfl dX11_tune_83 ?_
              refine sb_putI (pc' := 87) rfl fi_102_0 (Or.inl rfl) wd_1550 dX11_tune_84 ?_
              exact (H hx1 hx2 (iR_lit rfl) (SR_setS hs3 (iR_lit rfl)))
            · intro cc; have H := H.2 cc
              refine sb_iconst (pc' := 80) rfl dX11_tune_79 ?_
              refine sb_goto (tgt := 84) (by decide) dX11_tune_80 ?_
              refine sb_putI (pc' := 87) rfl fi_102_0 (Or.inl rfl) wd_1550 dX11_tune_84 ?_
              exact (H hx1 hx2 (iR_lit rfl) (SR_setS hs3 (iR_lit rfl)))
          · intro cc; have H := H.2 cc
            refine sb_iconst (pc' := 68) rfl dX11_tune_67 ?_
            refine sb_goto (tgt := 72) (by decide) dX11_tune_68 ?_
            refine sb_iload_n (pc' := 73) rfl rfl dX11_tune_72 ?_
            obtain ⟨d4, hd4, H⟩ := H
            refine sb_callS (pc' := 76) rfl rfl (rc := rc) (rs := rs) (mc' := 0) (ms' := 0) (As := [(vi x2), (vi 1), (vi 6)]) (st := [(.ref (ad 102))])  rfl rfl (Nat.le_of_ble_eq_true rfl) hd4 kX11_isIn ⟨wd_1719, wd_1720⟩ dX11_tune_73 (Eb.mono H ?_)
            rintro o s4 ⟨r4, rfl, hr4, hs4, H⟩
            show Wb g ad d mX11_tune Q 76 [some (.ref (ad 102)), some (vi x1), some (vi x2), some (vi 6), none] [(vi r4), (.ref (ad 102))] s4 rc rs
            refine sb_if_eq (pc' := 79) (tgt := 83) rfl (by decide) hr4 dX11_tune_76 ?_ ?_
            · intro cc; have H := H.1 cc
              refine sb_iconst (pc' := 84) rfl dX11_tune_83 ?_
              refine sb_putI (pc' := 87) rfl fi_102_0 (Or.inl rfl) wd_1550 dX11_tune_84 ?_
              exact (H hx1 hx2 (iR_lit rfl) (SR_setS hs4 (iR_lit rfl)))
            · intro cc; have H := H.2 cc
              refine sb_iconst (pc' := 80) rfl dX11_tune_79 ?_
              refine sb_goto (tgt := 84) (by decide) dX11_tune_80 ?_
              refine sb_putI (pc' := 87) rfl fi_102_0 (Or.inl rfl) wd_1550 dX11_tune_84 ?_
              exact (H hx1 hx2 (iR_lit rfl) (SR_setS hs4 (iR_lit rfl)))
      · intro cc; have H := H.2 cc
        refine sb_bipush (pc' := 44) rfl (z := 20) (by decide) dX11_tune_42 ?_
        refine sb_goto (tgt := 59) (by decide) dX11_tune_44 ?_
        refine sb_istore_n (pc' := 60) rfl (L' := [some (.ref (ad 102)), some (vi x1), some (vi x2), some (vi 20), none]) rfl (by decide) dX11_tune_59 ?_
        refine sb_aload_n (pc' := 61) rfl rfl dX11_tune_60 ?_
        refine sb_iload_n (pc' := 62) rfl rfl dX11_tune_61 ?_
        refine sb_iload_n (pc' := 63) rfl rfl dX11_tune_62 ?_
        refine sb_iconst (pc' := 64) rfl dX11_tune_63 ?_
        refine sb_icmp_ne (pc' := 67) (tgt := 71) rfl (by decide) hx1 (iR_lit rfl) dX11_tune_64 ?_ ?_
        · intro cc; have H := H.1 cc
          refine sb_iconst (pc' := 72) rfl dX11_tune_71 ?_
          refine sb_iload_n (pc' := 73) rfl rfl dX11_tune_72 ?_
          obtain ⟨d5, hd5, H⟩ := H
          refine sb_callS (pc' := 76) rfl rfl (rc := rc) (rs := rs) (mc' := 0) (ms' := 0) (As := [(vi x2), (vi 0), (vi 20)]) (st := [(.ref (ad 102))])  rfl rfl (Nat.le_of_ble_eq_true rfl) hd5 kX11_isIn ⟨wd_1719, wd_1720⟩ dX11_tune_73 (Eb.mono H ?_)
          rintro o s5 ⟨r5, rfl, hr5, hs5, H⟩
          show Wb g ad d mX11_tune Q 76 [some (.ref (ad 102)), some (vi x1), some (vi x2), some (vi 20), none] [(vi r5), (.ref (ad 102))] s5 rc rs
          refine sb_if_eq (pc' := 79) (tgt := 83) rfl (by decide) hr5 dX11_tune_76 ?_ ?_
          · intro cc; have H := H.1 cc
            refine sb_iconst (pc' := 84) rfl dX11_tune_83 ?_
            refine sb_putI (pc' := 87) rfl fi_102_0 (Or.inl rfl) wd_1550 dX11_tune_84 ?_
            exact (H hx1 hx2 (iR_lit rfl) (SR_setS hs5 (iR_lit rfl)))
          · intro cc; have H := H.2 cc
            refine sb_iconst (pc' := 80) rfl dX11_tune_79 ?_
            refine sb_goto (tgt := 84) (by decide) dX11_tune_80 ?_
            refine sb_putI (pc' := 87) rfl fi_102_0 (Or.inl rfl) wd_1550 dX11_tune_84 ?_
            exact (H hx1 hx2 (iR_lit rfl) (SR_setS hs5 (iR_lit rfl)))
        · intro cc; have H := H.2 cc
          refine sb_iconst (pc' := 68) rfl dX11_tune_67 ?_
          refine sb_goto (tgt := 72) (by decide) dX11_tune_68 ?_
          refine sb_iload_n (pc' := 73) rfl rfl dX11_tune_72 ?_
          obtain ⟨d6, hd6, H⟩ := H
          refine sb_callS (pc' := 76) rfl rfl (rc := rc) (rs := rs) (mc' := 0) (ms' := 0) (As := [(vi x2), (vi 1), (vi 20)]) (st := [(.ref (ad 102))])  rfl rfl (Nat.le_of_ble_eq_true rfl) hd6 kX11_isIn ⟨wd_1719, wd_1720⟩ dX11_tune_73 (Eb.mono H ?_)
          rintro o s6 ⟨r6, rfl, hr6, hs6, H⟩
          show Wb g ad d mX11_tune Q 76 [some (.ref (ad 102)), some (vi x1), some (vi x2), some (vi 20), none] [(vi r6), (.ref (ad 102))] s6 rc rs
          refine sb_if_eq (pc' := 79) (tgt := 83) rfl (by decide) hr6 dX11_tune_76 ?_ ?_
          · intro cc; have H := H.1 cc
            refine sb_iconst (pc' := 84) rfl dX11_tune_83 ?_
            refine sb_putI (pc' := 87) rfl fi_102_0 (Or.inl rfl) wd_1550 dX11_tune_84 ?_
            exact (H hx1 hx2 (iR_lit rfl) (SR_setS hs6 (iR_lit rfl)))
          · intro cc; have H := H.2 cc
            refine sb_iconst (pc' := 80) rfl dX11_tune_79 ?_
            refine sb_goto (tgt := 84) (by decide) dX11_tune_80 ?_
            refine sb_putI (pc' := 87) rfl fi_102_0 (Or.inl rfl) wd_1550 dX11_tune_84 ?_
            exact (H hx1 hx2 (iR_lit rfl) (SR_setS hs6 (iR_lit rfl)))
    · intro cc; have H := H.2 cc
      refine sb_bipush (pc' := 34) rfl (z := 99) (by decide) dX11_tune_32 ?_
      refine sb_goto (tgt := 59) (by decide) dX11_tune_34 ?_
      refine sb_istore_n (pc' := 60) rfl (L' := [some (.ref (ad 102)), some (vi x1), some (vi x2), some (vi 99), none]) rfl (by decide) dX11_tune_59 ?_
      refine sb_aload_n (pc' := 61) rfl rfl dX11_tune_60 ?_
      refine sb_iload_n (pc' := 62) rfl rfl dX11_tune_61 ?_
      refine sb_iload_n (pc' := 63) rfl rfl dX11_tune_62 ?_
      refine sb_iconst (pc' := 64) rfl dX11_tune_63 ?_
      refine sb_icmp_ne (pc' := 67) (tgt := 71) rfl (by decide) hx1 (iR_lit rfl) dX11_tune_64 ?_ ?_
      · intro cc; have H := H.1 cc
        refine sb_iconst (pc' := 72) rfl dX11_tune_71 ?_
        refine sb_iload_n (pc' := 73) rfl rfl dX11_tune_72 ?_
        obtain ⟨d7, hd7, H⟩ := H
        refine sb_callS (pc' := 76) rfl rfl (rc := rc) (rs := rs) (mc' := 0) (ms' := 0) (As := [(vi x2), (vi 0), (vi 99)]) (st := [(.ref (ad 102))])  rfl rfl (Nat.le_of_ble_eq_true rfl) hd7 kX11_isIn ⟨wd_1719, wd_1720⟩ dX11_tune_73 (Eb.mono H ?_)
        rintro o s7 ⟨r7, rfl, hr7, hs7, H⟩
        show Wb g ad d mX11_tune Q 76 [some (.ref (ad 102)), some (vi x1), some (vi x2), some (vi 99), none] [(vi r7), (.ref (ad 102))] s7 rc rs
        refine sb_if_eq (pc' := 79) (tgt := 83) rfl (by decide) hr7 dX11_tune_76 ?_ ?_
        · intro cc; have H := H.1 cc
          refine sb_iconst (pc' := 84) rfl dX11_tune_83 ?_
          refine sb_putI (pc' := 87) rfl fi_102_0 (Or.inl rfl) wd_1550 dX11_tune_84 ?_
          exact (H hx1 hx2 (iR_lit rfl) (SR_setS hs7 (iR_lit rfl)))
        · intro cc; have H := H.2 cc
          refine sb_iconst (pc' := 80) rfl dX11_tune_79 ?_
          refine sb_goto (tgt := 84) (by decide) dX11_tune_80 ?_
          refine sb_putI (pc' := 87) rfl fi_102_0 (Or.inl rfl) wd_1550 dX11_tune_84 ?_
          exact (H hx1 hx2 (iR_lit rfl) (SR_setS hs7 (iR_lit rfl)))
      · intro cc; have H := H.2 cc
        refine sb_iconst (pc' := 68) rfl dX11_tune_67 ?_
        refine sb_goto (tgt := 72) (by decide) dX11_tune_68 ?_
        refine sb_iload_n (pc' := 73) rfl rfl dX11_tune_72 ?_
        obtain ⟨d8, hd8, H⟩ := H
        refine sb_callS (pc' := 76) rfl rfl (rc := rc) (rs := rs) (mc' := 0) (ms' := 0) (As := [(vi x2), (vi 1), (vi 99)]) (st := [(.ref (ad 102))])  rfl rfl (Nat.le_of_ble_eq_true rfl) hd8 kX11_isIn ⟨wd_1719, wd_1720⟩ dX11_tune_73 (Eb.mono H ?_)
        rintro o s8 ⟨r8, rfl, hr8, hs8, H⟩
        show Wb g ad d mX11_tune Q 76 [some (.ref (ad 102)), some (vi x1), some (vi x2), some (vi 99), none] [(vi r8), (.ref (ad 102))] s8 rc rs
        refine sb_if_eq (pc' := 79) (tgt := 83) rfl (by decide) hr8 dX11_tune_76 ?_ ?_
        · intro cc; have H := H.1 cc
          refine sb_iconst (pc' := 84) rfl dX11_tune_83 ?_
          refine sb_putI (pc' := 87) rfl fi_102_0 (Or.inl rfl) wd_1550 dX11_tune_84 ?_
          exact (H hx1 hx2 (iR_lit rfl) (SR_setS hs8 (iR_lit rfl)))
        · intro cc; have H := H.2 cc
          refine sb_iconst (pc' := 80) rfl dX11_tune_79 ?_
          refine sb_goto (tgt := 84) (by decide) dX11_tune_80 ?_
          refine sb_putI (pc' := 87) rfl fi_102_0 (Or.inl rfl) wd_1550 dX11_tune_84 ?_
          exact (H hx1 hx2 (iR_lit rfl) (SR_setS hs8 (iR_lit rfl)))
  · intro cc; have H := H.2 cc
    refine sb_iconst (pc' := 26) rfl dX11_tune_25 ?_
    exact sb_iret rfl rfl dX11_tune_26 (H (iR_lit rfl) hS)
theorem bX11_tune_87 {g : AG} {ad : Nat → Nat} {d : Nat} {Q : AO → SG → Prop} {rc rs : Nat} {σ : SG} {x1 x2 x3 : Int}  (hx1 : iR x1) (hx2 : iR x2) (hx3 : iR x3) (hS : SR σ) (H : (((sc σ 102 0) ≤ 0 → (0 ≤ 4 + x1 ∧ 4 + x1 < 855) ∧ (iR x1 → iR x2 → iR x3 → iR (ia σ 103 (4 + x1)) → SR (setS (setI σ 103 (4 + x1) x2) 102 20 0) → Wb g ad d mX11_tune Q 120 [some (.ref (ad 102)), some (vi x1), some (vi x2), some (vi x3), some (vi (ia σ 103 (4 + x1)))] [] (setS (setI σ 103 (4 + x1) x2) 102 20 0) rc rs)) ∧ (¬ (sc σ 102 0) ≤ 0 → (iR 0 → SR σ → Q (.inl (some (vi 0))) σ)))) : Wb g ad d mX11_tune Q 87 [some (.ref (ad 102)), some (vi x1), some (vi x2), some (vi x3), none] [] σ rc rs := by
  refine sb_aload_n (pc' := 88) rfl rfl dX11_tune_87 ?_
  refine sb_getI (pc' := 91) rfl fi_102_0 wd_1550 dX11_tune_88 ?_
  refine sb_if_le (pc' := 94) (tgt := 96) rfl (by decide) (SR_sc hS _ _) dX11_tune_91 ?_ ?_
  · intro cc; have H := H.1 cc
    refine sb_aload_n (pc' := 97) rfl rfl dX11_tune_96 ?_
    refine sb_getC (pc' := 100) rfl fc_102_1 wd_1551 dX11_tune_97 ?_
    refine sb_iconst (pc' := 101) rfl dX11_tune_100 ?_
    refine sb_iload_n (pc' := 102) rfl rfl dX11_tune_101 ?_
    refine sb_iadd (pc' := 103) rfl dX11_tune_102 ?_
    obtain ⟨o1, H⟩ := H
    refine sb_iald (pc' := 104) rfl aI_103 o1.1 o1.2 dX11_tune_103 ?_
    refine sb_istore (pc' := 106) rfl (L' := [some (.ref (ad 102)), some (vi x1), some (vi x2), some (vi x3), some (vi (ia σ 103 (4 + x1)))]) rfl (by decide) dX11_tune_104 ?_
    refine sb_aload_n (pc' := 107) rfl rfl dX11_tune_106 ?_
    refine sb_getC (pc' := 110) rfl fc_102_1 wd_1551 dX11_tune_107 ?_
    refine sb_iconst (pc' := 111) rfl dX11_tune_110 ?_
    refine sb_iload_n (pc' := 112) rfl rfl dX11_tune_111 ?_
    refine sb_iadd (pc' := 113) rfl dX11_tune_112 ?_
    refine sb_iload_n (pc' := 114) rfl rfl dX11_tune_113 ?_
    refine sb_iast (pc' := 115) rfl aI_103 o1.1 o1.2  dX11_tune_114 ?_
    refine sb_aload_n (pc' := 116) rfl rfl dX11_tune_115 ?_
    refine sb_iconst (pc' := 117) rfl dX11_tune_116 ?_
    refine sb_putI (pc' := 120) rfl fi_102_20 (Or.inr (Or.inl rfl)) wd_1570 dX11_tune_117 ?_
    exact (H hx1 hx2 hx3 (SR_ia hS _ _) (SR_setS (SR_setI hS hx2) (iR_lit rfl)))
  · intro cc; have H := H.2 cc
    refine sb_iconst (pc' := 95) rfl dX11_tune_94 ?_
    exact sb_iret rfl rfl dX11_tune_95 (H (iR_lit rfl) hS)
theorem bX11_tune_120 {g : AG} {ad : Nat → Nat} {d : Nat} {Q : AO → SG → Prop} {rc rs : Nat} {σ : SG} {x1 x2 x3 x4 : Int}  (hx1 : iR x1) (hx2 : iR x2) (hx3 : iR x3) (hx4 : iR x4) (hS : SR σ) (H : (iR x4 → SR σ → Q (.inl (some (vi x4))) σ)) : Wb g ad d mX11_tune Q 120 [some (.ref (ad 102)), some (vi x1), some (vi x2), some (vi x3), some (vi x4)] [] σ rc rs := by
  refine sb_iload (pc' := 122) rfl rfl dX11_tune_120 ?_
  exact sb_iret rfl rfl dX11_tune_122 (H hx4 hS)
theorem bX11_covers_0 {g : AG} {ad : Nat → Nat} {d : Nat} {Q : AO → SG → Prop} {rc rs : Nat} {σ : SG} {x1 : Int}  (hx1 : iR x1) (hS : SR σ) (H : ((¬ x1 = 99 → Cl g ad d mX11_of 0 0 [(.ref (ad 102)), (vi x1), (vi 0)] σ (Ki fun r1 s1 => (iR r1 → SR s1 → Q (.inl (some (vi r1))) s1))) ∧ (x1 = 99 → (iR 1 → SR σ → Q (.inl (some (vi 1))) σ)))) : Wb g ad d mX11_covers Q 0 [some (.ref (ad 102)), some (vi x1)] [] σ rc rs := by
  refine sb_iload_n (pc' := 1) rfl rfl dX11_covers_0 ?_
  refine sb_bipush (pc' := 3) rfl (z := 99) (by decide) dX11_covers_1 ?_
  refine sb_icmp_ne (pc' := 6) (tgt := 10) rfl (by decide) hx1 (iR_lit rfl) dX11_covers_3 ?_ ?_
  · intro cc; have H := H.1 cc
    refine sb_aload_n (pc' := 11) rfl rfl dX11_covers_10 ?_
    refine sb_iload_n (pc' := 12) rfl rfl dX11_covers_11 ?_
    refine sb_iconst (pc' := 13) rfl dX11_covers_12 ?_
    obtain ⟨d1, hd1, H⟩ := H
    refine sb_callV (pc' := 16) rfl rfl (rc := rc) (rs := rs) (mc' := 0) (ms' := 0) (As := [(vi x1), (vi 0)]) (st := []) of_102 rfl rfl (Nat.le_of_ble_eq_true rfl) hd1 kX11_of ⟨wd_1782, wd_1784, wd_112⟩ dX11_covers_13 (Eb.mono H ?_)
    rintro o s1 ⟨r1, rfl, hr1, hs1, H⟩
    show Wb g ad d mX11_covers Q 16 [some (.ref (ad 102)), some (vi x1)] [(vi r1)] s1 rc rs
    exact sb_iret rfl rfl dX11_covers_16 (H hr1 hs1)
  · intro cc; have H := H.2 cc
    refine sb_iconst (pc' := 7) rfl dX11_covers_6 ?_
    refine sb_goto (tgt := 16) (by decide) dX11_covers_7 ?_
    exact sb_iret rfl rfl dX11_covers_16 (H (iR_lit rfl) hS)
theorem bX11_isOption_0 {g : AG} {ad : Nat → Nat} {d : Nat} {Q : AO → SG → Prop} {rc rs : Nat} {σ : SG} {x1 x2 : Int}  (hx1 : iR x1) (hx2 : iR x2) (hS : SR σ) (H : ((¬ x1 = 99 → Cl g ad d mX11_of 0 0 [(.ref (ad 102)), (vi x1), (vi 9)] σ (Ki fun r1 s1 => ((r1 = 1 → (iR 0 → SR s1 → Q (.inl (some (vi 0))) s1)) ∧ (¬ r1 = 1 → Cl g ad d mX11_covers 0 0 [(.ref (ad 102)), (vi x1)] s1 (Ki fun r2 s2 => iR (x2 + r2) ∧ (((x2 + r2) ≤ (ia s2 103 3) → (iR x1 → iR x2 → iR 0 → SR s2 → Wb g ad d mX11_isOption Q 43 [some (.ref (ad 102)), some (vi x1), some (vi x2), some (vi 0)] [] s2 rc rs)) ∧ (¬ (x2 + r2) ≤ (ia s2 103 3) → (iR 0 → SR s2 → Q (.inl (some (vi 0))) s2)))))))) ∧ (x1 = 99 → Cl g ad d mX11_isPlace 0 0 [(.ref (ad 102)), (vi x2)] σ (Ki fun r4 s4 => (r4 = 0 ∨ r4 = 1) ∧ (iR r4 → SR s4 → Q (.inl (some (vi r4))) s4))))) : Wb g ad d mX11_isOption Q 0 [some (.ref (ad 102)), some (vi x1), some (vi x2), none] [] σ rc rs := by
  refine sb_iload_n (pc' := 1) rfl rfl dX11_isOption_0 ?_
  refine sb_bipush (pc' := 3) rfl (z := 99) (by decide) dX11_isOption_1 ?_
  refine sb_icmp_ne (pc' := 6) (tgt := 12) rfl (by decide) hx1 (iR_lit rfl) dX11_isOption_3 ?_ ?_
  · intro cc; have H := H.1 cc
    refine sb_aload_n (pc' := 13) rfl rfl dX11_isOption_12 ?_
    refine sb_iload_n (pc' := 14) rfl rfl dX11_isOption_13 ?_
    refine sb_bipush (pc' := 16) rfl (z := 9) (by decide) dX11_isOption_14 ?_
    obtain ⟨d1, hd1, H⟩ := H
    refine sb_callV (pc' := 19) rfl rfl (rc := rc) (rs := rs) (mc' := 0) (ms' := 0) (As := [(vi x1), (vi 9)]) (st := []) of_102 rfl rfl (Nat.le_of_ble_eq_true rfl) hd1 kX11_of ⟨wd_1782, wd_1784, wd_112⟩ dX11_isOption_16 (Eb.mono H ?_)
    rintro o s1 ⟨r1, rfl, hr1, hs1, H⟩
    show Wb g ad d mX11_isOption Q 19 [some (.ref (ad 102)), some (vi x1), some (vi x2), none] [(vi r1)] s1 rc rs
    refine sb_iconst (pc' := 20) rfl dX11_isOption_19 ?_
    refine sb_icmp_eq (pc' := 23) (tgt := 39) rfl (by decide) hr1 (iR_lit rfl) dX11_isOption_20 ?_ ?_
    · intro cc; have H := H.1 cc
      refine sb_iconst (pc' := 40) rfl dX11_isOption_39 ?_
      exact sb_iret rfl (nar_z2 (Or.inl rfl)) dX11_isOption_40 (H (iR_lit rfl) hs1)
    · intro cc; have H := H.2 cc
      refine sb_iload_n (pc' := 24) rfl rfl dX11_isOption_23 ?_
      refine sb_aload_n (pc' := 25) rfl rfl dX11_isOption_24 ?_
      refine sb_iload_n (pc' := 26) rfl rfl dX11_isOption_25 ?_
      obtain ⟨d2, hd2, H⟩ := H
      refine sb_callV (pc' := 29) rfl rfl (rc := rc) (rs := rs) (mc' := 0) (ms' := 0) (As := [(vi x1)]) (st := [(vi x2)]) of_102 rfl rfl (Nat.le_of_ble_eq_true rfl) hd2 kX11_covers ⟨wd_1862, wd_1864, wd_126⟩ dX11_isOption_26 (Eb.mono H ?_)
      rintro o s2 ⟨r2, rfl, hr2, hs2, H⟩
      show Wb g ad d mX11_isOption Q 29 [some (.ref (ad 102)), some (vi x1), some (vi x2), none] [(vi r2), (vi x2)] s2 rc rs
      refine sb_iadd (pc' := 30) rfl dX11_isOption_29 ?_
      refine sb_aload_n (pc' := 31) rfl rfl dX11_isOption_30 ?_
      refine sb_getC (pc' := 34) rfl fc_102_1 wd_1551 dX11_isOption_31 ?_
      refine sb_iconst (pc' := 35) rfl dX11_isOption_34 ?_
      refine sb_iald (pc' := 36) rfl aI_103 (by decide) (by decide) dX11_isOption_35 ?_
      obtain ⟨o3, H⟩ := H
      refine sb_icmp_le (pc' := 39) (tgt := 41) rfl (by decide) o3 (SR_ia hs2 _ _) dX11_isOption_36 ?_ ?_
      · intro cc; have H := H.1 cc
        refine sb_iconst (pc' := 42) rfl dX11_isOption_41 ?_
        refine sb_istore_n (pc' := 43) rfl (L' := [some (.ref (ad 102)), some (vi x1), some (vi x2), some (vi 0)]) rfl (by decide) dX11_isOption_42 ?_
        exact (H hx1 hx2 (iR_lit rfl) hs2)
      · intro cc; have H := H.2 cc
        refine sb_iconst (pc' := 40) rfl dX11_isOption_39 ?_
        exact sb_iret rfl (nar_z2 (Or.inl rfl)) dX11_isOption_40 (H (iR_lit rfl) hs2)
  · intro cc; have H := H.2 cc
    refine sb_aload_n (pc' := 7) rfl rfl dX11_isOption_6 ?_
    refine sb_iload_n (pc' := 8) rfl rfl dX11_isOption_7 ?_
    obtain ⟨d4, hd4, H⟩ := H
    refine sb_callV (pc' := 11) rfl rfl (rc := rc) (rs := rs) (mc' := 0) (ms' := 0) (As := [(vi x2)]) (st := []) of_102 rfl rfl (Nat.le_of_ble_eq_true rfl) hd4 kX11_isPlace ⟨wd_1858, wd_1860, wd_125⟩ dX11_isOption_8 (Eb.mono H ?_)
    rintro o s4 ⟨r4, rfl, hr4, hs4, H⟩
    show Wb g ad d mX11_isOption Q 11 [some (.ref (ad 102)), some (vi x1), some (vi x2), none] [(vi r4)] s4 rc rs
    obtain ⟨o5, H⟩ := H
    exact sb_iret rfl (nar_z2 o5) dX11_isOption_11 (H hr4 hs4)
theorem bX11_isOption_43 {g : AG} {ad : Nat → Nat} {d : Nat} {Q : AO → SG → Prop} {rc rs : Nat} {σ : SG} {x1 x2 x3 : Int}  (hx1 : iR x1) (hx2 : iR x2) (hx3 : iR x3) (hS : SR σ) (H : Cl g ad d mX11_covers 0 0 [(.ref (ad 102)), (vi x1)] σ (Ki fun r1 s1 => ((r1 ≤ x3 → (iR 1 → SR s1 → Q (.inl (some (vi 1))) s1)) ∧ (¬ r1 ≤ x3 → Cl g ad d mX11_of 0 0 [(.ref (ad 102)), (vi x1), (vi (1 + x3))] s1 (Ki fun r2 s2 => (0 ≤ (849 + x2) + x3 ∧ (849 + x2) + x3 < 855) ∧ ((r2 = (ia s2 103 ((849 + x2) + x3)) → iR (x3 + 1) ∧ (iR x1 → iR x2 → iR (x3 + 1) → SR s2 → Wb g ad d mX11_isOption Q 43 [some (.ref (ad 102)), some (vi x1), some (vi x2), some (vi (x3 + 1))] [] s2 rc rs)) ∧ (¬ r2 = (ia s2 103 ((849 + x2) + x3)) → (iR 0 → SR s2 → Q (.inl (some (vi 0))) s2)))))))) : Wb g ad d mX11_isOption Q 43 [some (.ref (ad 102)), some (vi x1), some (vi x2), some (vi x3)] [] σ rc rs := by
  refine sb_iload_n (pc' := 44) rfl rfl dX11_isOption_43 ?_
  refine sb_aload_n (pc' := 45) rfl rfl dX11_isOption_44 ?_
  refine sb_iload_n (pc' := 46) rfl rfl dX11_isOption_45 ?_
  obtain ⟨d1, hd1, H⟩ := H
  refine sb_callV (pc' := 49) rfl rfl (rc := rc) (rs := rs) (mc' := 0) (ms' := 0) (As := [(vi x1)]) (st := [(vi x3)]) of_102 rfl rfl (Nat.le_of_ble_eq_true rfl) hd1 kX11_covers ⟨wd_1862, wd_1864, wd_126⟩ dX11_isOption_46 (Eb.mono H ?_)
  rintro o s1 ⟨r1, rfl, hr1, hs1, H⟩
  show Wb g ad d mX11_isOption Q 49 [some (.ref (ad 102)), some (vi x1), some (vi x2), some (vi x3)] [(vi r1), (vi x3)] s1 rc rs
  refine sb_icmp_ge (pc' := 52) (tgt := 83) rfl (by decide) hx3 hr1 dX11_isOption_49 ?_ ?_
  · intro cc; have H := H.1 cc
    refine sb_iconst (pc' := 84) rfl dX11_isOption_83 ?_
    exact sb_iret rfl (nar_z2 (Or.inr rfl)) dX11_isOption_84 (H (iR_lit rfl) hs1)
  · intro cc; have H := H.2 cc
    refine sb_aload_n (pc' := 53) rfl rfl dX11_isOption_52 ?_
    refine sb_iload_n (pc' := 54) rfl rfl dX11_isOption_53 ?_
    refine sb_iconst (pc' := 55) rfl dX11_isOption_54 ?_
    refine sb_iload_n (pc' := 56) rfl rfl dX11_isOption_55 ?_
    refine sb_iadd (pc' := 57) rfl dX11_isOption_56 ?_
    obtain ⟨d2, hd2, H⟩ := H
    refine sb_callV (pc' := 60) rfl rfl (rc := rc) (rs := rs) (mc' := 0) (ms' := 0) (As := [(vi x1), (vi (1 + x3))]) (st := []) of_102 rfl rfl (Nat.le_of_ble_eq_true rfl) hd2 kX11_of ⟨wd_1782, wd_1784, wd_112⟩ dX11_isOption_57 (Eb.mono H ?_)
    rintro o s2 ⟨r2, rfl, hr2, hs2, H⟩
    show Wb g ad d mX11_isOption Q 60 [some (.ref (ad 102)), some (vi x1), some (vi x2), some (vi x3)] [(vi r2)] s2 rc rs
    refine sb_aload_n (pc' := 61) rfl rfl dX11_isOption_60 ?_
    refine sb_getC (pc' := 64) rfl fc_102_1 wd_1551 dX11_isOption_61 ?_
    refine sb_sipush (pc' := 67) rfl (z := 849) (by decide) dX11_isOption_64 ?_
    refine sb_iload_n (pc' := 68) rfl rfl dX11_isOption_67 ?_
    refine sb_iadd (pc' := 69) rfl dX11_isOption_68 ?_
    refine sb_iload_n (pc' := 70) rfl rfl dX11_isOption_69 ?_
    refine sb_iadd (pc' := 71) rfl dX11_isOption_70 ?_
    obtain ⟨o3, H⟩ := H
    refine sb_iald (pc' := 72) rfl aI_103 o3.1 o3.2 dX11_isOption_71 ?_
    refine sb_icmp_eq (pc' := 75) (tgt := 77) rfl (by decide) hr2 (SR_ia hs2 _ _) dX11_isOption_72 ?_ ?_
    · intro cc; have H := H.1 cc
      refine sb_iinc (pc' := 80) rfl rfl (L' := [some (.ref (ad 102)), some (vi x1), some (vi x2), some (vi (x3 + 1))]) rfl (by decide) dX11_isOption_77 ?_
      refine sb_goto (tgt := 43) (by decide) dX11_isOption_80 ?_
      obtain ⟨o4, H⟩ := H
      exact (H hx1 hx2 o4 hs2)
    · intro cc; have H := H.2 cc
      refine sb_iconst (pc' := 76) rfl dX11_isOption_75 ?_
      exact sb_iret rfl (nar_z2 (Or.inl rfl)) dX11_isOption_76 (H (iR_lit rfl) hs2)
theorem bX11_next_0 {g : AG} {ad : Nat → Nat} {d : Nat} {Q : AO → SG → Prop} {rc rs : Nat} {σ : SG} {x1 : Int}  (hx1 : iR x1) (hS : SR σ) (H : iR (x1 + 1) ∧ (((ia σ 103 1) ≤ (x1 + 1) → ((99 < (x1 + 1) → (iR 100 → SR σ → Q (.inl (some (vi 100))) σ)) ∧ (¬ 99 < (x1 + 1) → (iR 99 → SR σ → Q (.inl (some (vi 99))) σ)))) ∧ (¬ (ia σ 103 1) ≤ (x1 + 1) → (iR (x1 + 1) → SR σ → Q (.inl (some (vi (x1 + 1)))) σ)))) : Wb g ad d mX11_next Q 0 [some (.ref (ad 102)), some (vi x1), none] [] σ rc rs := by
  refine sb_iload_n (pc' := 1) rfl rfl dX11_next_0 ?_
  refine sb_iconst (pc' := 2) rfl dX11_next_1 ?_
  refine sb_iadd (pc' := 3) rfl dX11_next_2 ?_
  refine sb_istore_n (pc' := 4) rfl (L' := [some (.ref (ad 102)), some (vi x1), some (vi (x1 + 1))]) rfl (by decide) dX11_next_3 ?_
  refine sb_iload_n (pc' := 5) rfl rfl dX11_next_4 ?_
  refine sb_aload_n (pc' := 6) rfl rfl dX11_next_5 ?_
  refine sb_getC (pc' := 9) rfl fc_102_1 wd_1551 dX11_next_6 ?_
  refine sb_iconst (pc' := 10) rfl dX11_next_9 ?_
  refine sb_iald (pc' := 11) rfl aI_103 (by decide) (by decide) dX11_next_10 ?_
  obtain ⟨o1, H⟩ := H
  refine sb_icmp_ge (pc' := 14) (tgt := 18) rfl (by decide) o1 (SR_ia hS _ _) dX11_next_11 ?_ ?_
  · intro cc; have H := H.1 cc
    refine sb_iload_n (pc' := 19) rfl rfl dX11_next_18 ?_
    refine sb_bipush (pc' := 21) rfl (z := 99) (by decide) dX11_next_19 ?_
    refine sb_icmp_gt (pc' := 24) (tgt := 29) rfl (by decide) o1 (iR_lit rfl) dX11_next_21 ?_ ?_
    · intro cc; have H := H.1 cc
      refine sb_bipush (pc' := 31) rfl (z := 100) (by decide) dX11_next_29 ?_
      exact sb_iret rfl rfl dX11_next_31 (H (iR_lit rfl) hS)
    · intro cc; have H := H.2 cc
      refine sb_bipush (pc' := 26) rfl (z := 99) (by decide) dX11_next_24 ?_
      refine sb_goto (tgt := 31) (by decide) dX11_next_26 ?_
      exact sb_iret rfl rfl dX11_next_31 (H (iR_lit rfl) hS)
  · intro cc; have H := H.2 cc
    refine sb_iload_n (pc' := 15) rfl rfl dX11_next_14 ?_
    refine sb_goto (tgt := 31) (by decide) dX11_next_15 ?_
    exact sb_iret rfl rfl dX11_next_31 (H o1 hS)
theorem bX11_option_0 {g : AG} {ad : Nat → Nat} {d : Nat} {Q : AO → SG → Prop} {rc rs : Nat} {σ : SG} {x1 x2 : Int}  (hx1 : iR x1) (hx2 : iR x2) (hS : SR σ) (H : Cl g ad d mX11_isPlace 0 0 [(.ref (ad 102)), (vi x1)] σ (Ki fun r1 s1 => ((r1 = 0 → (((sc (setS s1 102 0 1) 102 0) ≤ 0 → Cl g ad d mX11_next 0 0 [(.ref (ad 102)), (vi ((-1)))] (setS s1 102 0 1) (Ki fun r2 s2 => (iR x1 → iR x2 → iR 0 → iR r2 → SR s2 → Wb g ad d mX11_option Q 35 [some (.ref (ad 102)), some (vi x1), some (vi x2), some (vi 0), some (vi r2)] [] s2 rc rs))) ∧ (¬ (sc (setS s1 102 0 1) 102 0) ≤ 0 → (iR 0 → SR (setS s1 102 0 1) → Q (.inl (some (vi 0))) (setS s1 102 0 1))))) ∧ (¬ r1 = 0 → (((sc (setS s1 102 0 0) 102 0) ≤ 0 → Cl g ad d mX11_next 0 0 [(.ref (ad 102)), (vi ((-1)))] (setS s1 102 0 0) (Ki fun r3 s3 => (iR x1 → iR x2 → iR 0 → iR r3 → SR s3 → Wb g ad d mX11_option Q 35 [some (.ref (ad 102)), some (vi x1), some (vi x2), some (vi 0), some (vi r3)] [] s3 rc rs))) ∧ (¬ (sc (setS s1 102 0 0) 102 0) ≤ 0 → (iR 0 → SR (setS s1 102 0 0) → Q (.inl (some (vi 0))) (setS s1 102 0 0)))))))) : Wb g ad d mX11_option Q 0 [some (.ref (ad 102)), some (vi x1), some (vi x2), none, none] [] σ rc rs := by
  refine sb_aload_n (pc' := 1) rfl rfl dX11_option_0 ?_
  refine sb_aload_n (pc' := 2) rfl rfl dX11_option_1 ?_
  refine sb_iload_n (pc' := 3) rfl rfl dX11_option_2 ?_
  obtain ⟨d1, hd1, H⟩ := H
  refine sb_callV (pc' := 6) rfl rfl (rc := rc) (rs := rs) (mc' := 0) (ms' := 0) (As := [(vi x1)]) (st := [(.ref (ad 102))]) of_102 rfl rfl (Nat.le_of_ble_eq_true rfl) hd1 kX11_isPlace ⟨wd_1858, wd_1860, wd_125⟩ dX11_option_3 (Eb.mono H ?_)
  rintro o s1 ⟨r1, rfl, hr1, hs1, H⟩
  show Wb g ad d mX11_option Q 6 [some (.ref (ad 102)), some (vi x1), some (vi x2), none, none] [(vi r1), (.ref (ad 102))] s1 rc rs
  refine sb_if_eq (pc' := 9) (tgt := 13) rfl (by decide) hr1 dX11_option_6 ?_ ?_
  · intro cc; have H := H.1 cc
    refine sb_iconst (pc' := 14) rfl dX11_option_13 ?_
    refine sb_putI (pc' := 17) rfl fi_102_0 (Or.inl rfl) wd_1550 dX11_option_14 ?_
    refine sb_aload_n (pc' := 18) rfl rfl dX11_option_17 ?_
    refine sb_getI (pc' := 21) rfl fi_102_0 wd_1550 dX11_option_18 ?_
    refine sb_if_le (pc' := 24) (tgt := 26) rfl (by decide) (SR_sc (SR_setS hs1 (iR_lit rfl)) _ _) dX11_option_21 ?_ ?_
    · intro cc; have H := H.1 cc
      refine sb_iconst (pc' := 27) rfl dX11_option_26 ?_
      refine sb_istore_n (pc' := 28) rfl (L' := [some (.ref (ad 102)), some (vi x1), some (vi x2), some (vi 0), none]) rfl (by decide) dX11_option_27 ?_
      refine sb_aload_n (pc' := 29) rfl rfl dX11_option_28 ?_
      refine sb_iconst (pc' := 30) rfl dX11_option_29 ?_
      obtain ⟨d2, hd2, H⟩ := H
      refine sb_callV (pc' := 33) rfl rfl (rc := rc) (rs := rs) (mc' := 0) (ms' := 0) (As := [(vi ((-1)))]) (st := []) of_102 rfl rfl (Nat.le_of_ble_eq_true rfl) hd2 kX11_next ⟨wd_1894, wd_1896, wd_133⟩ dX11_option_30 (Eb.mono H ?_)
      rintro o s2 ⟨r2, rfl, hr2, hs2, H⟩
      show Wb g ad d mX11_option Q 33 [some (.ref (ad 102)), some (vi x1), some (vi x2), some (vi 0), none] [(vi r2)] s2 rc rs
      refine sb_istore (pc' := 35) rfl (L' := [some (.ref (ad 102)), some (vi x1), some (vi x2), some (vi 0), some (vi r2)]) rfl (by decide) dX11_option_33 ?_
      exact (H hx1 hx2 (iR_lit rfl) hr2 hs2)
    · intro cc; have H := H.2 cc
      refine sb_iconst (pc' := 25) rfl dX11_option_24 ?_
      exact sb_iret rfl rfl dX11_option_25 (H (iR_lit rfl) (SR_setS hs1 (iR_lit rfl)))
  · intro cc; have H := H.2 cc
    refine sb_iconst (pc' := 10) rfl dX11_option_9 ?_
    refine sb_goto (tgt := 14) (by decide) dX11_option_10 ?_
    refine sb_putI (pc' := 17) rfl fi_102_0 (Or.inl rfl) wd_1550 dX11_option_14 ?_
    refine sb_aload_n (pc' := 18) rfl rfl dX11_option_17 ?_
    refine sb_getI (pc' := 21) rfl fi_102_0 wd_1550 dX11_option_18 ?_
    refine sb_if_le (pc' := 24) (tgt := 26) rfl (by decide) (SR_sc (SR_setS hs1 (iR_lit rfl)) _ _) dX11_option_21 ?_ ?_
    · intro cc; have H := H.1 cc
      refine sb_iconst (pc' := 27) rfl dX11_option_26 ?_
      refine sb_istore_n (pc' := 28) rfl (L' := [some (.ref (ad 102)), some (vi x1), some (vi x2), some (vi 0), none]) rfl (by decide) dX11_option_27 ?_
      refine sb_aload_n (pc' := 29) rfl rfl dX11_option_28 ?_
      refine sb_iconst (pc' := 30) rfl dX11_option_29 ?_
      obtain ⟨d3, hd3, H⟩ := H
      refine sb_callV (pc' := 33) rfl rfl (rc := rc) (rs := rs) (mc' := 0) (ms' := 0) (As := [(vi ((-1)))]) (st := []) of_102 rfl rfl (Nat.le_of_ble_eq_true rfl) hd3 kX11_next ⟨wd_1894, wd_1896, wd_133⟩ dX11_option_30 (Eb.mono H ?_)
      rintro o s3 ⟨r3, rfl, hr3, hs3, H⟩
      show Wb g ad d mX11_option Q 33 [some (.ref (ad 102)), some (vi x1), some (vi x2), some (vi 0), none] [(vi r3)] s3 rc rs
      refine sb_istore (pc' := 35) rfl (L' := [some (.ref (ad 102)), some (vi x1), some (vi x2), some (vi 0), some (vi r3)]) rfl (by decide) dX11_option_33 ?_
      exact (H hx1 hx2 (iR_lit rfl) hr3 hs3)
    · intro cc; have H := H.2 cc
      refine sb_iconst (pc' := 25) rfl dX11_option_24 ?_
      exact sb_iret rfl rfl dX11_option_25 (H (iR_lit rfl) (SR_setS hs1 (iR_lit rfl)))
theorem bX11_option_35 {g : AG} {ad : Nat → Nat} {d : Nat} {Q : AO → SG → Prop} {rc rs : Nat} {σ : SG} {x1 x2 x3 x4 : Int}  (hx1 : iR x1) (hx2 : iR x2) (hx3 : iR x3) (hx4 : iR x4) (hS : SR σ) (H : ((99 < x4 → (iR ((-1)) → SR σ → Q (.inl (some (vi ((-1))))) σ)) ∧ (¬ 99 < x4 → Cl g ad d mX11_isOption 0 0 [(.ref (ad 102)), (vi x4), (vi x1)] σ (Ki fun r1 s1 => ((¬ r1 = 0 → ((¬ x3 = x2 → Cl g ad d mX11_next 0 0 [(.ref (ad 102)), (vi x4)] s1 (Ki fun r2 s2 => iR (x3 + 1) ∧ (iR x1 → iR x2 → iR (x3 + 1) → iR r2 → SR s2 → Wb g ad d mX11_option Q 35 [some (.ref (ad 102)), some (vi x1), some (vi x2), some (vi (x3 + 1)), some (vi r2)] [] s2 rc rs))) ∧ (x3 = x2 → (iR x4 → SR s1 → Q (.inl (some (vi x4))) s1)))) ∧ (r1 = 0 → Cl g ad d mX11_next 0 0 [(.ref (ad 102)), (vi x4)] s1 (Ki fun r4 s4 => (iR x1 → iR x2 → iR x3 → iR r4 → SR s4 → Wb g ad d mX11_option Q 35 [some (.ref (ad 102)), some (vi x1), some (vi x2), some (vi x3), some (vi r4)] [] s4 rc rs)))))))) : Wb g ad d mX11_option Q 35 [some (.ref (ad 102)), some (vi x1), some (vi x2), some (vi x3), some (vi x4)] [] σ rc rs := by
  refine sb_iload (pc' := 37) rfl rfl dX11_option_35 ?_
  refine sb_bipush (pc' := 39) rfl (z := 99) (by decide) dX11_option_37 ?_
  refine sb_icmp_gt (pc' := 42) (tgt := 77) rfl (by decide) hx4 (iR_lit rfl) dX11_option_39 ?_ ?_
  · intro cc; have H := H.1 cc
    refine sb_iconst (pc' := 78) rfl dX11_option_77 ?_
    exact sb_iret rfl rfl dX11_option_78 (H (iR_lit rfl) hS)
  · intro cc; have H := H.2 cc
    refine sb_aload_n (pc' := 43) rfl rfl dX11_option_42 ?_
    refine sb_iload (pc' := 45) rfl rfl dX11_option_43 ?_
    refine sb_iload_n (pc' := 46) rfl rfl dX11_option_45 ?_
    obtain ⟨d1, hd1, H⟩ := H
    refine sb_callV (pc' := 49) rfl rfl (rc := rc) (rs := rs) (mc' := 0) (ms' := 0) (As := [(vi x4), (vi x1)]) (st := []) of_102 rfl rfl (Nat.le_of_ble_eq_true rfl) hd1 kX11_isOption ⟨wd_1854, wd_1856, wd_124⟩ dX11_option_46 (Eb.mono H ?_)
    rintro o s1 ⟨r1, rfl, hr1, hs1, H⟩
    show Wb g ad d mX11_option Q 49 [some (.ref (ad 102)), some (vi x1), some (vi x2), some (vi x3), some (vi x4)] [(vi r1)] s1 rc rs
    refine sb_if_ne (pc' := 52) (tgt := 55) rfl (by decide) hr1 dX11_option_49 ?_ ?_
    · intro cc; have H := H.1 cc
      refine sb_iload_n (pc' := 56) rfl rfl dX11_option_55 ?_
      refine sb_iload_n (pc' := 57) rfl rfl dX11_option_56 ?_
      refine sb_icmp_ne (pc' := 60) (tgt := 63) rfl (by decide) hx3 hx2 dX11_option_57 ?_ ?_
      · intro cc; have H := H.1 cc
        refine sb_iinc (pc' := 66) rfl rfl (L' := [some (.ref (ad 102)), some (vi x1), some (vi x2), some (vi (x3 + 1)), some (vi x4)]) rfl (by decide) dX11_option_63 ?_
        refine sb_aload_n (pc' := 67) rfl rfl dX11_option_66 ?_
        refine sb_iload (pc' := 69) rfl rfl dX11_option_67 ?_
        obtain ⟨d2, hd2, H⟩ := H
        refine sb_callV (pc' := 72) rfl rfl (rc := rc) (rs := rs) (mc' := 0) (ms' := 0) (As := [(vi x4)]) (st := []) of_102 rfl rfl (Nat.le_of_ble_eq_true rfl) hd2 kX11_next ⟨wd_1894, wd_1896, wd_133⟩ dX11_option_69 (Eb.mono H ?_)
        rintro o s2 ⟨r2, rfl, hr2, hs2, H⟩
        show Wb g ad d mX11_option Q 72 [some (.ref (ad 102)), some (vi x1), some (vi x2), some (vi (x3 + 1)), some (vi x4)] [(vi r2)] s2 rc rs
        refine sb_istore (pc' := 74) rfl (L' := [some (.ref (ad 102)), some (vi x1), some (vi x2), some (vi (x3 + 1)), some (vi r2)]) rfl (by decide) dX11_option_72 ?_
        refine sb_goto (tgt := 35) (by decide) dX11_option_74 ?_
        obtain ⟨o3, H⟩ := H
        exact (H hx1 hx2 o3 hr2 hs2)
      · intro cc; have H := H.2 cc
        refine sb_iload (pc' := 62) rfl rfl dX11_option_60 ?_
        exact sb_iret rfl rfl dX11_option_62 (H hx4 hs1)
    · intro cc; have H := H.2 cc
      refine sb_goto (tgt := 66) (by decide) dX11_option_52 ?_
      refine sb_aload_n (pc' := 67) rfl rfl dX11_option_66 ?_
      refine sb_iload (pc' := 69) rfl rfl dX11_option_67 ?_
      obtain ⟨d4, hd4, H⟩ := H
      refine sb_callV (pc' := 72) rfl rfl (rc := rc) (rs := rs) (mc' := 0) (ms' := 0) (As := [(vi x4)]) (st := []) of_102 rfl rfl (Nat.le_of_ble_eq_true rfl) hd4 kX11_next ⟨wd_1894, wd_1896, wd_133⟩ dX11_option_69 (Eb.mono H ?_)
      rintro o s4 ⟨r4, rfl, hr4, hs4, H⟩
      show Wb g ad d mX11_option Q 72 [some (.ref (ad 102)), some (vi x1), some (vi x2), some (vi x3), some (vi x4)] [(vi r4)] s4 rc rs
      refine sb_istore (pc' := 74) rfl (L' := [some (.ref (ad 102)), some (vi x1), some (vi x2), some (vi x3), some (vi r4)]) rfl (by decide) dX11_option_72 ?_
      refine sb_goto (tgt := 35) (by decide) dX11_option_74 ?_
      exact (H hx1 hx2 hx3 hr4 hs4)
theorem bX11_targetMany_0 {g : AG} {ad : Nat → Nat} {d : Nat} {Q : AO → SG → Prop} {rc rs : Nat} {σ : SG} {x1 : Int}  (hx1 : iR x1) (hS : SR σ) (H : ((¬ x1 = 99 → Cl g ad d mX11_of 0 0 [(.ref (ad 102)), (vi x1), (vi 4)] σ (Ki fun r1 s1 => (iR r1 → SR s1 → Q (.inl (some (vi r1))) s1))) ∧ (x1 = 99 → (iR 1 → SR σ → Q (.inl (some (vi 1))) σ)))) : Wb g ad d mX11_targetMany Q 0 [some (.ref (ad 102)), some (vi x1)] [] σ rc rs := by
  refine sb_iload_n (pc' := 1) rfl rfl dX11_targetMany_0 ?_
  refine sb_bipush (pc' := 3) rfl (z := 99) (by decide) dX11_targetMany_1 ?_
  refine sb_icmp_ne (pc' := 6) (tgt := 10) rfl (by decide) hx1 (iR_lit rfl) dX11_targetMany_3 ?_ ?_
  · intro cc; have H := H.1 cc
    refine sb_aload_n (pc' := 11) rfl rfl dX11_targetMany_10 ?_
    refine sb_iload_n (pc' := 12) rfl rfl dX11_targetMany_11 ?_
    refine sb_iconst (pc' := 13) rfl dX11_targetMany_12 ?_
    obtain ⟨d1, hd1, H⟩ := H
    refine sb_callV (pc' := 16) rfl rfl (rc := rc) (rs := rs) (mc' := 0) (ms' := 0) (As := [(vi x1), (vi 4)]) (st := []) of_102 rfl rfl (Nat.le_of_ble_eq_true rfl) hd1 kX11_of ⟨wd_1782, wd_1784, wd_112⟩ dX11_targetMany_13 (Eb.mono H ?_)
    rintro o s1 ⟨r1, rfl, hr1, hs1, H⟩
    show Wb g ad d mX11_targetMany Q 16 [some (.ref (ad 102)), some (vi x1)] [(vi r1)] s1 rc rs
    exact sb_iret rfl rfl dX11_targetMany_16 (H hr1 hs1)
  · intro cc; have H := H.2 cc
    refine sb_iconst (pc' := 7) rfl dX11_targetMany_6 ?_
    refine sb_goto (tgt := 16) (by decide) dX11_targetMany_7 ?_
    exact sb_iret rfl rfl dX11_targetMany_16 (H (iR_lit rfl) hS)
theorem bX11_targetOf_0 {g : AG} {ad : Nat → Nat} {d : Nat} {Q : AO → SG → Prop} {rc rs : Nat} {σ : SG} {x1 x2 x3 : Int}  (hx1 : iR x1) (hx2 : iR x2) (hx3 : iR x3) (hS : SR σ) (H : ((¬ x1 = 99 → Cl g ad d mX11_of 0 0 [(.ref (ad 102)), (vi x1), (vi (5 + x3))] σ (Ki fun r1 s1 => (iR r1 → SR s1 → Q (.inl (some (vi r1))) s1))) ∧ (x1 = 99 → (0 ≤ 849 + x2 ∧ 849 + x2 < 855) ∧ (iR (ia σ 103 (849 + x2)) → SR σ → Q (.inl (some (vi (ia σ 103 (849 + x2))))) σ)))) : Wb g ad d mX11_targetOf Q 0 [some (.ref (ad 102)), some (vi x1), some (vi x2), some (vi x3)] [] σ rc rs := by
  refine sb_iload_n (pc' := 1) rfl rfl dX11_targetOf_0 ?_
  refine sb_bipush (pc' := 3) rfl (z := 99) (by decide) dX11_targetOf_1 ?_
  refine sb_icmp_ne (pc' := 6) (tgt := 19) rfl (by decide) hx1 (iR_lit rfl) dX11_targetOf_3 ?_ ?_
  · intro cc; have H := H.1 cc
    refine sb_aload_n (pc' := 20) rfl rfl dX11_targetOf_19 ?_
    refine sb_iload_n (pc' := 21) rfl rfl dX11_targetOf_20 ?_
    refine sb_iconst (pc' := 22) rfl dX11_targetOf_21 ?_
    refine sb_iload_n (pc' := 23) rfl rfl dX11_targetOf_22 ?_
    refine sb_iadd (pc' := 24) rfl dX11_targetOf_23 ?_
    obtain ⟨d1, hd1, H⟩ := H
    refine sb_callV (pc' := 27) rfl rfl (rc := rc) (rs := rs) (mc' := 0) (ms' := 0) (As := [(vi x1), (vi (5 + x3))]) (st := []) of_102 rfl rfl (Nat.le_of_ble_eq_true rfl) hd1 kX11_of ⟨wd_1782, wd_1784, wd_112⟩ dX11_targetOf_24 (Eb.mono H ?_)
    rintro o s1 ⟨r1, rfl, hr1, hs1, H⟩
    show Wb g ad d mX11_targetOf Q 27 [some (.ref (ad 102)), some (vi x1), some (vi x2), some (vi x3)] [(vi r1)] s1 rc rs
    exact sb_iret rfl rfl dX11_targetOf_27 (H hr1 hs1)
  · intro cc; have H := H.2 cc
    refine sb_aload_n (pc' := 7) rfl rfl dX11_targetOf_6 ?_
    refine sb_getC (pc' := 10) rfl fc_102_1 wd_1551 dX11_targetOf_7 ?_
    refine sb_sipush (pc' := 13) rfl (z := 849) (by decide) dX11_targetOf_10 ?_
    refine sb_iload_n (pc' := 14) rfl rfl dX11_targetOf_13 ?_
    refine sb_iadd (pc' := 15) rfl dX11_targetOf_14 ?_
    obtain ⟨o2, H⟩ := H
    refine sb_iald (pc' := 16) rfl aI_103 o2.1 o2.2 dX11_targetOf_15 ?_
    refine sb_goto (tgt := 27) (by decide) dX11_targetOf_16 ?_
    exact sb_iret rfl rfl dX11_targetOf_27 (H (SR_ia hS _ _) hS)
theorem bX11_maskOf_0 {g : AG} {ad : Nat → Nat} {d : Nat} {Q : AO → SG → Prop} {rc rs : Nat} {σ : SG} {x1 x2 : Int}  (hx1 : iR x1) (hx2 : iR x2) (hS : SR σ) (H : Cl g ad d mX11_covers 0 0 [(.ref (ad 102)), (vi x1)] σ (Ki fun r1 s1 => (iR (bShl ((bShl 1 r1) - 1) x2) → SR s1 → Q (.inl (some (vi (bShl ((bShl 1 r1) - 1) x2)))) s1))) : Wb g ad d mX11_maskOf Q 0 [some (.ref (ad 102)), some (vi x1), some (vi x2)] [] σ rc rs := by
  refine sb_iconst (pc' := 1) rfl dX11_maskOf_0 ?_
  refine sb_aload_n (pc' := 2) rfl rfl dX11_maskOf_1 ?_
  refine sb_iload_n (pc' := 3) rfl rfl dX11_maskOf_2 ?_
  obtain ⟨d1, hd1, H⟩ := H
  refine sb_callV (pc' := 6) rfl rfl (rc := rc) (rs := rs) (mc' := 0) (ms' := 0) (As := [(vi x1)]) (st := [(vi 1)]) of_102 rfl rfl (Nat.le_of_ble_eq_true rfl) hd1 kX11_covers ⟨wd_1862, wd_1864, wd_126⟩ dX11_maskOf_3 (Eb.mono H ?_)
  rintro o s1 ⟨r1, rfl, hr1, hs1, H⟩
  show Wb g ad d mX11_maskOf Q 6 [some (.ref (ad 102)), some (vi x1), some (vi x2)] [(vi r1), (vi 1)] s1 rc rs
  refine sb_ishl (pc' := 7) rfl dX11_maskOf_6 ?_
  refine sb_iconst (pc' := 8) rfl dX11_maskOf_7 ?_
  refine sb_isub (pc' := 9) rfl dX11_maskOf_8 ?_
  refine sb_iload_n (pc' := 10) rfl rfl dX11_maskOf_9 ?_
  refine sb_ishl (pc' := 11) rfl dX11_maskOf_10 ?_
  exact sb_iret rfl rfl dX11_maskOf_11 (H (iR_b _) hs1)
theorem bX11_may_0 {g : AG} {ad : Nat → Nat} {d : Nat} {Q : AO → SG → Prop} {rc rs : Nat} {σ : SG} {x1 x2 x3 x4 : Int}  (hx1 : iR x1) (hx2 : iR x2) (hx3 : iR x3) (hx4 : iR x4) (hS : SR σ) (H : Cl g ad d mX11_apartBy 0 0 [(vi x3), (vi x2)] σ (Ki fun r1 s1 => (((ia s1 103 7) < r1 → (iR 0 → SR s1 → Q (.inl (some (vi 0))) s1)) ∧ (¬ (ia s1 103 7) < r1 → Cl g ad d mX11_isOption 0 0 [(.ref (ad 102)), (vi x4), (vi x3)] s1 (Ki fun r2 s2 => ((r2 = 0 → (iR 0 → SR s2 → Q (.inl (some (vi 0))) s2)) ∧ (¬ r2 = 0 → Cl g ad d mX11_maskOf 0 0 [(.ref (ad 102)), (vi x4), (vi x3)] s2 (Ki fun r3 s3 => ((¬ (bAnd x1 r3) = 0 → (iR 0 → SR s3 → Q (.inl (some (vi 0))) s3)) ∧ ((bAnd x1 r3) = 0 → (iR 1 → SR s3 → Q (.inl (some (vi 1))) s3))))))))))) : Wb g ad d mX11_may Q 0 [some (.ref (ad 102)), some (vi x1), some (vi x2), some (vi x3), some (vi x4)] [] σ rc rs := by
  refine sb_iload_n (pc' := 1) rfl rfl dX11_may_0 ?_
  refine sb_iload_n (pc' := 2) rfl rfl dX11_may_1 ?_
  obtain ⟨d1, hd1, H⟩ := H
  refine sb_callS (pc' := 5) rfl rfl (rc := rc) (rs := rs) (mc' := 0) (ms' := 0) (As := [(vi x3), (vi x2)]) (st := [])  rfl rfl (Nat.le_of_ble_eq_true rfl) hd1 kX11_apartBy ⟨wd_1902, wd_1903⟩ dX11_may_2 (Eb.mono H ?_)
  rintro o s1 ⟨r1, rfl, hr1, hs1, H⟩
  show Wb g ad d mX11_may Q 5 [some (.ref (ad 102)), some (vi x1), some (vi x2), some (vi x3), some (vi x4)] [(vi r1)] s1 rc rs
  refine sb_aload_n (pc' := 6) rfl rfl dX11_may_5 ?_
  refine sb_getC (pc' := 9) rfl fc_102_1 wd_1551 dX11_may_6 ?_
  refine sb_bipush (pc' := 11) rfl (z := 7) (by decide) dX11_may_9 ?_
  refine sb_iald (pc' := 12) rfl aI_103 (by decide) (by decide) dX11_may_11 ?_
  refine sb_icmp_gt (pc' := 15) (tgt := 41) rfl (by decide) hr1 (SR_ia hs1 _ _) dX11_may_12 ?_ ?_
  · intro cc; have H := H.1 cc
    refine sb_iconst (pc' := 42) rfl dX11_may_41 ?_
    exact sb_iret rfl (nar_z2 (Or.inl rfl)) dX11_may_42 (H (iR_lit rfl) hs1)
  · intro cc; have H := H.2 cc
    refine sb_aload_n (pc' := 16) rfl rfl dX11_may_15 ?_
    refine sb_iload (pc' := 18) rfl rfl dX11_may_16 ?_
    refine sb_iload_n (pc' := 19) rfl rfl dX11_may_18 ?_
    obtain ⟨d2, hd2, H⟩ := H
    refine sb_callV (pc' := 22) rfl rfl (rc := rc) (rs := rs) (mc' := 0) (ms' := 0) (As := [(vi x4), (vi x3)]) (st := []) of_102 rfl rfl (Nat.le_of_ble_eq_true rfl) hd2 kX11_isOption ⟨wd_1854, wd_1856, wd_124⟩ dX11_may_19 (Eb.mono H ?_)
    rintro o s2 ⟨r2, rfl, hr2, hs2, H⟩
    show Wb g ad d mX11_may Q 22 [some (.ref (ad 102)), some (vi x1), some (vi x2), some (vi x3), some (vi x4)] [(vi r2)] s2 rc rs
    refine sb_if_eq (pc' := 25) (tgt := 41) rfl (by decide) hr2 dX11_may_22 ?_ ?_
    · intro cc; have H := H.1 cc
      refine sb_iconst (pc' := 42) rfl dX11_may_41 ?_
      exact sb_iret rfl (nar_z2 (Or.inl rfl)) dX11_may_42 (H (iR_lit rfl) hs2)
    · intro cc; have H := H.2 cc
      refine sb_iload_n (pc' := 26) rfl rfl dX11_may_25 ?_
      refine sb_aload_n (pc' := 27) rfl rfl dX11_may_26 ?_
      refine sb_iload (pc' := 29) rfl rfl dX11_may_27 ?_
      refine sb_iload_n (pc' := 30) rfl rfl dX11_may_29 ?_
      obtain ⟨d3, hd3, H⟩ := H
      refine sb_callV (pc' := 33) rfl rfl (rc := rc) (rs := rs) (mc' := 0) (ms' := 0) (As := [(vi x4), (vi x3)]) (st := [(vi x1)]) of_102 rfl rfl (Nat.le_of_ble_eq_true rfl) hd3 kX11_maskOf ⟨wd_1905, wd_1907, wd_135⟩ dX11_may_30 (Eb.mono H ?_)
      rintro o s3 ⟨r3, rfl, hr3, hs3, H⟩
      show Wb g ad d mX11_may Q 33 [some (.ref (ad 102)), some (vi x1), some (vi x2), some (vi x3), some (vi x4)] [(vi r3), (vi x1)] s3 rc rs
      refine sb_iand (pc' := 34) rfl dX11_may_33 ?_
      refine sb_if_ne (pc' := 37) (tgt := 41) rfl (by decide) (iR_b _) dX11_may_34 ?_ ?_
      · intro cc; have H := H.1 cc
        refine sb_iconst (pc' := 42) rfl dX11_may_41 ?_
        exact sb_iret rfl (nar_z2 (Or.inl rfl)) dX11_may_42 (H (iR_lit rfl) hs3)
      · intro cc; have H := H.2 cc
        refine sb_iconst (pc' := 38) rfl dX11_may_37 ?_
        refine sb_goto (tgt := 42) (by decide) dX11_may_38 ?_
        exact sb_iret rfl (nar_z2 (Or.inr rfl)) dX11_may_42 (H (iR_lit rfl) hs3)
theorem bX11_weighs_0 {g : AG} {ad : Nat → Nat} {d : Nat} {Q : AO → SG → Prop} {rc rs : Nat} {σ : SG} {x1 x2 x3 x4 : Int}  (hx1 : iR x1) (hx2 : iR x2) (hx3 : iR x3) (hx4 : iR x4) (hS : SR σ) (H : ((¬ x4 = 99 → Cl g ad d mX11_of 0 0 [(.ref (ad 102)), (vi x4), (vi 8)] σ (Ki fun r1 s1 => Cl g ad d mX11_apartBy 0 0 [(vi x3), (vi x1)] s1 (Ki fun r2 s2 => iR (r1 + ((ia s1 103 6) * r2)) ∧ (iR x1 → iR x2 → iR x3 → iR x4 → iR 0 → SR (setS (setS s2 102 22 (r1 + ((ia s1 103 6) * r2))) 102 23 x2) → Wb g ad d mX11_weighs Q 50 [some (.ref (ad 102)), some (vi x1), some (vi x2), some (vi x3), some (vi x4), some (vi 0), none] [] (setS (setS s2 102 22 (r1 + ((ia s1 103 6) * r2))) 102 23 x2) rc rs)))) ∧ (x4 = 99 → Cl g ad d mX11_apartBy 0 0 [(vi x3), (vi x1)] σ (Ki fun r4 s4 => iR ((ia σ 103 5) + ((ia σ 103 6) * r4)) ∧ (iR x1 → iR x2 → iR x3 → iR x4 → iR 0 → SR (setS (setS s4 102 22 ((ia σ 103 5) + ((ia σ 103 6) * r4))) 102 23 x2) → Wb g ad d mX11_weighs Q 50 [some (.ref (ad 102)), some (vi x1), some (vi x2), some (vi x3), some (vi x4), some (vi 0), none] [] (setS (setS s4 102 22 ((ia σ 103 5) + ((ia σ 103 6) * r4))) 102 23 x2) rc rs))))) : Wb g ad d mX11_weighs Q 0 [some (.ref (ad 102)), some (vi x1), some (vi x2), some (vi x3), some (vi x4), none, none] [] σ rc rs := by
  refine sb_aload_n (pc' := 1) rfl rfl dX11_weighs_0 ?_
  refine sb_iload (pc' := 3) rfl rfl dX11_weighs_1 ?_
  refine sb_bipush (pc' := 5) rfl (z := 99) (by decide) dX11_weighs_3 ?_
  refine sb_icmp_ne (pc' := 8) (tgt := 17) rfl (by decide) hx4 (iR_lit rfl) dX11_weighs_5 ?_ ?_
  · intro cc; have H := H.1 cc
    refine sb_aload_n (pc' := 18) rfl rfl dX11_weighs_17 ?_
    refine sb_iload (pc' := 20) rfl rfl dX11_weighs_18 ?_
    refine sb_bipush (pc' := 22) rfl (z := 8) (by decide) dX11_weighs_20 ?_
    obtain ⟨d1, hd1, H⟩ := H
    refine sb_callV (pc' := 25) rfl rfl (rc := rc) (rs := rs) (mc' := 0) (ms' := 0) (As := [(vi x4), (vi 8)]) (st := [(.ref (ad 102))]) of_102 rfl rfl (Nat.le_of_ble_eq_true rfl) hd1 kX11_of ⟨wd_1782, wd_1784, wd_112⟩ dX11_weighs_22 (Eb.mono H ?_)
    rintro o s1 ⟨r1, rfl, hr1, hs1, H⟩
    show Wb g ad d mX11_weighs Q 25 [some (.ref (ad 102)), some (vi x1), some (vi x2), some (vi x3), some (vi x4), none, none] [(vi r1), (.ref (ad 102))] s1 rc rs
    refine sb_aload_n (pc' := 26) rfl rfl dX11_weighs_25 ?_
    refine sb_getC (pc' := 29) rfl fc_102_1 wd_1551 dX11_weighs_26 ?_
    refine sb_bipush (pc' := 31) rfl (z := 6) (by decide) dX11_weighs_29 ?_
    refine sb_iald (pc' := 32) rfl aI_103 (by decide) (by decide) dX11_weighs_31 ?_
    refine sb_iload_n (pc' := 33) rfl rfl dX11_weighs_32 ?_
    refine sb_iload_n (pc' := 34) rfl rfl dX11_weighs_33 ?_
    obtain ⟨d2, hd2, H⟩ := H
    refine sb_callS (pc' := 37) rfl rfl (rc := rc) (rs := rs) (mc' := 0) (ms' := 0) (As := [(vi x3), (vi x1)]) (st := [(vi (ia s1 103 6)), (vi r1), (.ref (ad 102))])  rfl rfl (Nat.le_of_ble_eq_true rfl) hd2 kX11_apartBy ⟨wd_1902, wd_1903⟩ dX11_weighs_34 (Eb.mono H ?_)
    rintro o s2 ⟨r2, rfl, hr2, hs2, H⟩
    show Wb g ad d mX11_weighs Q 37 [some (.ref (ad 102)), some (vi x1), some (vi x2), some (vi x3), some (vi x4), none, none] [(vi r2), (vi (ia s1 103 6)), (vi r1), (.ref (ad 102))] s2 rc rs
    refine sb_imul (pc' := 38) rfl dX11_weighs_37 ?_
    refine sb_iadd (pc' := 39) rfl dX11_weighs_38 ?_
    obtain ⟨o3, H⟩ := H
    refine sb_putI (pc' := 42) rfl fi_102_22 (Or.inl rfl) wd_1572 dX11_weighs_39 ?_
    refine sb_aload_n (pc' := 43) rfl rfl dX11_weighs_42 ?_
    refine sb_iload_n (pc' := 44) rfl rfl dX11_weighs_43 ?_
    refine sb_putI (pc' := 47) rfl fi_102_23 (Or.inl rfl) wd_1573 dX11_weighs_44 ?_
    refine sb_iconst (pc' := 48) rfl dX11_weighs_47 ?_
    refine sb_istore (pc' := 50) rfl (L' := [some (.ref (ad 102)), some (vi x1), some (vi x2), some (vi x3), some (vi x4), some (vi 0), none]) rfl (by decide) dX11_weighs_48 ?_
    exact (H hx1 hx2 hx3 hx4 (iR_lit rfl) (SR_setS (SR_setS hs2 o3) hx2))
  · intro cc; have H := H.2 cc
    refine sb_aload_n (pc' := 9) rfl rfl dX11_weighs_8 ?_
    refine sb_getC (pc' := 12) rfl fc_102_1 wd_1551 dX11_weighs_9 ?_
    refine sb_iconst (pc' := 13) rfl dX11_weighs_12 ?_
    refine sb_iald (pc' := 14) rfl aI_103 (by decide) (by decide) dX11_weighs_13 ?_
    refine sb_goto (tgt := 25) (by decide) dX11_weighs_14 ?_
    refine sb_aload_n (pc' := 26) rfl rfl dX11_weighs_25 ?_
    refine sb_getC (pc' := 29) rfl fc_102_1 wd_1551 dX11_weighs_26 ?_
    refine sb_bipush (pc' := 31) rfl (z := 6) (by decide) dX11_weighs_29 ?_
    refine sb_iald (pc' := 32) rfl aI_103 (by decide) (by decide) dX11_weighs_31 ?_
    refine sb_iload_n (pc' := 33) rfl rfl dX11_weighs_32 ?_
    refine sb_iload_n (pc' := 34) rfl rfl dX11_weighs_33 ?_
    obtain ⟨d4, hd4, H⟩ := H
    refine sb_callS (pc' := 37) rfl rfl (rc := rc) (rs := rs) (mc' := 0) (ms' := 0) (As := [(vi x3), (vi x1)]) (st := [(vi (ia σ 103 6)), (vi (ia σ 103 5)), (.ref (ad 102))])  rfl rfl (Nat.le_of_ble_eq_true rfl) hd4 kX11_apartBy ⟨wd_1902, wd_1903⟩ dX11_weighs_34 (Eb.mono H ?_)
    rintro o s4 ⟨r4, rfl, hr4, hs4, H⟩
    show Wb g ad d mX11_weighs Q 37 [some (.ref (ad 102)), some (vi x1), some (vi x2), some (vi x3), some (vi x4), none, none] [(vi r4), (vi (ia σ 103 6)), (vi (ia σ 103 5)), (.ref (ad 102))] s4 rc rs
    refine sb_imul (pc' := 38) rfl dX11_weighs_37 ?_
    refine sb_iadd (pc' := 39) rfl dX11_weighs_38 ?_
    obtain ⟨o5, H⟩ := H
    refine sb_putI (pc' := 42) rfl fi_102_22 (Or.inl rfl) wd_1572 dX11_weighs_39 ?_
    refine sb_aload_n (pc' := 43) rfl rfl dX11_weighs_42 ?_
    refine sb_iload_n (pc' := 44) rfl rfl dX11_weighs_43 ?_
    refine sb_putI (pc' := 47) rfl fi_102_23 (Or.inl rfl) wd_1573 dX11_weighs_44 ?_
    refine sb_iconst (pc' := 48) rfl dX11_weighs_47 ?_
    refine sb_istore (pc' := 50) rfl (L' := [some (.ref (ad 102)), some (vi x1), some (vi x2), some (vi x3), some (vi x4), some (vi 0), none]) rfl (by decide) dX11_weighs_48 ?_
    exact (H hx1 hx2 hx3 hx4 (iR_lit rfl) (SR_setS (SR_setS hs4 o5) hx2))
theorem bX11_weighs_50 {g : AG} {ad : Nat → Nat} {d : Nat} {Q : AO → SG → Prop} {rc rs : Nat} {σ : SG} {x1 x2 x3 x4 x5 : Int}  (hx1 : iR x1) (hx2 : iR x2) (hx3 : iR x3) (hx4 : iR x4) (hx5 : iR x5) (hS : SR σ) (H : Cl g ad d mX11_targetMany 0 0 [(.ref (ad 102)), (vi x4)] σ (Ki fun r1 s1 => ((r1 ≤ x5 → (SR s1 → Q (.inl none) s1)) ∧ (¬ r1 ≤ x5 → Cl g ad d mX11_targetOf 0 0 [(.ref (ad 102)), (vi x4), (vi x3), (vi x5)] s1 (Ki fun r2 s2 => Cl g ad d mX11_after0 0 0 [(.ref (ad 102)), (vi (sc s2 102 23)), (vi r2)] s2 (Ki fun r3 s3 => iR ((sc s2 102 22) + r3) ∧ iR (x5 + 1) ∧ (iR x1 → iR x2 → iR x3 → iR x4 → iR (x5 + 1) → SR (setS (setS s3 102 22 ((sc s2 102 22) + r3)) 102 23 r2) → Wb g ad d mX11_weighs Q 50 [some (.ref (ad 102)), some (vi x1), some (vi x2), some (vi x3), some (vi x4), some (vi (x5 + 1)), none] [] (setS (setS s3 102 22 ((sc s2 102 22) + r3)) 102 23 r2) rc rs))))))) : Wb g ad d mX11_weighs Q 50 [some (.ref (ad 102)), some (vi x1), some (vi x2), some (vi x3), some (vi x4), some (vi x5), none] [] σ rc rs := by
  refine sb_iload (pc' := 52) rfl rfl dX11_weighs_50 ?_
  refine sb_aload_n (pc' := 53) rfl rfl dX11_weighs_52 ?_
  refine sb_iload (pc' := 55) rfl rfl dX11_weighs_53 ?_
  obtain ⟨d1, hd1, H⟩ := H
  refine sb_callV (pc' := 58) rfl rfl (rc := rc) (rs := rs) (mc' := 0) (ms' := 0) (As := [(vi x4)]) (st := [(vi x5)]) of_102 rfl rfl (Nat.le_of_ble_eq_true rfl) hd1 kX11_targetMany ⟨wd_1913, wd_1915, wd_137⟩ dX11_weighs_55 (Eb.mono H ?_)
  rintro o s1 ⟨r1, rfl, hr1, hs1, H⟩
  show Wb g ad d mX11_weighs Q 58 [some (.ref (ad 102)), some (vi x1), some (vi x2), some (vi x3), some (vi x4), some (vi x5), none] [(vi r1), (vi x5)] s1 rc rs
  refine sb_icmp_ge (pc' := 61) (tgt := 103) rfl (by decide) hx5 hr1 dX11_weighs_58 ?_ ?_
  · intro cc; have H := H.1 cc
    exact sb_vret rfl dX11_weighs_103 (H hs1)
  · intro cc; have H := H.2 cc
    refine sb_aload_n (pc' := 62) rfl rfl dX11_weighs_61 ?_
    refine sb_iload (pc' := 64) rfl rfl dX11_weighs_62 ?_
    refine sb_iload_n (pc' := 65) rfl rfl dX11_weighs_64 ?_
    refine sb_iload (pc' := 67) rfl rfl dX11_weighs_65 ?_
    obtain ⟨d2, hd2, H⟩ := H
    refine sb_callV (pc' := 70) rfl rfl (rc := rc) (rs := rs) (mc' := 0) (ms' := 0) (As := [(vi x4), (vi x3), (vi x5)]) (st := []) of_102 rfl rfl (Nat.le_of_ble_eq_true rfl) hd2 kX11_targetOf ⟨wd_1917, wd_1919, wd_138⟩ dX11_weighs_67 (Eb.mono H ?_)
    rintro o s2 ⟨r2, rfl, hr2, hs2, H⟩
    show Wb g ad d mX11_weighs Q 70 [some (.ref (ad 102)), some (vi x1), some (vi x2), some (vi x3), some (vi x4), some (vi x5), none] [(vi r2)] s2 rc rs
    refine sb_istore (pc' := 72) rfl (L' := [some (.ref (ad 102)), some (vi x1), some (vi x2), some (vi x3), some (vi x4), some (vi x5), some (vi r2)]) rfl (by decide) dX11_weighs_70 ?_
    refine sb_aload_n (pc' := 73) rfl rfl dX11_weighs_72 ?_
    refine sb_dup (pc' := 74) rfl rfl dX11_weighs_73 ?_
    refine sb_getI (pc' := 77) rfl fi_102_22 wd_1572 dX11_weighs_74 ?_
    refine sb_aload_n (pc' := 78) rfl rfl dX11_weighs_77 ?_
    refine sb_aload_n (pc' := 79) rfl rfl dX11_weighs_78 ?_
    refine sb_getI (pc' := 82) rfl fi_102_23 wd_1573 dX11_weighs_79 ?_
    refine sb_iload (pc' := 84) rfl rfl dX11_weighs_82 ?_
    obtain ⟨d3, hd3, H⟩ := H
    refine sb_callV (pc' := 87) rfl rfl (rc := rc) (rs := rs) (mc' := 0) (ms' := 0) (As := [(vi (sc s2 102 23)), (vi r2)]) (st := [(vi (sc s2 102 22)), (.ref (ad 102))]) of_102 rfl rfl (Nat.le_of_ble_eq_true rfl) hd3 kX11_after0 ⟨wd_1886, wd_1888, wd_132⟩ dX11_weighs_84 (Eb.mono H ?_)
    rintro o s3 ⟨r3, rfl, hr3, hs3, H⟩
    show Wb g ad d mX11_weighs Q 87 [some (.ref (ad 102)), some (vi x1), some (vi x2), some (vi x3), some (vi x4), some (vi x5), some (vi r2)] [(vi r3), (vi (sc s2 102 22)), (.ref (ad 102))] s3 rc rs
    refine sb_iadd (pc' := 88) rfl dX11_weighs_87 ?_
    obtain ⟨o4, H⟩ := H
    refine sb_putI (pc' := 91) rfl fi_102_22 (Or.inl rfl) wd_1572 dX11_weighs_88 ?_
    refine sb_aload_n (pc' := 92) rfl rfl dX11_weighs_91 ?_
    refine sb_iload (pc' := 94) rfl rfl dX11_weighs_92 ?_
    refine sb_putI (pc' := 97) rfl fi_102_23 (Or.inl rfl) wd_1573 dX11_weighs_94 ?_
    refine sb_iinc (pc' := 100) rfl rfl (L' := [some (.ref (ad 102)), some (vi x1), some (vi x2), some (vi x3), some (vi x4), some (vi (x5 + 1)), some (vi r2)]) rfl (by decide) dX11_weighs_97 ?_
    refine sb_goto (tgt := 50) (by decide) dX11_weighs_100 ?_
    obtain ⟨o5, H⟩ := H
    refine Wb.forget [true, true, true, true, true, true, false] ?_
    exact (H hx1 hx2 hx3 hx4 o5 (SR_setS (SR_setS hs3 o4) hr2))
theorem bX11_key_0 {g : AG} {ad : Nat → Nat} {d : Nat} {Q : AO → SG → Prop} {rc rs : Nat} {σ : SG} {x0 x1 x2 : Int}  (hx0 : iR x0) (hx1 : iR x1) (hx2 : iR x2) (hS : SR σ) (H : iR (((((x0 * 7) + x1) * 42) + x2) + 1) ∧ (iR (((((x0 * 7) + x1) * 42) + x2) + 1) → SR σ → Q (.inl (some (vi (((((x0 * 7) + x1) * 42) + x2) + 1)))) σ)) : Wb g ad d mX11_key Q 0 [some (vi x0), some (vi x1), some (vi x2)] [] σ rc rs := by
  refine sb_iload_n (pc' := 1) rfl rfl dX11_key_0 ?_
  refine sb_bipush (pc' := 3) rfl (z := 7) (by decide) dX11_key_1 ?_
  refine sb_imul (pc' := 4) rfl dX11_key_3 ?_
  refine sb_iload_n (pc' := 5) rfl rfl dX11_key_4 ?_
  refine sb_iadd (pc' := 6) rfl dX11_key_5 ?_
  refine sb_bipush (pc' := 8) rfl (z := 42) (by decide) dX11_key_6 ?_
  refine sb_imul (pc' := 9) rfl dX11_key_8 ?_
  refine sb_iload_n (pc' := 10) rfl rfl dX11_key_9 ?_
  refine sb_iadd (pc' := 11) rfl dX11_key_10 ?_
  refine sb_iconst (pc' := 12) rfl dX11_key_11 ?_
  refine sb_iadd (pc' := 13) rfl dX11_key_12 ?_
  obtain ⟨o1, H⟩ := H
  exact sb_iret rfl rfl dX11_key_13 (H o1 hS)
theorem bX11_full_0 {g : AG} {ad : Nat → Nat} {d : Nat} {Q : AO → SG → Prop} {rc rs : Nat} {σ : SG}    (hS : SR σ) (H : iR ((bShl 1 (ia σ 103 3)) - 1) ∧ (iR ((bShl 1 (ia σ 103 3)) - 1) → SR σ → Q (.inl (some (vi ((bShl 1 (ia σ 103 3)) - 1)))) σ)) : Wb g ad d mX11_full Q 0 [some (.ref (ad 102))] [] σ rc rs := by
  refine sb_iconst (pc' := 1) rfl dX11_full_0 ?_
  refine sb_aload_n (pc' := 2) rfl rfl dX11_full_1 ?_
  refine sb_getC (pc' := 5) rfl fc_102_1 wd_1551 dX11_full_2 ?_
  refine sb_iconst (pc' := 6) rfl dX11_full_5 ?_
  refine sb_iald (pc' := 7) rfl aI_103 (by decide) (by decide) dX11_full_6 ?_
  refine sb_ishl (pc' := 8) rfl dX11_full_7 ?_
  refine sb_iconst (pc' := 9) rfl dX11_full_8 ?_
  refine sb_isub (pc' := 10) rfl dX11_full_9 ?_
  obtain ⟨o1, H⟩ := H
  exact sb_iret rfl rfl dX11_full_10 (H o1 hS)
theorem bX11_lays_0 {g : AG} {ad : Nat → Nat} {d : Nat} {Q : AO → SG → Prop} {rc rs : Nat} {σ : SG}    (hS : SR σ) (H : (((sc σ 102 20) = 0 → (iR 0 → SR σ → Wb g ad d mX11_lays Q 10 [some (.ref (ad 102)), some (vi 0)] [] σ rc rs)) ∧ (¬ (sc σ 102 20) = 0 → (SR σ → Q (.inl none) σ)))) : Wb g ad d mX11_lays Q 0 [some (.ref (ad 102)), none] [] σ rc rs := by
  refine sb_aload_n (pc' := 1) rfl rfl dX11_lays_0 ?_
  refine sb_getI (pc' := 4) rfl fi_102_20 wd_1570 dX11_lays_1 ?_
  refine sb_if_eq (pc' := 7) (tgt := 8) rfl (by decide) (SR_sc hS _ _) dX11_lays_4 ?_ ?_
  · intro cc; have H := H.1 cc
    refine sb_iconst (pc' := 9) rfl dX11_lays_8 ?_
    refine sb_istore_n (pc' := 10) rfl (L' := [some (.ref (ad 102)), some (vi 0)]) rfl (by decide) dX11_lays_9 ?_
    exact (H (iR_lit rfl) hS)
  · intro cc; have H := H.2 cc
    exact sb_vret rfl dX11_lays_7 (H hS)
theorem bX11_lays_10 {g : AG} {ad : Nat → Nat} {d : Nat} {Q : AO → SG → Prop} {rc rs : Nat} {σ : SG} {x1 : Int}  (hx1 : iR x1) (hS : SR σ) (H : ((18816 ≤ x1 → (SR (setS σ 102 20 1) → Q (.inl none) (setS σ 102 20 1))) ∧ (¬ 18816 ≤ x1 → (0 ≤ x1 ∧ x1 < 18816) ∧ iR (x1 + 1) ∧ (iR (x1 + 1) → SR (setI σ 112 x1 ((-1))) → Wb g ad d mX11_lays Q 10 [some (.ref (ad 102)), some (vi (x1 + 1))] [] (setI σ 112 x1 ((-1))) rc rs)))) : Wb g ad d mX11_lays Q 10 [some (.ref (ad 102)), some (vi x1)] [] σ rc rs := by
  refine sb_iload_n (pc' := 11) rfl rfl dX11_lays_10 ?_
  refine sb_sipush (pc' := 14) rfl (z := 18816) (by decide) dX11_lays_11 ?_
  refine sb_icmp_ge (pc' := 17) (tgt := 30) rfl (by decide) hx1 (iR_lit rfl) dX11_lays_14 ?_ ?_
  · intro cc; have H := H.1 cc
    refine sb_aload_n (pc' := 31) rfl rfl dX11_lays_30 ?_
    refine sb_iconst (pc' := 32) rfl dX11_lays_31 ?_
    refine sb_putI (pc' := 35) rfl fi_102_20 (Or.inr (Or.inr rfl)) wd_1570 dX11_lays_32 ?_
    exact sb_vret rfl dX11_lays_35 (H (SR_setS hS (iR_lit rfl)))
  · intro cc; have H := H.2 cc
    refine sb_aload_n (pc' := 18) rfl rfl dX11_lays_17 ?_
    refine sb_getC (pc' := 21) rfl fc_102_19 wd_1569 dX11_lays_18 ?_
    refine sb_iload_n (pc' := 22) rfl rfl dX11_lays_21 ?_
    refine sb_iconst (pc' := 23) rfl dX11_lays_22 ?_
    obtain ⟨o1, H⟩ := H
    refine sb_iast (pc' := 24) rfl aI_112 o1.1 o1.2  dX11_lays_23 ?_
    refine sb_iinc (pc' := 27) rfl rfl (L' := [some (.ref (ad 102)), some (vi (x1 + 1))]) rfl (by decide) dX11_lays_24 ?_
    refine sb_goto (tgt := 10) (by decide) dX11_lays_27 ?_
    obtain ⟨o2, H⟩ := H
    exact (H o2 (SR_setI hS (iR_lit rfl)))
theorem bX11_rest_0 {g : AG} {ad : Nat → Nat} {d : Nat} {Q : AO → SG → Prop} {rc rs : Nat} {σ : SG} {x1 x2 x3 : Int}  (hx1 : iR x1) (hx2 : iR x2) (hx3 : iR x3) (hS : SR σ) (H : Cl g ad d mX11_full 0 0 [(.ref (ad 102))] σ (Ki fun r1 s1 => ((¬ x1 = r1 → Cl g ad d mX11_key 0 0 [(vi x1), (vi x2), (vi x3)] s1 (Ki fun r2 s2 => (0 ≤ r2 ∧ r2 < 18816) ∧ (((ia s2 112 r2) = ((-1)) → (iR x1 → iR x2 → iR x3 → iR r2 → iR 1000000000 → iR 0 → SR s2 → Wb g ad d mX11_rest Q 50 [some (.ref (ad 102)), some (vi x1), some (vi x2), some (vi x3), some (vi r2), some (vi 1000000000), some (vi 0), none, none, none] [] s2 rc rs)) ∧ (¬ (ia s2 112 r2) = ((-1)) → (iR (ia s2 112 r2) → SR s2 → Q (.inl (some (vi (ia s2 112 r2)))) s2))))) ∧ (x1 = r1 → Cl g ad d mX11_after0 0 0 [(.ref (ad 102)), (vi x3), (vi ((-1)))] s1 (Ki fun r4 s4 => (iR r4 → SR s4 → Q (.inl (some (vi r4))) s4)))))) : Wb g ad d mX11_rest Q 0 [some (.ref (ad 102)), some (vi x1), some (vi x2), some (vi x3), none, none, none, none, none, none] [] σ rc rs := by
  refine sb_iload_n (pc' := 1) rfl rfl dX11_rest_0 ?_
  refine sb_aload_n (pc' := 2) rfl rfl dX11_rest_1 ?_
  obtain ⟨d1, hd1, H⟩ := H
  refine sb_callV (pc' := 5) rfl rfl (rc := rc) (rs := rs) (mc' := 0) (ms' := 0) (As := []) (st := [(vi x1)]) of_102 rfl rfl (Nat.le_of_ble_eq_true rfl) hd1 kX11_full ⟨wd_1882, wd_1884, wd_131⟩ dX11_rest_2 (Eb.mono H ?_)
  rintro o s1 ⟨r1, rfl, hr1, hs1, H⟩
  show Wb g ad d mX11_rest Q 5 [some (.ref (ad 102)), some (vi x1), some (vi x2), some (vi x3), none, none, none, none, none, none] [(vi r1), (vi x1)] s1 rc rs
  refine sb_icmp_ne (pc' := 8) (tgt := 15) rfl (by decide) hx1 hr1 dX11_rest_5 ?_ ?_
  · intro cc; have H := H.1 cc
    refine sb_iload_n (pc' := 16) rfl rfl dX11_rest_15 ?_
    refine sb_iload_n (pc' := 17) rfl rfl dX11_rest_16 ?_
    refine sb_iload_n (pc' := 18) rfl rfl dX11_rest_17 ?_
    obtain ⟨d2, hd2, H⟩ := H
    refine sb_callS (pc' := 21) rfl rfl (rc := rc) (rs := rs) (mc' := 0) (ms' := 0) (As := [(vi x1), (vi x2), (vi x3)]) (st := [])  rfl rfl (Nat.le_of_ble_eq_true rfl) hd2 kX11_key ⟨wd_1890, wd_1891⟩ dX11_rest_18 (Eb.mono H ?_)
    rintro o s2 ⟨r2, rfl, hr2, hs2, H⟩
    show Wb g ad d mX11_rest Q 21 [some (.ref (ad 102)), some (vi x1), some (vi x2), some (vi x3), none, none, none, none, none, none] [(vi r2)] s2 rc rs
    refine sb_istore (pc' := 23) rfl (L' := [some (.ref (ad 102)), some (vi x1), some (vi x2), some (vi x3), some (vi r2), none, none, none, none, none]) rfl (by decide) dX11_rest_21 ?_
    refine sb_aload_n (pc' := 24) rfl rfl dX11_rest_23 ?_
    refine sb_getC (pc' := 27) rfl fc_102_19 wd_1569 dX11_rest_24 ?_
    refine sb_iload (pc' := 29) rfl rfl dX11_rest_27 ?_
    obtain ⟨o3, H⟩ := H
    refine sb_iald (pc' := 30) rfl aI_112 o3.1 o3.2 dX11_rest_29 ?_
    refine sb_iconst (pc' := 31) rfl dX11_rest_30 ?_
    refine sb_icmp_eq (pc' := 34) (tgt := 42) rfl (by decide) (SR_ia hs2 _ _) (iR_lit rfl) dX11_rest_31 ?_ ?_
    · intro cc; have H := H.1 cc
      refine sb_ldcw (pc' := 45) rfl (z := 1000000000) rfl wd_1893 dX11_rest_42 ?_
      refine sb_istore (pc' := 47) rfl (L' := [some (.ref (ad 102)), some (vi x1), some (vi x2), some (vi x3), some (vi r2), some (vi 1000000000), none, none, none, none]) rfl (by decide) dX11_rest_45 ?_
      refine sb_iconst (pc' := 48) rfl dX11_rest_47 ?_
      refine sb_istore (pc' := 50) rfl (L' := [some (.ref (ad 102)), some (vi x1), some (vi x2), some (vi x3), some (vi r2), some (vi 1000000000), some (vi 0), none, none, none]) rfl (by decide) dX11_rest_48 ?_
      exact (H hx1 hx2 hx3 hr2 (iR_lit rfl) (iR_lit rfl) hs2)
    · intro cc; have H := H.2 cc
      refine sb_aload_n (pc' := 35) rfl rfl dX11_rest_34 ?_
      refine sb_getC (pc' := 38) rfl fc_102_19 wd_1569 dX11_rest_35 ?_
      refine sb_iload (pc' := 40) rfl rfl dX11_rest_38 ?_
      refine sb_iald (pc' := 41) rfl aI_112 o3.1 o3.2 dX11_rest_40 ?_
      exact sb_iret rfl rfl dX11_rest_41 (H (SR_ia hs2 _ _) hs2)
  · intro cc; have H := H.2 cc
    refine sb_aload_n (pc' := 9) rfl rfl dX11_rest_8 ?_
    refine sb_iload_n (pc' := 10) rfl rfl dX11_rest_9 ?_
    refine sb_iconst (pc' := 11) rfl dX11_rest_10 ?_
    obtain ⟨d4, hd4, H⟩ := H
    refine sb_callV (pc' := 14) rfl rfl (rc := rc) (rs := rs) (mc' := 0) (ms' := 0) (As := [(vi x3), (vi ((-1)))]) (st := []) of_102 rfl rfl (Nat.le_of_ble_eq_true rfl) hd4 kX11_after0 ⟨wd_1886, wd_1888, wd_132⟩ dX11_rest_11 (Eb.mono H ?_)
    rintro o s4 ⟨r4, rfl, hr4, hs4, H⟩
    show Wb g ad d mX11_rest Q 14 [some (.ref (ad 102)), some (vi x1), some (vi x2), some (vi x3), none, none, none, none, none, none] [(vi r4)] s4 rc rs
    exact sb_iret rfl rfl dX11_rest_14 (H hr4 hs4)
theorem bX11_rest_50 {g : AG} {ad : Nat → Nat} {d : Nat} {Q : AO → SG → Prop} {rc rs : Nat} {σ : SG} {x1 x2 x3 x4 x5 x6 : Int}  (hx1 : iR x1) (hx2 : iR x2) (hx3 : iR x3) (hx4 : iR x4) (hx5 : iR x5) (hx6 : iR x6) (hS : SR σ) (H : (((ia σ 103 3) ≤ x6 → Cl g ad d mX11_lesser 0 0 [(vi x5), (vi 1000000000)] σ (Ki fun r1 s1 => (0 ≤ x4 ∧ x4 < 18816) ∧ (iR (ia (setI s1 112 x4 r1) 112 x4) → SR (setI s1 112 x4 r1) → Q (.inl (some (vi (ia (setI s1 112 x4 r1) 112 x4)))) (setI s1 112 x4 r1)))) ∧ (¬ (ia σ 103 3) ≤ x6 → Cl g ad d mX11_next 0 0 [(.ref (ad 102)), (vi ((-1)))] σ (Ki fun r3 s3 => (iR x1 → iR x2 → iR x3 → iR x4 → iR x5 → iR x6 → iR r3 → SR s3 → Wb g ad d mX11_rest Q 68 [some (.ref (ad 102)), some (vi x1), some (vi x2), some (vi x3), some (vi x4), some (vi x5), some (vi x6), some (vi r3), none, none] [] s3 rc rs))))) : Wb g ad d mX11_rest Q 50 [some (.ref (ad 102)), some (vi x1), some (vi x2), some (vi x3), some (vi x4), some (vi x5), some (vi x6), none, none, none] [] σ rc rs := by
  refine sb_iload (pc' := 52) rfl rfl dX11_rest_50 ?_
  refine sb_aload_n (pc' := 53) rfl rfl dX11_rest_52 ?_
  refine sb_getC (pc' := 56) rfl fc_102_1 wd_1551 dX11_rest_53 ?_
  refine sb_iconst (pc' := 57) rfl dX11_rest_56 ?_
  refine sb_iald (pc' := 58) rfl aI_103 (by decide) (by decide) dX11_rest_57 ?_
  refine sb_icmp_ge (pc' := 61) (tgt := 165) rfl (by decide) hx6 (SR_ia hS _ _) dX11_rest_58 ?_ ?_
  · intro cc; have H := H.1 cc
    refine sb_aload_n (pc' := 166) rfl rfl dX11_rest_165 ?_
    refine sb_getC (pc' := 169) rfl fc_102_19 wd_1569 dX11_rest_166 ?_
    refine sb_iload (pc' := 171) rfl rfl dX11_rest_169 ?_
    refine sb_iload (pc' := 173) rfl rfl dX11_rest_171 ?_
    refine sb_ldcw (pc' := 176) rfl (z := 1000000000) rfl wd_1893 dX11_rest_173 ?_
    obtain ⟨d1, hd1, H⟩ := H
    refine sb_callS (pc' := 179) rfl rfl (rc := rc) (rs := rs) (mc' := 0) (ms' := 0) (As := [(vi x5), (vi 1000000000)]) (st := [(vi x4), (.ref (ad 112))])  rfl rfl (Nat.le_of_ble_eq_true rfl) hd1 kX11_lesser ⟨wd_1921, wd_1922⟩ dX11_rest_176 (Eb.mono H ?_)
    rintro o s1 ⟨r1, rfl, hr1, hs1, H⟩
    show Wb g ad d mX11_rest Q 179 [some (.ref (ad 102)), some (vi x1), some (vi x2), some (vi x3), some (vi x4), some (vi x5), some (vi x6), none, none, none] [(vi r1), (vi x4), (.ref (ad 112))] s1 rc rs
    obtain ⟨o2, H⟩ := H
    refine sb_iast (pc' := 180) rfl aI_112 o2.1 o2.2  dX11_rest_179 ?_
    refine sb_aload_n (pc' := 181) rfl rfl dX11_rest_180 ?_
    refine sb_getC (pc' := 184) rfl fc_102_19 wd_1569 dX11_rest_181 ?_
    refine sb_iload (pc' := 186) rfl rfl dX11_rest_184 ?_
    refine sb_iald (pc' := 187) rfl aI_112 o2.1 o2.2 dX11_rest_186 ?_
    exact sb_iret rfl rfl dX11_rest_187 (H (SR_ia (SR_setI hs1 hr1) _ _) (SR_setI hs1 hr1))
  · intro cc; have H := H.2 cc
    refine sb_aload_n (pc' := 62) rfl rfl dX11_rest_61 ?_
    refine sb_iconst (pc' := 63) rfl dX11_rest_62 ?_
    obtain ⟨d3, hd3, H⟩ := H
    refine sb_callV (pc' := 66) rfl rfl (rc := rc) (rs := rs) (mc' := 0) (ms' := 0) (As := [(vi ((-1)))]) (st := []) of_102 rfl rfl (Nat.le_of_ble_eq_true rfl) hd3 kX11_next ⟨wd_1894, wd_1896, wd_133⟩ dX11_rest_63 (Eb.mono H ?_)
    rintro o s3 ⟨r3, rfl, hr3, hs3, H⟩
    show Wb g ad d mX11_rest Q 66 [some (.ref (ad 102)), some (vi x1), some (vi x2), some (vi x3), some (vi x4), some (vi x5), some (vi x6), none, none, none] [(vi r3)] s3 rc rs
    refine sb_istore (pc' := 68) rfl (L' := [some (.ref (ad 102)), some (vi x1), some (vi x2), some (vi x3), some (vi x4), some (vi x5), some (vi x6), some (vi r3), none, none]) rfl (by decide) dX11_rest_66 ?_
    exact (H hx1 hx2 hx3 hx4 hx5 hx6 hr3 hs3)
theorem bX11_rest_68 {g : AG} {ad : Nat → Nat} {d : Nat} {Q : AO → SG → Prop} {rc rs : Nat} {σ : SG} {x1 x2 x3 x4 x5 x6 x7 : Int}  (hx1 : iR x1) (hx2 : iR x2) (hx3 : iR x3) (hx4 : iR x4) (hx5 : iR x5) (hx6 : iR x6) (hx7 : iR x7) (hS : SR σ) (H : ((99 < x7 → iR (x6 + 1) ∧ (iR x1 → iR x2 → iR x3 → iR x4 → iR x5 → iR (x6 + 1) → SR σ → Wb g ad d mX11_rest Q 50 [some (.ref (ad 102)), some (vi x1), some (vi x2), some (vi x3), some (vi x4), some (vi x5), some (vi (x6 + 1)), none, none, none] [] σ rc rs)) ∧ (¬ 99 < x7 → Cl g ad d mX11_may 0 0 [(.ref (ad 102)), (vi x1), (vi x2), (vi x6), (vi x7)] σ (Ki fun r2 s2 => ((¬ r2 = 0 → Cl g ad d mX11_weighs 0 0 [(.ref (ad 102)), (vi x2), (vi x3), (vi x6), (vi x7)] s2 (Kv fun s3 => Cl g ad d mX11_maskOf 0 0 [(.ref (ad 102)), (vi x7), (vi x6)] s3 (Ki fun r4 s4 => Cl g ad d mX11_covers 0 0 [(.ref (ad 102)), (vi x7)] s4 (Ki fun r5 s5 => Cl g ad d mX11_rest 0 0 [(.ref (ad 102)), (vi (bOr x1 r4)), (vi (x6 + r5)), (vi (sc s5 102 23))] s5 (Ki fun r6 s6 => Cl g ad d mX11_lesser 0 0 [(vi x5), (vi ((sc s3 102 22) + r6))] s6 (Ki fun r7 s7 => Cl g ad d mX11_next 0 0 [(.ref (ad 102)), (vi x7)] s7 (Ki fun r8 s8 => (iR x1 → iR x2 → iR x3 → iR x4 → iR r7 → iR x6 → iR r8 → SR s8 → Wb g ad d mX11_rest Q 68 [some (.ref (ad 102)), some (vi x1), some (vi x2), some (vi x3), some (vi x4), some (vi r7), some (vi x6), some (vi r8), none, none] [] s8 rc rs)))))))) ∧ (r2 = 0 → Cl g ad d mX11_next 0 0 [(.ref (ad 102)), (vi x7)] s2 (Ki fun r9 s9 => (iR x1 → iR x2 → iR x3 → iR x4 → iR x5 → iR x6 → iR r9 → SR s9 → Wb g ad d mX11_rest Q 68 [some (.ref (ad 102)), some (vi x1), some (vi x2), some (vi x3), some (vi x4), some (vi x5), some (vi x6), some (vi r9), none, none] [] s9 rc rs)))))))) : Wb g ad d mX11_rest Q 68 [some (.ref (ad 102)), some (vi x1), some (vi x2), some (vi x3), some (vi x4), some (vi x5), some (vi x6), some (vi x7), none, none] [] σ rc rs := by
  refine sb_iload (pc' := 70) rfl rfl dX11_rest_68 ?_
  refine sb_bipush (pc' := 72) rfl (z := 99) (by decide) dX11_rest_70 ?_
  refine sb_icmp_gt (pc' := 75) (tgt := 159) rfl (by decide) hx7 (iR_lit rfl) dX11_rest_72 ?_ ?_
  · intro cc; have H := H.1 cc
    refine sb_iinc (pc' := 162) rfl rfl (L' := [some (.ref (ad 102)), some (vi x1), some (vi x2), some (vi x3), some (vi x4), some (vi x5), some (vi (x6 + 1)), some (vi x7), none, none]) rfl (by decide) dX11_rest_159 ?_
    refine sb_goto (tgt := 50) (by decide) dX11_rest_162 ?_
    obtain ⟨o1, H⟩ := H
    refine Wb.forget [true, true, true, true, true, true, true, false, false, false] ?_
    exact (H hx1 hx2 hx3 hx4 hx5 o1 hS)
  · intro cc; have H := H.2 cc
    refine sb_aload_n (pc' := 76) rfl rfl dX11_rest_75 ?_
    refine sb_iload_n (pc' := 77) rfl rfl dX11_rest_76 ?_
    refine sb_iload_n (pc' := 78) rfl rfl dX11_rest_77 ?_
    refine sb_iload (pc' := 80) rfl rfl dX11_rest_78 ?_
    refine sb_iload (pc' := 82) rfl rfl dX11_rest_80 ?_
    obtain ⟨d2, hd2, H⟩ := H
    refine sb_callV (pc' := 85) rfl rfl (rc := rc) (rs := rs) (mc' := 0) (ms' := 0) (As := [(vi x1), (vi x2), (vi x6), (vi x7)]) (st := []) of_102 rfl rfl (Nat.le_of_ble_eq_true rfl) hd2 kX11_may ⟨wd_1898, wd_1900, wd_134⟩ dX11_rest_82 (Eb.mono H ?_)
    rintro o s2 ⟨r2, rfl, hr2, hs2, H⟩
    show Wb g ad d mX11_rest Q 85 [some (.ref (ad 102)), some (vi x1), some (vi x2), some (vi x3), some (vi x4), some (vi x5), some (vi x6), some (vi x7), none, none] [(vi r2)] s2 rc rs
    refine sb_if_ne (pc' := 88) (tgt := 91) rfl (by decide) hr2 dX11_rest_85 ?_ ?_
    · intro cc; have H := H.1 cc
      refine sb_aload_n (pc' := 92) rfl rfl dX11_rest_91 ?_
      refine sb_iload_n (pc' := 93) rfl rfl dX11_rest_92 ?_
      refine sb_iload_n (pc' := 94) rfl rfl dX11_rest_93 ?_
      refine sb_iload (pc' := 96) rfl rfl dX11_rest_94 ?_
      refine sb_iload (pc' := 98) rfl rfl dX11_rest_96 ?_
      obtain ⟨d3, hd3, H⟩ := H
      refine sb_callV (pc' := 101) rfl rfl (rc := rc) (rs := rs) (mc' := 0) (ms' := 0) (As := [(vi x2), (vi x3), (vi x6), (vi x7)]) (st := []) of_102 rfl rfl (Nat.le_of_ble_eq_true rfl) hd3 kX11_weighs ⟨wd_1909, wd_1911, wd_136⟩ dX11_rest_98 (Eb.mono H ?_)
      rintro o s3 ⟨rfl, hs3, H⟩
      show Wb g ad d mX11_rest Q 101 [some (.ref (ad 102)), some (vi x1), some (vi x2), some (vi x3), some (vi x4), some (vi x5), some (vi x6), some (vi x7), none, none] [] s3 rc rs
      refine sb_aload_n (pc' := 102) rfl rfl dX11_rest_101 ?_
      refine sb_getI (pc' := 105) rfl fi_102_22 wd_1572 dX11_rest_102 ?_
      refine sb_istore (pc' := 107) rfl (L' := [some (.ref (ad 102)), some (vi x1), some (vi x2), some (vi x3), some (vi x4), some (vi x5), some (vi x6), some (vi x7), some (vi (sc s3 102 22)), none]) rfl (by decide) dX11_rest_105 ?_
      refine sb_aload_n (pc' := 108) rfl rfl dX11_rest_107 ?_
      refine sb_iload_n (pc' := 109) rfl rfl dX11_rest_108 ?_
      refine sb_aload_n (pc' := 110) rfl rfl dX11_rest_109 ?_
      refine sb_iload (pc' := 112) rfl rfl dX11_rest_110 ?_
      refine sb_iload (pc' := 114) rfl rfl dX11_rest_112 ?_
      obtain ⟨d4, hd4, H⟩ := H
      refine sb_callV (pc' := 117) rfl rfl (rc := rc) (rs := rs) (mc' := 0) (ms' := 0) (As := [(vi x7), (vi x6)]) (st := [(vi x1), (.ref (ad 102))]) of_102 rfl rfl (Nat.le_of_ble_eq_true rfl) hd4 kX11_maskOf ⟨wd_1905, wd_1907, wd_135⟩ dX11_rest_114 (Eb.mono H ?_)
      rintro o s4 ⟨r4, rfl, hr4, hs4, H⟩
      show Wb g ad d mX11_rest Q 117 [some (.ref (ad 102)), some (vi x1), some (vi x2), some (vi x3), some (vi x4), some (vi x5), some (vi x6), some (vi x7), some (vi (sc s3 102 22)), none] [(vi r4), (vi x1), (.ref (ad 102))] s4 rc rs
      refine sb_ior (pc' := 118) rfl dX11_rest_117 ?_
      refine sb_iload (pc' := 120) rfl rfl dX11_rest_118 ?_
      refine sb_aload_n (pc' := 121) rfl rfl dX11_rest_120 ?_
      refine sb_iload (pc' := 123) rfl rfl dX11_rest_121 ?_
      obtain ⟨d5, hd5, H⟩ := H
      refine sb_callV (pc' := 126) rfl rfl (rc := rc) (rs := rs) (mc' := 0) (ms' := 0) (As := [(vi x7)]) (st := [(vi x6), (vi (bOr x1 r4)), (.ref (ad 102))]) of_102 rfl rfl (Nat.le_of_ble_eq_true rfl) hd5 kX11_covers ⟨wd_1862, wd_1864, wd_126⟩ dX11_rest_123 (Eb.mono H ?_)
      rintro o s5 ⟨r5, rfl, hr5, hs5, H⟩
      show Wb g ad d mX11_rest Q 126 [some (.ref (ad 102)), some (vi x1), some (vi x2), some (vi x3), some (vi x4), some (vi x5), some (vi x6), some (vi x7), some (vi (sc s3 102 22)), none] [(vi r5), (vi x6), (vi (bOr x1 r4)), (.ref (ad 102))] s5 rc rs
      refine sb_iadd (pc' := 127) rfl dX11_rest_126 ?_
      refine sb_aload_n (pc' := 128) rfl rfl dX11_rest_127 ?_
      refine sb_getI (pc' := 131) rfl fi_102_23 wd_1573 dX11_rest_128 ?_
      obtain ⟨d6, hd6, H⟩ := H
      refine sb_callV (pc' := 134) rfl rfl (rc := rc) (rs := rs) (mc' := 0) (ms' := 0) (As := [(vi (bOr x1 r4)), (vi (x6 + r5)), (vi (sc s5 102 23))]) (st := []) of_102 rfl rfl (Nat.le_of_ble_eq_true rfl) hd6 kX11_rest ⟨wd_1878, wd_1880, wd_130⟩ dX11_rest_131 (Eb.mono H ?_)
      rintro o s6 ⟨r6, rfl, hr6, hs6, H⟩
      show Wb g ad d mX11_rest Q 134 [some (.ref (ad 102)), some (vi x1), some (vi x2), some (vi x3), some (vi x4), some (vi x5), some (vi x6), some (vi x7), some (vi (sc s3 102 22)), none] [(vi r6)] s6 rc rs
      refine sb_istore (pc' := 136) rfl (L' := [some (.ref (ad 102)), some (vi x1), some (vi x2), some (vi x3), some (vi x4), some (vi x5), some (vi x6), some (vi x7), some (vi (sc s3 102 22)), some (vi r6)]) rfl (by decide) dX11_rest_134 ?_
      refine sb_iload (pc' := 138) rfl rfl dX11_rest_136 ?_
      refine sb_iload (pc' := 140) rfl rfl dX11_rest_138 ?_
      refine sb_iload (pc' := 142) rfl rfl dX11_rest_140 ?_
      refine sb_iadd (pc' := 143) rfl dX11_rest_142 ?_
      obtain ⟨d7, hd7, H⟩ := H
      refine sb_callS (pc' := 146) rfl rfl (rc := rc) (rs := rs) (mc' := 0) (ms' := 0) (As := [(vi x5), (vi ((sc s3 102 22) + r6))]) (st := [])  rfl rfl (Nat.le_of_ble_eq_true rfl) hd7 kX11_lesser ⟨wd_1921, wd_1922⟩ dX11_rest_143 (Eb.mono H ?_)
      rintro o s7 ⟨r7, rfl, hr7, hs7, H⟩
      show Wb g ad d mX11_rest Q 146 [some (.ref (ad 102)), some (vi x1), some (vi x2), some (vi x3), some (vi x4), some (vi x5), some (vi x6), some (vi x7), some (vi (sc s3 102 22)), some (vi r6)] [(vi r7)] s7 rc rs
      refine sb_istore (pc' := 148) rfl (L' := [some (.ref (ad 102)), some (vi x1), some (vi x2), some (vi x3), some (vi x4), some (vi r7), some (vi x6), some (vi x7), some (vi (sc s3 102 22)), some (vi r6)]) rfl (by decide) dX11_rest_146 ?_
      refine sb_aload_n (pc' := 149) rfl rfl dX11_rest_148 ?_
      refine sb_iload (pc' := 151) rfl rfl dX11_rest_149 ?_
      obtain ⟨d8, hd8, H⟩ := H
      refine sb_callV (pc' := 154) rfl rfl (rc := rc) (rs := rs) (mc' := 0) (ms' := 0) (As := [(vi x7)]) (st := []) of_102 rfl rfl (Nat.le_of_ble_eq_true rfl) hd8 kX11_next ⟨wd_1894, wd_1896, wd_133⟩ dX11_rest_151 (Eb.mono H ?_)
      rintro o s8 ⟨r8, rfl, hr8, hs8, H⟩
      show Wb g ad d mX11_rest Q 154 [some (.ref (ad 102)), some (vi x1), some (vi x2), some (vi x3), some (vi x4), some (vi r7), some (vi x6), some (vi x7), some (vi (sc s3 102 22)), some (vi r6)] [(vi r8)] s8 rc rs
      refine sb_istore (pc' := 156) rfl (L' := [some (.ref (ad 102)), some (vi x1), some (vi x2), some (vi x3), some (vi x4), some (vi r7), some (vi x6), some (vi r8), some (vi (sc s3 102 22)), some (vi r6)]) rfl (by decide) dX11_rest_154 ?_
      refine sb_goto (tgt := 68) (by decide) dX11_rest_156 ?_
      refine Wb.forget [true, true, true, true, true, true, true, true, false, false] ?_
      exact (H hx1 hx2 hx3 hx4 hr7 hx6 hr8 hs8)
    · intro cc; have H := H.2 cc
      refine sb_goto (tgt := 148) (by decide) dX11_rest_88 ?_
      refine sb_aload_n (pc' := 149) rfl rfl dX11_rest_148 ?_
      refine sb_iload (pc' := 151) rfl rfl dX11_rest_149 ?_
      obtain ⟨d9, hd9, H⟩ := H
      refine sb_callV (pc' := 154) rfl rfl (rc := rc) (rs := rs) (mc' := 0) (ms' := 0) (As := [(vi x7)]) (st := []) of_102 rfl rfl (Nat.le_of_ble_eq_true rfl) hd9 kX11_next ⟨wd_1894, wd_1896, wd_133⟩ dX11_rest_151 (Eb.mono H ?_)
      rintro o s9 ⟨r9, rfl, hr9, hs9, H⟩
      show Wb g ad d mX11_rest Q 154 [some (.ref (ad 102)), some (vi x1), some (vi x2), some (vi x3), some (vi x4), some (vi x5), some (vi x6), some (vi x7), none, none] [(vi r9)] s9 rc rs
      refine sb_istore (pc' := 156) rfl (L' := [some (.ref (ad 102)), some (vi x1), some (vi x2), some (vi x3), some (vi x4), some (vi x5), some (vi x6), some (vi r9), none, none]) rfl (by decide) dX11_rest_154 ?_
      refine sb_goto (tgt := 68) (by decide) dX11_rest_156 ?_
      exact (H hx1 hx2 hx3 hx4 hx5 hx6 hr9 hs9)
theorem bX11_exact0_0 {g : AG} {ad : Nat → Nat} {d : Nat} {Q : AO → SG → Prop} {rc rs : Nat} {σ : SG}    (hS : SR σ) (H : Cl g ad d mX11_lays 0 0 [(.ref (ad 102))] σ (Kv fun s1 => Cl g ad d mX11_rest 0 0 [(.ref (ad 102)), (vi 0), (vi 0), (vi ((-1)))] s1 (Ki fun r2 s2 => (iR r2 → SR s2 → Q (.inl (some (vi r2))) s2)))) : Wb g ad d mX11_exact0 Q 0 [some (.ref (ad 102))] [] σ rc rs := by
  refine sb_aload_n (pc' := 1) rfl rfl dX11_exact0_0 ?_
  obtain ⟨d1, hd1, H⟩ := H
  refine sb_callV (pc' := 4) rfl rfl (rc := rc) (rs := rs) (mc' := 0) (ms' := 0) (As := []) (st := []) of_102 rfl rfl (Nat.le_of_ble_eq_true rfl) hd1 kX11_lays ⟨wd_1874, wd_1876, wd_129⟩ dX11_exact0_1 (Eb.mono H ?_)
  rintro o s1 ⟨rfl, hs1, H⟩
  show Wb g ad d mX11_exact0 Q 4 [some (.ref (ad 102))] [] s1 rc rs
  refine sb_aload_n (pc' := 5) rfl rfl dX11_exact0_4 ?_
  refine sb_iconst (pc' := 6) rfl dX11_exact0_5 ?_
  refine sb_iconst (pc' := 7) rfl dX11_exact0_6 ?_
  refine sb_iconst (pc' := 8) rfl dX11_exact0_7 ?_
  obtain ⟨d2, hd2, H⟩ := H
  refine sb_callV (pc' := 11) rfl rfl (rc := rc) (rs := rs) (mc' := 0) (ms' := 0) (As := [(vi 0), (vi 0), (vi ((-1)))]) (st := []) of_102 rfl rfl (Nat.le_of_ble_eq_true rfl) hd2 kX11_rest ⟨wd_1878, wd_1880, wd_130⟩ dX11_exact0_8 (Eb.mono H ?_)
  rintro o s2 ⟨r2, rfl, hr2, hs2, H⟩
  show Wb g ad d mX11_exact0 Q 11 [some (.ref (ad 102))] [(vi r2)] s2 rc rs
  exact sb_iret rfl rfl dX11_exact0_11 (H hr2 hs2)
theorem bX11_exact_0 {g : AG} {ad : Nat → Nat} {d : Nat} {Q : AO → SG → Prop} {rc rs : Nat} {σ : SG}    (hS : SR σ) (H : Cl g ad d mX11_exact0 0 0 [(.ref (ad 102))] (setS σ 102 0 0) (Ki fun r1 s1 => (iR r1 → SR s1 → Q (.inl (some (vi r1))) s1))) : Wb g ad d mX11_exact Q 0 [some (.ref (ad 102))] [] σ rc rs := by
  refine sb_aload_n (pc' := 1) rfl rfl dX11_exact_0 ?_
  refine sb_iconst (pc' := 2) rfl dX11_exact_1 ?_
  refine sb_putI (pc' := 5) rfl fi_102_0 (Or.inl rfl) wd_1550 dX11_exact_2 ?_
  refine sb_aload_n (pc' := 6) rfl rfl dX11_exact_5 ?_
  obtain ⟨d1, hd1, H⟩ := H
  refine sb_callV (pc' := 9) rfl rfl (rc := rc) (rs := rs) (mc' := 0) (ms' := 0) (As := []) (st := []) of_102 rfl rfl (Nat.le_of_ble_eq_true rfl) hd1 kX11_exact0 ⟨wd_1870, wd_1872, wd_128⟩ dX11_exact_6 (Eb.mono H ?_)
  rintro o s1 ⟨r1, rfl, hr1, hs1, H⟩
  show Wb g ad d mX11_exact Q 9 [some (.ref (ad 102))] [(vi r1)] s1 rc rs
  exact sb_iret rfl rfl dX11_exact_9 (H hr1 hs1)
theorem bX11_waysFrom_0 {g : AG} {ad : Nat → Nat} {d : Nat} {Q : AO → SG → Prop} {rc rs : Nat} {σ : SG} {x1 x2 : Int}  (hx1 : iR x1) (hx2 : iR x2) (hS : SR σ) (H : Cl g ad d mX11_full 0 0 [(.ref (ad 102))] σ (Ki fun r1 s1 => ((¬ x1 = r1 → (0 ≤ (x1 * 7) + x2 ∧ (x1 * 7) + x2 < 448) ∧ (((lCmp (la s1 113 ((x1 * 7) + x2)) 0) < 0 → iR ((x1 * 7) + x2) ∧ (iR x1 → iR x2 → iR ((x1 * 7) + x2) → lR 0 → iR 0 → SR s1 → Wb g ad d mX11_waysFrom Q 41 [some (.ref (ad 102)), some (vi x1), some (vi x2), some (vi ((x1 * 7) + x2)), some (vl 0), none, some (vi 0), none] [] s1 rc rs)) ∧ (¬ (lCmp (la s1 113 ((x1 * 7) + x2)) 0) < 0 → (lR (la s1 113 ((x1 * 7) + x2)) → SR s1 → Q (.inl (some (vl (la s1 113 ((x1 * 7) + x2))))) s1)))) ∧ (x1 = r1 → (lR 1 → SR s1 → Q (.inl (some (vl 1))) s1))))) : Wb g ad d mX11_waysFrom Q 0 [some (.ref (ad 102)), some (vi x1), some (vi x2), none, none, none, none, none] [] σ rc rs := by
  refine sb_iload_n (pc' := 1) rfl rfl dX11_waysFrom_0 ?_
  refine sb_aload_n (pc' := 2) rfl rfl dX11_waysFrom_1 ?_
  obtain ⟨d1, hd1, H⟩ := H
  refine sb_callV (pc' := 5) rfl rfl (rc := rc) (rs := rs) (mc' := 0) (ms' := 0) (As := []) (st := [(vi x1)]) of_102 rfl rfl (Nat.le_of_ble_eq_true rfl) hd1 kX11_full ⟨wd_1882, wd_1884, wd_131⟩ dX11_waysFrom_2 (Eb.mono H ?_)
  rintro o s1 ⟨r1, rfl, hr1, hs1, H⟩
  show Wb g ad d mX11_waysFrom Q 5 [some (.ref (ad 102)), some (vi x1), some (vi x2), none, none, none, none, none] [(vi r1), (vi x1)] s1 rc rs
  refine sb_icmp_ne (pc' := 8) (tgt := 10) rfl (by decide) hx1 hr1 dX11_waysFrom_5 ?_ ?_
  · intro cc; have H := H.1 cc
    refine sb_iload_n (pc' := 11) rfl rfl dX11_waysFrom_10 ?_
    refine sb_bipush (pc' := 13) rfl (z := 7) (by decide) dX11_waysFrom_11 ?_
    refine sb_imul (pc' := 14) rfl dX11_waysFrom_13 ?_
    refine sb_iload_n (pc' := 15) rfl rfl dX11_waysFrom_14 ?_
    refine sb_iadd (pc' := 16) rfl dX11_waysFrom_15 ?_
    refine sb_istore_n (pc' := 17) rfl (L' := [some (.ref (ad 102)), some (vi x1), some (vi x2), some (vi ((x1 * 7) + x2)), none, none, none, none]) rfl (by decide) dX11_waysFrom_16 ?_
    refine sb_aload_n (pc' := 18) rfl rfl dX11_waysFrom_17 ?_
    refine sb_getC (pc' := 21) rfl fc_102_21 wd_1571 dX11_waysFrom_18 ?_
    refine sb_iload_n (pc' := 22) rfl rfl dX11_waysFrom_21 ?_
    obtain ⟨o2, H⟩ := H
    refine sb_lald (pc' := 23) rfl aL_113 o2.1 o2.2 dX11_waysFrom_22 ?_
    refine sb_lconst (pc' := 24) rfl (z := 0) (by decide) dX11_waysFrom_23 ?_
    refine sb_lcmp (pc' := 25) rfl dX11_waysFrom_24 ?_
    refine sb_if_lt (pc' := 28) (tgt := 35) rfl (by decide) (iR_b _) dX11_waysFrom_25 ?_ ?_
    · intro cc; have H := H.1 cc
      refine sb_lconst (pc' := 36) rfl (z := 0) (by decide) dX11_waysFrom_35 ?_
      refine sb_lstore (pc' := 38) rfl (L' := [some (.ref (ad 102)), some (vi x1), some (vi x2), some (vi ((x1 * 7) + x2)), some (vl 0), none, none, none]) rfl (by decide) dX11_waysFrom_36 ?_
      refine sb_iconst (pc' := 39) rfl dX11_waysFrom_38 ?_
      refine sb_istore (pc' := 41) rfl (L' := [some (.ref (ad 102)), some (vi x1), some (vi x2), some (vi ((x1 * 7) + x2)), some (vl 0), none, some (vi 0), none]) rfl (by decide) dX11_waysFrom_39 ?_
      obtain ⟨o3, H⟩ := H
      exact (H hx1 hx2 o3 (lR_lit rfl) (iR_lit rfl) hs1)
    · intro cc; have H := H.2 cc
      refine sb_aload_n (pc' := 29) rfl rfl dX11_waysFrom_28 ?_
      refine sb_getC (pc' := 32) rfl fc_102_21 wd_1571 dX11_waysFrom_29 ?_
      refine sb_iload_n (pc' := 33) rfl rfl dX11_waysFrom_32 ?_
      refine sb_lald (pc' := 34) rfl aL_113 o2.1 o2.2 dX11_waysFrom_33 ?_
      exact sb_lret rfl dX11_waysFrom_34 (H (SR_la hs1 _ _) hs1)
  · intro cc; have H := H.2 cc
    refine sb_lconst (pc' := 9) rfl (z := 1) (by decide) dX11_waysFrom_8 ?_
    exact sb_lret rfl dX11_waysFrom_9 (H (lR_lit rfl) hs1)
theorem bX11_waysFrom_41 {g : AG} {ad : Nat → Nat} {d : Nat} {Q : AO → SG → Prop} {rc rs : Nat} {σ : SG} {x1 x2 x3 x4 x6 : Int}  (hx1 : iR x1) (hx2 : iR x2) (hx3 : iR x3) (hx4 : lR x4) (hx6 : iR x6) (hS : SR σ) (H : (((ia σ 103 3) ≤ x6 → (0 ≤ x3 ∧ x3 < 448) ∧ (lR x4 → SR (setL σ 113 x3 x4) → Q (.inl (some (vl x4))) (setL σ 113 x3 x4))) ∧ (¬ (ia σ 103 3) ≤ x6 → Cl g ad d mX11_next 0 0 [(.ref (ad 102)), (vi ((-1)))] σ (Ki fun r2 s2 => (iR x1 → iR x2 → iR x3 → lR x4 → iR x6 → iR r2 → SR s2 → Wb g ad d mX11_waysFrom Q 59 [some (.ref (ad 102)), some (vi x1), some (vi x2), some (vi x3), some (vl x4), none, some (vi x6), some (vi r2)] [] s2 rc rs))))) : Wb g ad d mX11_waysFrom Q 41 [some (.ref (ad 102)), some (vi x1), some (vi x2), some (vi x3), some (vl x4), none, some (vi x6), none] [] σ rc rs := by
  refine sb_iload (pc' := 43) rfl rfl dX11_waysFrom_41 ?_
  refine sb_aload_n (pc' := 44) rfl rfl dX11_waysFrom_43 ?_
  refine sb_getC (pc' := 47) rfl fc_102_1 wd_1551 dX11_waysFrom_44 ?_
  refine sb_iconst (pc' := 48) rfl dX11_waysFrom_47 ?_
  refine sb_iald (pc' := 49) rfl aI_103 (by decide) (by decide) dX11_waysFrom_48 ?_
  refine sb_icmp_ge (pc' := 52) (tgt := 146) rfl (by decide) hx6 (SR_ia hS _ _) dX11_waysFrom_49 ?_ ?_
  · intro cc; have H := H.1 cc
    refine sb_aload_n (pc' := 147) rfl rfl dX11_waysFrom_146 ?_
    refine sb_getC (pc' := 150) rfl fc_102_21 wd_1571 dX11_waysFrom_147 ?_
    refine sb_iload_n (pc' := 151) rfl rfl dX11_waysFrom_150 ?_
    refine sb_lload (pc' := 153) rfl rfl dX11_waysFrom_151 ?_
    obtain ⟨o1, H⟩ := H
    refine sb_last (pc' := 154) rfl aL_113 o1.1 o1.2  dX11_waysFrom_153 ?_
    refine sb_lload (pc' := 156) rfl rfl dX11_waysFrom_154 ?_
    exact sb_lret rfl dX11_waysFrom_156 (H hx4 (SR_setL hS hx4))
  · intro cc; have H := H.2 cc
    refine sb_aload_n (pc' := 53) rfl rfl dX11_waysFrom_52 ?_
    refine sb_iconst (pc' := 54) rfl dX11_waysFrom_53 ?_
    obtain ⟨d2, hd2, H⟩ := H
    refine sb_callV (pc' := 57) rfl rfl (rc := rc) (rs := rs) (mc' := 0) (ms' := 0) (As := [(vi ((-1)))]) (st := []) of_102 rfl rfl (Nat.le_of_ble_eq_true rfl) hd2 kX11_next ⟨wd_1894, wd_1896, wd_133⟩ dX11_waysFrom_54 (Eb.mono H ?_)
    rintro o s2 ⟨r2, rfl, hr2, hs2, H⟩
    show Wb g ad d mX11_waysFrom Q 57 [some (.ref (ad 102)), some (vi x1), some (vi x2), some (vi x3), some (vl x4), none, some (vi x6), none] [(vi r2)] s2 rc rs
    refine sb_istore (pc' := 59) rfl (L' := [some (.ref (ad 102)), some (vi x1), some (vi x2), some (vi x3), some (vl x4), none, some (vi x6), some (vi r2)]) rfl (by decide) dX11_waysFrom_57 ?_
    exact (H hx1 hx2 hx3 hx4 hx6 hr2 hs2)
theorem bX11_waysFrom_59 {g : AG} {ad : Nat → Nat} {d : Nat} {Q : AO → SG → Prop} {rc rs : Nat} {σ : SG} {x1 x2 x3 x4 x6 x7 : Int}  (hx1 : iR x1) (hx2 : iR x2) (hx3 : iR x3) (hx4 : lR x4) (hx6 : iR x6) (hx7 : iR x7) (hS : SR σ) (H : ((99 < x7 → iR (x6 + 1) ∧ (iR x1 → iR x2 → iR x3 → lR x4 → iR (x6 + 1) → SR σ → Wb g ad d mX11_waysFrom Q 41 [some (.ref (ad 102)), some (vi x1), some (vi x2), some (vi x3), some (vl x4), none, some (vi (x6 + 1)), none] [] σ rc rs)) ∧ (¬ 99 < x7 → Cl g ad d mX11_may 0 0 [(.ref (ad 102)), (vi x1), (vi x2), (vi x6), (vi x7)] σ (Ki fun r2 s2 => ((¬ r2 = 0 → Cl g ad d mX11_maskOf 0 0 [(.ref (ad 102)), (vi x7), (vi x6)] s2 (Ki fun r3 s3 => Cl g ad d mX11_covers 0 0 [(.ref (ad 102)), (vi x7)] s3 (Ki fun r4 s4 => Cl g ad d mX11_waysFrom 0 0 [(.ref (ad 102)), (vi (bOr x1 r3)), (vi (x6 + r4))] s4 (Kl fun r5 s5 => (((lCmp (x4 + r5) 1000000000) ≤ 0 → Cl g ad d mX11_next 0 0 [(.ref (ad 102)), (vi x7)] s5 (Ki fun r6 s6 => lR (x4 + r5) ∧ (iR x1 → iR x2 → iR x3 → lR (x4 + r5) → iR x6 → iR r6 → SR s6 → Wb g ad d mX11_waysFrom Q 59 [some (.ref (ad 102)), some (vi x1), some (vi x2), some (vi x3), some (vl (x4 + r5)), none, some (vi x6), some (vi r6)] [] s6 rc rs))) ∧ (¬ (lCmp (x4 + r5) 1000000000) ≤ 0 → Cl g ad d mX11_next 0 0 [(.ref (ad 102)), (vi x7)] s5 (Ki fun r8 s8 => (iR x1 → iR x2 → iR x3 → lR 1000000000 → iR x6 → iR r8 → SR s8 → Wb g ad d mX11_waysFrom Q 59 [some (.ref (ad 102)), some (vi x1), some (vi x2), some (vi x3), some (vl 1000000000), none, some (vi x6), some (vi r8)] [] s8 rc rs)))))))) ∧ (r2 = 0 → Cl g ad d mX11_next 0 0 [(.ref (ad 102)), (vi x7)] s2 (Ki fun r9 s9 => (iR x1 → iR x2 → iR x3 → lR x4 → iR x6 → iR r9 → SR s9 → Wb g ad d mX11_waysFrom Q 59 [some (.ref (ad 102)), some (vi x1), some (vi x2), some (vi x3), some (vl x4), none, some (vi x6), some (vi r9)] [] s9 rc rs)))))))) : Wb g ad d mX11_waysFrom Q 59 [some (.ref (ad 102)), some (vi x1), some (vi x2), some (vi x3), some (vl x4), none, some (vi x6), some (vi x7)] [] σ rc rs := by
  refine sb_iload (pc' := 61) rfl rfl dX11_waysFrom_59 ?_
  refine sb_bipush (pc' := 63) rfl (z := 99) (by decide) dX11_waysFrom_61 ?_
  refine sb_icmp_gt (pc' := 66) (tgt := 140) rfl (by decide) hx7 (iR_lit rfl) dX11_waysFrom_63 ?_ ?_
  · intro cc; have H := H.1 cc
    refine sb_iinc (pc' := 143) rfl rfl (L' := [some (.ref (ad 102)), some (vi x1), some (vi x2), some (vi x3), some (vl x4), none, some (vi (x6 + 1)), some (vi x7)]) rfl (by decide) dX11_waysFrom_140 ?_
    refine sb_goto (tgt := 41) (by decide) dX11_waysFrom_143 ?_
    obtain ⟨o1, H⟩ := H
    refine Wb.forget [true, true, true, true, true, false, true, false] ?_
    exact (H hx1 hx2 hx3 hx4 o1 hS)
  · intro cc; have H := H.2 cc
    refine sb_aload_n (pc' := 67) rfl rfl dX11_waysFrom_66 ?_
    refine sb_iload_n (pc' := 68) rfl rfl dX11_waysFrom_67 ?_
    refine sb_iload_n (pc' := 69) rfl rfl dX11_waysFrom_68 ?_
    refine sb_iload (pc' := 71) rfl rfl dX11_waysFrom_69 ?_
    refine sb_iload (pc' := 73) rfl rfl dX11_waysFrom_71 ?_
    obtain ⟨d2, hd2, H⟩ := H
    refine sb_callV (pc' := 76) rfl rfl (rc := rc) (rs := rs) (mc' := 0) (ms' := 0) (As := [(vi x1), (vi x2), (vi x6), (vi x7)]) (st := []) of_102 rfl rfl (Nat.le_of_ble_eq_true rfl) hd2 kX11_may ⟨wd_1898, wd_1900, wd_134⟩ dX11_waysFrom_73 (Eb.mono H ?_)
    rintro o s2 ⟨r2, rfl, hr2, hs2, H⟩
    show Wb g ad d mX11_waysFrom Q 76 [some (.ref (ad 102)), some (vi x1), some (vi x2), some (vi x3), some (vl x4), none, some (vi x6), some (vi x7)] [(vi r2)] s2 rc rs
    refine sb_if_ne (pc' := 79) (tgt := 82) rfl (by decide) hr2 dX11_waysFrom_76 ?_ ?_
    · intro cc; have H := H.1 cc
      refine sb_lload (pc' := 84) rfl rfl dX11_waysFrom_82 ?_
      refine sb_aload_n (pc' := 85) rfl rfl dX11_waysFrom_84 ?_
      refine sb_iload_n (pc' := 86) rfl rfl dX11_waysFrom_85 ?_
      refine sb_aload_n (pc' := 87) rfl rfl dX11_waysFrom_86 ?_
      refine sb_iload (pc' := 89) rfl rfl dX11_waysFrom_87 ?_
      refine sb_iload (pc' := 91) rfl rfl dX11_waysFrom_89 ?_
      obtain ⟨d3, hd3, H⟩ := H
      refine sb_callV (pc' := 94) rfl rfl (rc := rc) (rs := rs) (mc' := 0) (ms' := 0) (As := [(vi x7), (vi x6)]) (st := [(vi x1), (.ref (ad 102)), (vl x4)]) of_102 rfl rfl (Nat.le_of_ble_eq_true rfl) hd3 kX11_maskOf ⟨wd_1905, wd_1907, wd_135⟩ dX11_waysFrom_91 (Eb.mono H ?_)
      rintro o s3 ⟨r3, rfl, hr3, hs3, H⟩
      show Wb g ad d mX11_waysFrom Q 94 [some (.ref (ad 102)), some (vi x1), some (vi x2), some (vi x3), some (vl x4), none, some (vi x6), some (vi x7)] [(vi r3), (vi x1), (.ref (ad 102)), (vl x4)] s3 rc rs
      refine sb_ior (pc' := 95) rfl dX11_waysFrom_94 ?_
      refine sb_iload (pc' := 97) rfl rfl dX11_waysFrom_95 ?_
      refine sb_aload_n (pc' := 98) rfl rfl dX11_waysFrom_97 ?_
      refine sb_iload (pc' := 100) rfl rfl dX11_waysFrom_98 ?_
      obtain ⟨d4, hd4, H⟩ := H
      refine sb_callV (pc' := 103) rfl rfl (rc := rc) (rs := rs) (mc' := 0) (ms' := 0) (As := [(vi x7)]) (st := [(vi x6), (vi (bOr x1 r3)), (.ref (ad 102)), (vl x4)]) of_102 rfl rfl (Nat.le_of_ble_eq_true rfl) hd4 kX11_covers ⟨wd_1862, wd_1864, wd_126⟩ dX11_waysFrom_100 (Eb.mono H ?_)
      rintro o s4 ⟨r4, rfl, hr4, hs4, H⟩
      show Wb g ad d mX11_waysFrom Q 103 [some (.ref (ad 102)), some (vi x1), some (vi x2), some (vi x3), some (vl x4), none, some (vi x6), some (vi x7)] [(vi r4), (vi x6), (vi (bOr x1 r3)), (.ref (ad 102)), (vl x4)] s4 rc rs
      refine sb_iadd (pc' := 104) rfl dX11_waysFrom_103 ?_
      obtain ⟨d5, hd5, H⟩ := H
      refine sb_callV (pc' := 107) rfl rfl (rc := rc) (rs := rs) (mc' := 0) (ms' := 0) (As := [(vi (bOr x1 r3)), (vi (x6 + r4))]) (st := [(vl x4)]) of_102 rfl rfl (Nat.le_of_ble_eq_true rfl) hd5 kX11_waysFrom ⟨wd_1965, wd_1967, wd_139⟩ dX11_waysFrom_104 (Eb.mono H ?_)
      rintro o s5 ⟨r5, rfl, hr5, hs5, H⟩
      show Wb g ad d mX11_waysFrom Q 107 [some (.ref (ad 102)), some (vi x1), some (vi x2), some (vi x3), some (vl x4), none, some (vi x6), some (vi x7)] [(vl r5), (vl x4)] s5 rc rs
      refine sb_ladd (pc' := 108) rfl dX11_waysFrom_107 ?_
      refine sb_lstore (pc' := 110) rfl (L' := [some (.ref (ad 102)), some (vi x1), some (vi x2), some (vi x3), some (vl (x4 + r5)), none, some (vi x6), some (vi x7)]) rfl (by decide) dX11_waysFrom_108 ?_
      refine sb_lload (pc' := 112) rfl rfl dX11_waysFrom_110 ?_
      refine sb_ldc2 (pc' := 115) rfl (z := 1000000000) (by decide) wd_1969 dX11_waysFrom_112 ?_
      refine sb_lcmp (pc' := 116) rfl dX11_waysFrom_115 ?_
      refine sb_if_le (pc' := 119) (tgt := 125) rfl (by decide) (iR_b _) dX11_waysFrom_116 ?_ ?_
      · intro cc; have H := H.1 cc
        refine sb_lload (pc' := 127) rfl rfl dX11_waysFrom_125 ?_
        refine sb_lstore (pc' := 129) rfl (L' := [some (.ref (ad 102)), some (vi x1), some (vi x2), some (vi x3), some (vl (x4 + r5)), none, some (vi x6), some (vi x7)]) rfl (by decide) dX11_waysFrom_127 ?_
        refine sb_aload_n (pc' := 130) rfl rfl dX11_waysFrom_129 ?_
        refine sb_iload (pc' := 132) rfl rfl dX11_waysFrom_130 ?_
        obtain ⟨d6, hd6, H⟩ := H
        refine sb_callV (pc' := 135) rfl rfl (rc := rc) (rs := rs) (mc' := 0) (ms' := 0) (As := [(vi x7)]) (st := []) of_102 rfl rfl (Nat.le_of_ble_eq_true rfl) hd6 kX11_next ⟨wd_1894, wd_1896, wd_133⟩ dX11_waysFrom_132 (Eb.mono H ?_)
        rintro o s6 ⟨r6, rfl, hr6, hs6, H⟩
        show Wb g ad d mX11_waysFrom Q 135 [some (.ref (ad 102)), some (vi x1), some (vi x2), some (vi x3), some (vl (x4 + r5)), none, some (vi x6), some (vi x7)] [(vi r6)] s6 rc rs
        refine sb_istore (pc' := 137) rfl (L' := [some (.ref (ad 102)), some (vi x1), some (vi x2), some (vi x3), some (vl (x4 + r5)), none, some (vi x6), some (vi r6)]) rfl (by decide) dX11_waysFrom_135 ?_
        refine sb_goto (tgt := 59) (by decide) dX11_waysFrom_137 ?_
        obtain ⟨o7, H⟩ := H
        exact (H hx1 hx2 hx3 o7 hx6 hr6 hs6)
      · intro cc; have H := H.2 cc
        refine sb_ldc2 (pc' := 122) rfl (z := 1000000000) (by decide) wd_1969 dX11_waysFrom_119 ?_
        refine sb_goto (tgt := 127) (by decide) dX11_waysFrom_122 ?_
        refine sb_lstore (pc' := 129) rfl (L' := [some (.ref (ad 102)), some (vi x1), some (vi x2), some (vi x3), some (vl 1000000000), none, some (vi x6), some (vi x7)]) rfl (by decide) dX11_waysFrom_127 ?_
        refine sb_aload_n (pc' := 130) rfl rfl dX11_waysFrom_129 ?_
        refine sb_iload (pc' := 132) rfl rfl dX11_waysFrom_130 ?_
        obtain ⟨d8, hd8, H⟩ := H
        refine sb_callV (pc' := 135) rfl rfl (rc := rc) (rs := rs) (mc' := 0) (ms' := 0) (As := [(vi x7)]) (st := []) of_102 rfl rfl (Nat.le_of_ble_eq_true rfl) hd8 kX11_next ⟨wd_1894, wd_1896, wd_133⟩ dX11_waysFrom_132 (Eb.mono H ?_)
        rintro o s8 ⟨r8, rfl, hr8, hs8, H⟩
        show Wb g ad d mX11_waysFrom Q 135 [some (.ref (ad 102)), some (vi x1), some (vi x2), some (vi x3), some (vl 1000000000), none, some (vi x6), some (vi x7)] [(vi r8)] s8 rc rs
        refine sb_istore (pc' := 137) rfl (L' := [some (.ref (ad 102)), some (vi x1), some (vi x2), some (vi x3), some (vl 1000000000), none, some (vi x6), some (vi r8)]) rfl (by decide) dX11_waysFrom_135 ?_
        refine sb_goto (tgt := 59) (by decide) dX11_waysFrom_137 ?_
        exact (H hx1 hx2 hx3 (lR_lit rfl) hx6 hr8 hs8)
    · intro cc; have H := H.2 cc
      refine sb_goto (tgt := 129) (by decide) dX11_waysFrom_79 ?_
      refine sb_aload_n (pc' := 130) rfl rfl dX11_waysFrom_129 ?_
      refine sb_iload (pc' := 132) rfl rfl dX11_waysFrom_130 ?_
      obtain ⟨d9, hd9, H⟩ := H
      refine sb_callV (pc' := 135) rfl rfl (rc := rc) (rs := rs) (mc' := 0) (ms' := 0) (As := [(vi x7)]) (st := []) of_102 rfl rfl (Nat.le_of_ble_eq_true rfl) hd9 kX11_next ⟨wd_1894, wd_1896, wd_133⟩ dX11_waysFrom_132 (Eb.mono H ?_)
      rintro o s9 ⟨r9, rfl, hr9, hs9, H⟩
      show Wb g ad d mX11_waysFrom Q 135 [some (.ref (ad 102)), some (vi x1), some (vi x2), some (vi x3), some (vl x4), none, some (vi x6), some (vi x7)] [(vi r9)] s9 rc rs
      refine sb_istore (pc' := 137) rfl (L' := [some (.ref (ad 102)), some (vi x1), some (vi x2), some (vi x3), some (vl x4), none, some (vi x6), some (vi r9)]) rfl (by decide) dX11_waysFrom_135 ?_
      refine sb_goto (tgt := 59) (by decide) dX11_waysFrom_137 ?_
      exact (H hx1 hx2 hx3 hx4 hx6 hr9 hs9)
theorem bX11_many_0 {g : AG} {ad : Nat → Nat} {d : Nat} {Q : AO → SG → Prop} {rc rs : Nat} {σ : SG}    (hS : SR σ) (H : (iR 0 → SR (setS σ 102 0 0) → Wb g ad d mX11_many Q 7 [some (.ref (ad 102)), some (vi 0)] [] (setS σ 102 0 0) rc rs)) : Wb g ad d mX11_many Q 0 [some (.ref (ad 102)), none] [] σ rc rs := by
  refine sb_aload_n (pc' := 1) rfl rfl dX11_many_0 ?_
  refine sb_iconst (pc' := 2) rfl dX11_many_1 ?_
  refine sb_putI (pc' := 5) rfl fi_102_0 (Or.inl rfl) wd_1550 dX11_many_2 ?_
  refine sb_iconst (pc' := 6) rfl dX11_many_5 ?_
  refine sb_istore_n (pc' := 7) rfl (L' := [some (.ref (ad 102)), some (vi 0)]) rfl (by decide) dX11_many_6 ?_
  exact (H (iR_lit rfl) (SR_setS hS (iR_lit rfl)))
theorem bX11_many_7 {g : AG} {ad : Nat → Nat} {d : Nat} {Q : AO → SG → Prop} {rc rs : Nat} {σ : SG} {x1 : Int}  (hx1 : iR x1) (hS : SR σ) (H : ((448 ≤ x1 → Cl g ad d mX11_waysFrom 0 0 [(.ref (ad 102)), (vi 0), (vi 0)] σ (Kl fun r1 s1 => iR r1 ∧ (iR r1 → SR s1 → Q (.inl (some (vi r1))) s1))) ∧ (¬ 448 ≤ x1 → (0 ≤ x1 ∧ x1 < 448) ∧ iR (x1 + 1) ∧ (iR (x1 + 1) → SR (setL σ 113 x1 ((-1))) → Wb g ad d mX11_many Q 7 [some (.ref (ad 102)), some (vi (x1 + 1))] [] (setL σ 113 x1 ((-1))) rc rs)))) : Wb g ad d mX11_many Q 7 [some (.ref (ad 102)), some (vi x1)] [] σ rc rs := by
  refine sb_iload_n (pc' := 8) rfl rfl dX11_many_7 ?_
  refine sb_sipush (pc' := 11) rfl (z := 448) (by decide) dX11_many_8 ?_
  refine sb_icmp_ge (pc' := 14) (tgt := 29) rfl (by decide) hx1 (iR_lit rfl) dX11_many_11 ?_ ?_
  · intro cc; have H := H.1 cc
    refine sb_aload_n (pc' := 30) rfl rfl dX11_many_29 ?_
    refine sb_iconst (pc' := 31) rfl dX11_many_30 ?_
    refine sb_iconst (pc' := 32) rfl dX11_many_31 ?_
    obtain ⟨d1, hd1, H⟩ := H
    refine sb_callV (pc' := 35) rfl rfl (rc := rc) (rs := rs) (mc' := 0) (ms' := 0) (As := [(vi 0), (vi 0)]) (st := []) of_102 rfl rfl (Nat.le_of_ble_eq_true rfl) hd1 kX11_waysFrom ⟨wd_1965, wd_1967, wd_139⟩ dX11_many_32 (Eb.mono H ?_)
    rintro o s1 ⟨r1, rfl, hr1, hs1, H⟩
    show Wb g ad d mX11_many Q 35 [some (.ref (ad 102)), some (vi x1)] [(vl r1)] s1 rc rs
    refine sb_l2i (pc' := 36) rfl dX11_many_35 ?_
    obtain ⟨o2, H⟩ := H
    exact sb_iret rfl rfl dX11_many_36 (H o2 hs1)
  · intro cc; have H := H.2 cc
    refine sb_aload_n (pc' := 15) rfl rfl dX11_many_14 ?_
    refine sb_getC (pc' := 18) rfl fc_102_21 wd_1571 dX11_many_15 ?_
    refine sb_iload_n (pc' := 19) rfl rfl dX11_many_18 ?_
    refine sb_ldc2 (pc' := 22) rfl (z := (-1)) (by decide) wd_1964 dX11_many_19 ?_
    obtain ⟨o3, H⟩ := H
    refine sb_last (pc' := 23) rfl aL_113 o3.1 o3.2  dX11_many_22 ?_
    refine sb_iinc (pc' := 26) rfl rfl (L' := [some (.ref (ad 102)), some (vi (x1 + 1))]) rfl (by decide) dX11_many_23 ?_
    refine sb_goto (tgt := 7) (by decide) dX11_many_26 ?_
    obtain ⟨o4, H⟩ := H
    exact (H o4 (SR_setL hS (lR_lit rfl)))
theorem bX11_goes_0 {g : AG} {ad : Nat → Nat} {d : Nat} {Q : AO → SG → Prop} {rc rs : Nat} {σ : SG} {x1 x2 x3 x4 x5 : Int}  (hx1 : iR x1) (hx2 : iR x2) (hx3 : iR x3) (hx4 : iR x4) (hx5 : iR x5) (hS : SR σ) (H : Cl g ad d mX11_full 0 0 [(.ref (ad 102))] σ (Ki fun r1 s1 => ((¬ x1 = r1 → (iR x1 → iR x2 → iR x3 → iR x4 → iR x5 → iR 0 → SR s1 → Wb g ad d mX11_goes Q 90 [some (.ref (ad 102)), some (vi x1), some (vi x2), some (vi x3), some (vi x4), some (vi x5), some (vi 0), none, none, none, none] [] s1 rc rs)) ∧ (x1 = r1 → Cl g ad d mX11_after0 0 0 [(.ref (ad 102)), (vi x3), (vi ((-1)))] s1 (Ki fun r2 s2 => iR (x4 + r2) ∧ (((x4 + r2) ≤ (sc s2 102 28) → (iR x1 → iR x2 → iR x3 → iR x4 → iR x5 → iR (x4 + r2) → SR s2 → Wb g ad d mX11_goes Q 41 [some (.ref (ad 102)), some (vi x1), some (vi x2), some (vi x3), some (vi x4), some (vi x5), some (vi (x4 + r2)), none, none, none, none] [] s2 rc rs)) ∧ (¬ (x4 + r2) ≤ (sc s2 102 28) → Cl g ad d mX11_lesser 0 0 [(vi (sc s2 102 29)), (vi (x4 + r2))] s2 (Ki fun r4 s4 => (iR x1 → iR x2 → iR x3 → iR x4 → iR x5 → iR (x4 + r2) → SR (setS s4 102 29 r4) → Wb g ad d mX11_goes Q 41 [some (.ref (ad 102)), some (vi x1), some (vi x2), some (vi x3), some (vi x4), some (vi x5), some (vi (x4 + r2)), none, none, none, none] [] (setS s4 102 29 r4) rc rs))))))))) : Wb g ad d mX11_goes Q 0 [some (.ref (ad 102)), some (vi x1), some (vi x2), some (vi x3), some (vi x4), some (vi x5), none, none, none, none, none] [] σ rc rs := by
  refine sb_iload_n (pc' := 1) rfl rfl dX11_goes_0 ?_
  refine sb_aload_n (pc' := 2) rfl rfl dX11_goes_1 ?_
  obtain ⟨d1, hd1, H⟩ := H
  refine sb_callV (pc' := 5) rfl rfl (rc := rc) (rs := rs) (mc' := 0) (ms' := 0) (As := []) (st := [(vi x1)]) of_102 rfl rfl (Nat.le_of_ble_eq_true rfl) hd1 kX11_full ⟨wd_1882, wd_1884, wd_131⟩ dX11_goes_2 (Eb.mono H ?_)
  rintro o s1 ⟨r1, rfl, hr1, hs1, H⟩
  show Wb g ad d mX11_goes Q 5 [some (.ref (ad 102)), some (vi x1), some (vi x2), some (vi x3), some (vi x4), some (vi x5), none, none, none, none, none] [(vi r1), (vi x1)] s1 rc rs
  refine sb_icmp_ne (pc' := 8) (tgt := 87) rfl (by decide) hx1 hr1 dX11_goes_5 ?_ ?_
  · intro cc; have H := H.1 cc
    refine sb_iconst (pc' := 88) rfl dX11_goes_87 ?_
    refine sb_istore (pc' := 90) rfl (L' := [some (.ref (ad 102)), some (vi x1), some (vi x2), some (vi x3), some (vi x4), some (vi x5), some (vi 0), none, none, none, none]) rfl (by decide) dX11_goes_88 ?_
    exact (H hx1 hx2 hx3 hx4 hx5 (iR_lit rfl) hs1)
  · intro cc; have H := H.2 cc
    refine sb_iload (pc' := 10) rfl rfl dX11_goes_8 ?_
    refine sb_aload_n (pc' := 11) rfl rfl dX11_goes_10 ?_
    refine sb_iload_n (pc' := 12) rfl rfl dX11_goes_11 ?_
    refine sb_iconst (pc' := 13) rfl dX11_goes_12 ?_
    obtain ⟨d2, hd2, H⟩ := H
    refine sb_callV (pc' := 16) rfl rfl (rc := rc) (rs := rs) (mc' := 0) (ms' := 0) (As := [(vi x3), (vi ((-1)))]) (st := [(vi x4)]) of_102 rfl rfl (Nat.le_of_ble_eq_true rfl) hd2 kX11_after0 ⟨wd_1886, wd_1888, wd_132⟩ dX11_goes_13 (Eb.mono H ?_)
    rintro o s2 ⟨r2, rfl, hr2, hs2, H⟩
    show Wb g ad d mX11_goes Q 16 [some (.ref (ad 102)), some (vi x1), some (vi x2), some (vi x3), some (vi x4), some (vi x5), none, none, none, none, none] [(vi r2), (vi x4)] s2 rc rs
    refine sb_iadd (pc' := 17) rfl dX11_goes_16 ?_
    refine sb_istore (pc' := 19) rfl (L' := [some (.ref (ad 102)), some (vi x1), some (vi x2), some (vi x3), some (vi x4), some (vi x5), some (vi (x4 + r2)), none, none, none, none]) rfl (by decide) dX11_goes_17 ?_
    refine sb_iload (pc' := 21) rfl rfl dX11_goes_19 ?_
    refine sb_aload_n (pc' := 22) rfl rfl dX11_goes_21 ?_
    refine sb_getI (pc' := 25) rfl fi_102_28 wd_1578 dX11_goes_22 ?_
    obtain ⟨o3, H⟩ := H
    refine sb_icmp_le (pc' := 28) (tgt := 41) rfl (by decide) o3 (SR_sc hs2 _ _) dX11_goes_25 ?_ ?_
    · intro cc; have H := H.1 cc
      exact (H hx1 hx2 hx3 hx4 hx5 o3 hs2)
    · intro cc; have H := H.2 cc
      refine sb_aload_n (pc' := 29) rfl rfl dX11_goes_28 ?_
      refine sb_aload_n (pc' := 30) rfl rfl dX11_goes_29 ?_
      refine sb_getI (pc' := 33) rfl fi_102_29 wd_1579 dX11_goes_30 ?_
      refine sb_iload (pc' := 35) rfl rfl dX11_goes_33 ?_
      obtain ⟨d4, hd4, H⟩ := H
      refine sb_callS (pc' := 38) rfl rfl (rc := rc) (rs := rs) (mc' := 0) (ms' := 0) (As := [(vi (sc s2 102 29)), (vi (x4 + r2))]) (st := [(.ref (ad 102))])  rfl rfl (Nat.le_of_ble_eq_true rfl) hd4 kX11_lesser ⟨wd_1921, wd_1922⟩ dX11_goes_35 (Eb.mono H ?_)
      rintro o s4 ⟨r4, rfl, hr4, hs4, H⟩
      show Wb g ad d mX11_goes Q 38 [some (.ref (ad 102)), some (vi x1), some (vi x2), some (vi x3), some (vi x4), some (vi x5), some (vi (x4 + r2)), none, none, none, none] [(vi r4), (.ref (ad 102))] s4 rc rs
      refine sb_putI (pc' := 41) rfl fi_102_29 (Or.inl rfl) wd_1579 dX11_goes_38 ?_
      exact (H hx1 hx2 hx3 hx4 hx5 o3 (SR_setS hs4 hr4))
theorem bX11_goes_41 {g : AG} {ad : Nat → Nat} {d : Nat} {Q : AO → SG → Prop} {rc rs : Nat} {σ : SG} {x1 x2 x3 x4 x5 x6 : Int}  (hx1 : iR x1) (hx2 : iR x2) (hx3 : iR x3) (hx4 : iR x4) (hx5 : iR x5) (hx6 : iR x6) (hS : SR σ) (H : ((x6 = (sc σ 102 28) → iR ((sc σ 102 30) - 1) ∧ ((0 ≤ (sc (setS (setS (setS σ 102 30 ((sc σ 102 30) - 1)) 102 26 x5) 102 27 x6) 102 30) → (iR 0 → SR (setS (setS (setS σ 102 30 ((sc σ 102 30) - 1)) 102 26 x5) 102 27 x6) → Q (.inl (some (vi 0))) (setS (setS (setS σ 102 30 ((sc σ 102 30) - 1)) 102 26 x5) 102 27 x6))) ∧ (¬ 0 ≤ (sc (setS (setS (setS σ 102 30 ((sc σ 102 30) - 1)) 102 26 x5) 102 27 x6) 102 30) → (iR 1 → SR (setS (setS (setS σ 102 30 ((sc σ 102 30) - 1)) 102 26 x5) 102 27 x6) → Q (.inl (some (vi 1))) (setS (setS (setS σ 102 30 ((sc σ 102 30) - 1)) 102 26 x5) 102 27 x6))))) ∧ (¬ x6 = (sc σ 102 28) → (iR 0 → SR σ → Q (.inl (some (vi 0))) σ)))) : Wb g ad d mX11_goes Q 41 [some (.ref (ad 102)), some (vi x1), some (vi x2), some (vi x3), some (vi x4), some (vi x5), some (vi x6), none, none, none, none] [] σ rc rs := by
  refine sb_iload (pc' := 43) rfl rfl dX11_goes_41 ?_
  refine sb_aload_n (pc' := 44) rfl rfl dX11_goes_43 ?_
  refine sb_getI (pc' := 47) rfl fi_102_28 wd_1578 dX11_goes_44 ?_
  refine sb_icmp_eq (pc' := 50) (tgt := 52) rfl (by decide) hx6 (SR_sc hS _ _) dX11_goes_47 ?_ ?_
  · intro cc; have H := H.1 cc
    refine sb_aload_n (pc' := 53) rfl rfl dX11_goes_52 ?_
    refine sb_dup (pc' := 54) rfl rfl dX11_goes_53 ?_
    refine sb_getI (pc' := 57) rfl fi_102_30 wd_1580 dX11_goes_54 ?_
    refine sb_iconst (pc' := 58) rfl dX11_goes_57 ?_
    refine sb_isub (pc' := 59) rfl dX11_goes_58 ?_
    obtain ⟨o1, H⟩ := H
    refine sb_putI (pc' := 62) rfl fi_102_30 (Or.inl rfl) wd_1580 dX11_goes_59 ?_
    refine sb_aload_n (pc' := 63) rfl rfl dX11_goes_62 ?_
    refine sb_iload (pc' := 65) rfl rfl dX11_goes_63 ?_
    refine sb_putI (pc' := 68) rfl fi_102_26 (Or.inl rfl) wd_1576 dX11_goes_65 ?_
    refine sb_aload_n (pc' := 69) rfl rfl dX11_goes_68 ?_
    refine sb_iload (pc' := 71) rfl rfl dX11_goes_69 ?_
    refine sb_putI (pc' := 74) rfl fi_102_27 (Or.inl rfl) wd_1577 dX11_goes_71 ?_
    refine sb_aload_n (pc' := 75) rfl rfl dX11_goes_74 ?_
    refine sb_getI (pc' := 78) rfl fi_102_30 wd_1580 dX11_goes_75 ?_
    refine sb_if_ge (pc' := 81) (tgt := 85) rfl (by decide) (SR_sc (SR_setS (SR_setS (SR_setS hS o1) hx5) hx6) _ _) dX11_goes_78 ?_ ?_
    · intro cc; have H := H.1 cc
      refine sb_iconst (pc' := 86) rfl dX11_goes_85 ?_
      exact sb_iret rfl (nar_z2 (Or.inl rfl)) dX11_goes_86 (H (iR_lit rfl) (SR_setS (SR_setS (SR_setS hS o1) hx5) hx6))
    · intro cc; have H := H.2 cc
      refine sb_iconst (pc' := 82) rfl dX11_goes_81 ?_
      refine sb_goto (tgt := 86) (by decide) dX11_goes_82 ?_
      exact sb_iret rfl (nar_z2 (Or.inr rfl)) dX11_goes_86 (H (iR_lit rfl) (SR_setS (SR_setS (SR_setS hS o1) hx5) hx6))
  · intro cc; have H := H.2 cc
    refine sb_iconst (pc' := 51) rfl dX11_goes_50 ?_
    exact sb_iret rfl (nar_z2 (Or.inl rfl)) dX11_goes_51 (H (iR_lit rfl) hS)
theorem bX11_goes_90 {g : AG} {ad : Nat → Nat} {d : Nat} {Q : AO → SG → Prop} {rc rs : Nat} {σ : SG} {x1 x2 x3 x4 x5 x6 : Int}  (hx1 : iR x1) (hx2 : iR x2) (hx3 : iR x3) (hx4 : iR x4) (hx5 : iR x5) (hx6 : iR x6) (hS : SR σ) (H : (((ia σ 103 3) ≤ x6 → (iR 0 → SR σ → Q (.inl (some (vi 0))) σ)) ∧ (¬ (ia σ 103 3) ≤ x6 → Cl g ad d mX11_next 0 0 [(.ref (ad 102)), (vi ((-1)))] σ (Ki fun r1 s1 => (iR x1 → iR x2 → iR x3 → iR x4 → iR x5 → iR x6 → iR r1 → SR s1 → Wb g ad d mX11_goes Q 108 [some (.ref (ad 102)), some (vi x1), some (vi x2), some (vi x3), some (vi x4), some (vi x5), some (vi x6), some (vi r1), none, none, none] [] s1 rc rs))))) : Wb g ad d mX11_goes Q 90 [some (.ref (ad 102)), some (vi x1), some (vi x2), some (vi x3), some (vi x4), some (vi x5), some (vi x6), none, none, none, none] [] σ rc rs := by
  refine sb_iload (pc' := 92) rfl rfl dX11_goes_90 ?_
  refine sb_aload_n (pc' := 93) rfl rfl dX11_goes_92 ?_
  refine sb_getC (pc' := 96) rfl fc_102_1 wd_1551 dX11_goes_93 ?_
  refine sb_iconst (pc' := 97) rfl dX11_goes_96 ?_
  refine sb_iald (pc' := 98) rfl aI_103 (by decide) (by decide) dX11_goes_97 ?_
  refine sb_icmp_ge (pc' := 101) (tgt := 296) rfl (by decide) hx6 (SR_ia hS _ _) dX11_goes_98 ?_ ?_
  · intro cc; have H := H.1 cc
    refine sb_iconst (pc' := 297) rfl dX11_goes_296 ?_
    exact sb_iret rfl (nar_z2 (Or.inl rfl)) dX11_goes_297 (H (iR_lit rfl) hS)
  · intro cc; have H := H.2 cc
    refine sb_aload_n (pc' := 102) rfl rfl dX11_goes_101 ?_
    refine sb_iconst (pc' := 103) rfl dX11_goes_102 ?_
    obtain ⟨d1, hd1, H⟩ := H
    refine sb_callV (pc' := 106) rfl rfl (rc := rc) (rs := rs) (mc' := 0) (ms' := 0) (As := [(vi ((-1)))]) (st := []) of_102 rfl rfl (Nat.le_of_ble_eq_true rfl) hd1 kX11_next ⟨wd_1894, wd_1896, wd_133⟩ dX11_goes_103 (Eb.mono H ?_)
    rintro o s1 ⟨r1, rfl, hr1, hs1, H⟩
    show Wb g ad d mX11_goes Q 106 [some (.ref (ad 102)), some (vi x1), some (vi x2), some (vi x3), some (vi x4), some (vi x5), some (vi x6), none, none, none, none] [(vi r1)] s1 rc rs
    refine sb_istore (pc' := 108) rfl (L' := [some (.ref (ad 102)), some (vi x1), some (vi x2), some (vi x3), some (vi x4), some (vi x5), some (vi x6), some (vi r1), none, none, none]) rfl (by decide) dX11_goes_106 ?_
    exact (H hx1 hx2 hx3 hx4 hx5 hx6 hr1 hs1)
theorem bX11_goes_108 {g : AG} {ad : Nat → Nat} {d : Nat} {Q : AO → SG → Prop} {rc rs : Nat} {σ : SG} {x1 x2 x3 x4 x5 x6 x7 : Int}  (hx1 : iR x1) (hx2 : iR x2) (hx3 : iR x3) (hx4 : iR x4) (hx5 : iR x5) (hx6 : iR x6) (hx7 : iR x7) (hS : SR σ) (H : ((99 < x7 → iR (x6 + 1) ∧ (iR x1 → iR x2 → iR x3 → iR x4 → iR x5 → iR (x6 + 1) → SR σ → Wb g ad d mX11_goes Q 90 [some (.ref (ad 102)), some (vi x1), some (vi x2), some (vi x3), some (vi x4), some (vi x5), some (vi (x6 + 1)), none, none, none, none] [] σ rc rs)) ∧ (¬ 99 < x7 → Cl g ad d mX11_may 0 0 [(.ref (ad 102)), (vi x1), (vi x2), (vi x6), (vi x7)] σ (Ki fun r2 s2 => ((¬ r2 = 0 → Cl g ad d mX11_weighs 0 0 [(.ref (ad 102)), (vi x2), (vi x3), (vi x6), (vi x7)] s2 (Kv fun s3 => Cl g ad d mX11_maskOf 0 0 [(.ref (ad 102)), (vi x7), (vi x6)] s3 (Ki fun r4 s4 => Cl g ad d mX11_covers 0 0 [(.ref (ad 102)), (vi x7)] s4 (Ki fun r5 s5 => Cl g ad d mX11_rest 0 0 [(.ref (ad 102)), (vi (bOr x1 r4)), (vi (x6 + r5)), (vi (sc s3 102 23))] s5 (Ki fun r6 s6 => ((r6 < 1000000000 → iR ((x4 + (sc s3 102 22)) + r6) ∧ ((((x4 + (sc s3 102 22)) + r6) ≤ (sc s6 102 28) → (0 ≤ x5 ∧ x5 < 6) ∧ Cl g ad d mX11_maskOf 0 0 [(.ref (ad 102)), (vi x7), (vi x6)] (setI (setI s6 114 x5 x6) 115 x5 x7) (Ki fun r9 s9 => Cl g ad d mX11_covers 0 0 [(.ref (ad 102)), (vi x7)] s9 (Ki fun r10 s10 => Cl g ad d mX11_goes 0 0 [(.ref (ad 102)), (vi (bOr x1 r9)), (vi (x6 + r10)), (vi (sc s3 102 23)), (vi (x4 + (sc s3 102 22))), (vi (x5 + 1))] s10 (Ki fun r11 s11 => ((r11 = 0 → (iR x1 → iR x2 → iR x3 → iR x4 → iR x5 → iR x6 → iR x7 → SR s11 → Wb g ad d mX11_goes Q 279 [some (.ref (ad 102)), some (vi x1), some (vi x2), some (vi x3), some (vi x4), some (vi x5), some (vi x6), some (vi x7), none, none, none] [] s11 rc rs)) ∧ (¬ r11 = 0 → (iR 1 → SR s11 → Q (.inl (some (vi 1))) s11))))))) ∧ (¬ ((x4 + (sc s3 102 22)) + r6) ≤ (sc s6 102 28) → Cl g ad d mX11_lesser 0 0 [(vi (sc s6 102 29)), (vi ((x4 + (sc s3 102 22)) + r6))] s6 (Ki fun r12 s12 => (iR x1 → iR x2 → iR x3 → iR x4 → iR x5 → iR x6 → iR x7 → SR (setS s12 102 29 r12) → Wb g ad d mX11_goes Q 279 [some (.ref (ad 102)), some (vi x1), some (vi x2), some (vi x3), some (vi x4), some (vi x5), some (vi x6), some (vi x7), none, none, none] [] (setS s12 102 29 r12) rc rs))))) ∧ (¬ r6 < 1000000000 → (iR x1 → iR x2 → iR x3 → iR x4 → iR x5 → iR x6 → iR x7 → SR s6 → Wb g ad d mX11_goes Q 279 [some (.ref (ad 102)), some (vi x1), some (vi x2), some (vi x3), some (vi x4), some (vi x5), some (vi x6), some (vi x7), none, none, none] [] s6 rc rs)))))))) ∧ (r2 = 0 → (iR x1 → iR x2 → iR x3 → iR x4 → iR x5 → iR x6 → iR x7 → SR s2 → Wb g ad d mX11_goes Q 279 [some (.ref (ad 102)), some (vi x1), some (vi x2), some (vi x3), some (vi x4), some (vi x5), some (vi x6), some (vi x7), none, none, none] [] s2 rc rs))))))) : Wb g ad d mX11_goes Q 108 [some (.ref (ad 102)), some (vi x1), some (vi x2), some (vi x3), some (vi x4), some (vi x5), some (vi x6), some (vi x7), none, none, none] [] σ rc rs := by
  refine sb_iload (pc' := 110) rfl rfl dX11_goes_108 ?_
  refine sb_bipush (pc' := 112) rfl (z := 99) (by decide) dX11_goes_110 ?_
  refine sb_icmp_gt (pc' := 115) (tgt := 290) rfl (by decide) hx7 (iR_lit rfl) dX11_goes_112 ?_ ?_
  · intro cc; have H := H.1 cc
    refine sb_iinc (pc' := 293) rfl rfl (L' := [some (.ref (ad 102)), some (vi x1), some (vi x2), some (vi x3), some (vi x4), some (vi x5), some (vi (x6 + 1)), some (vi x7), none, none, none]) rfl (by decide) dX11_goes_290 ?_
    refine sb_goto (tgt := 90) (by decide) dX11_goes_293 ?_
    obtain ⟨o1, H⟩ := H
    refine Wb.forget [true, true, true, true, true, true, true, false, false, false, false] ?_
    exact (H hx1 hx2 hx3 hx4 hx5 o1 hS)
  · intro cc; have H := H.2 cc
    refine sb_aload_n (pc' := 116) rfl rfl dX11_goes_115 ?_
    refine sb_iload_n (pc' := 117) rfl rfl dX11_goes_116 ?_
    refine sb_iload_n (pc' := 118) rfl rfl dX11_goes_117 ?_
    refine sb_iload (pc' := 120) rfl rfl dX11_goes_118 ?_
    refine sb_iload (pc' := 122) rfl rfl dX11_goes_120 ?_
    obtain ⟨d2, hd2, H⟩ := H
    refine sb_callV (pc' := 125) rfl rfl (rc := rc) (rs := rs) (mc' := 0) (ms' := 0) (As := [(vi x1), (vi x2), (vi x6), (vi x7)]) (st := []) of_102 rfl rfl (Nat.le_of_ble_eq_true rfl) hd2 kX11_may ⟨wd_1898, wd_1900, wd_134⟩ dX11_goes_122 (Eb.mono H ?_)
    rintro o s2 ⟨r2, rfl, hr2, hs2, H⟩
    show Wb g ad d mX11_goes Q 125 [some (.ref (ad 102)), some (vi x1), some (vi x2), some (vi x3), some (vi x4), some (vi x5), some (vi x6), some (vi x7), none, none, none] [(vi r2)] s2 rc rs
    refine sb_if_ne (pc' := 128) (tgt := 131) rfl (by decide) hr2 dX11_goes_125 ?_ ?_
    · intro cc; have H := H.1 cc
      refine sb_aload_n (pc' := 132) rfl rfl dX11_goes_131 ?_
      refine sb_iload_n (pc' := 133) rfl rfl dX11_goes_132 ?_
      refine sb_iload_n (pc' := 134) rfl rfl dX11_goes_133 ?_
      refine sb_iload (pc' := 136) rfl rfl dX11_goes_134 ?_
      refine sb_iload (pc' := 138) rfl rfl dX11_goes_136 ?_
      obtain ⟨d3, hd3, H⟩ := H
      refine sb_callV (pc' := 141) rfl rfl (rc := rc) (rs := rs) (mc' := 0) (ms' := 0) (As := [(vi x2), (vi x3), (vi x6), (vi x7)]) (st := []) of_102 rfl rfl (Nat.le_of_ble_eq_true rfl) hd3 kX11_weighs ⟨wd_1909, wd_1911, wd_136⟩ dX11_goes_138 (Eb.mono H ?_)
      rintro o s3 ⟨rfl, hs3, H⟩
      show Wb g ad d mX11_goes Q 141 [some (.ref (ad 102)), some (vi x1), some (vi x2), some (vi x3), some (vi x4), some (vi x5), some (vi x6), some (vi x7), none, none, none] [] s3 rc rs
      refine sb_iload (pc' := 143) rfl rfl dX11_goes_141 ?_
      refine sb_aload_n (pc' := 144) rfl rfl dX11_goes_143 ?_
      refine sb_getI (pc' := 147) rfl fi_102_22 wd_1572 dX11_goes_144 ?_
      refine sb_iadd (pc' := 148) rfl dX11_goes_147 ?_
      refine sb_istore (pc' := 150) rfl (L' := [some (.ref (ad 102)), some (vi x1), some (vi x2), some (vi x3), some (vi x4), some (vi x5), some (vi x6), some (vi x7), some (vi (x4 + (sc s3 102 22))), none, none]) rfl (by decide) dX11_goes_148 ?_
      refine sb_aload_n (pc' := 151) rfl rfl dX11_goes_150 ?_
      refine sb_getI (pc' := 154) rfl fi_102_23 wd_1573 dX11_goes_151 ?_
      refine sb_istore (pc' := 156) rfl (L' := [some (.ref (ad 102)), some (vi x1), some (vi x2), some (vi x3), some (vi x4), some (vi x5), some (vi x6), some (vi x7), some (vi (x4 + (sc s3 102 22))), some (vi (sc s3 102 23)), none]) rfl (by decide) dX11_goes_154 ?_
      refine sb_aload_n (pc' := 157) rfl rfl dX11_goes_156 ?_
      refine sb_iload_n (pc' := 158) rfl rfl dX11_goes_157 ?_
      refine sb_aload_n (pc' := 159) rfl rfl dX11_goes_158 ?_
      refine sb_iload (pc' := 161) rfl rfl dX11_goes_159 ?_
      refine sb_iload (pc' := 163) rfl rfl dX11_goes_161 ?_
      obtain ⟨d4, hd4, H⟩ := H
      refine sb_callV (pc' := 166) rfl rfl (rc := rc) (rs := rs) (mc' := 0) (ms' := 0) (As := [(vi x7), (vi x6)]) (st := [(vi x1), (.ref (ad 102))]) of_102 rfl rfl (Nat.le_of_ble_eq_true rfl) hd4 kX11_maskOf ⟨wd_1905, wd_1907, wd_135⟩ dX11_goes_163 (Eb.mono H ?_)
      rintro o s4 ⟨r4, rfl, hr4, hs4, H⟩
      show Wb g ad d mX11_goes Q 166 [some (.ref (ad 102)), some (vi x1), some (vi x2), some (vi x3), some (vi x4), some (vi x5), some (vi x6), some (vi x7), some (vi (x4 + (sc s3 102 22))), some (vi (sc s3 102 23)), none] [(vi r4), (vi x1), (.ref (ad 102))] s4 rc rs
      refine sb_ior (pc' := 167) rfl dX11_goes_166 ?_
      refine sb_iload (pc' := 169) rfl rfl dX11_goes_167 ?_
      refine sb_aload_n (pc' := 170) rfl rfl dX11_goes_169 ?_
      refine sb_iload (pc' := 172) rfl rfl dX11_goes_170 ?_
      obtain ⟨d5, hd5, H⟩ := H
      refine sb_callV (pc' := 175) rfl rfl (rc := rc) (rs := rs) (mc' := 0) (ms' := 0) (As := [(vi x7)]) (st := [(vi x6), (vi (bOr x1 r4)), (.ref (ad 102))]) of_102 rfl rfl (Nat.le_of_ble_eq_true rfl) hd5 kX11_covers ⟨wd_1862, wd_1864, wd_126⟩ dX11_goes_172 (Eb.mono H ?_)
      rintro o s5 ⟨r5, rfl, hr5, hs5, H⟩
      show Wb g ad d mX11_goes Q 175 [some (.ref (ad 102)), some (vi x1), some (vi x2), some (vi x3), some (vi x4), some (vi x5), some (vi x6), some (vi x7), some (vi (x4 + (sc s3 102 22))), some (vi (sc s3 102 23)), none] [(vi r5), (vi x6), (vi (bOr x1 r4)), (.ref (ad 102))] s5 rc rs
      refine sb_iadd (pc' := 176) rfl dX11_goes_175 ?_
      refine sb_iload (pc' := 178) rfl rfl dX11_goes_176 ?_
      obtain ⟨d6, hd6, H⟩ := H
      refine sb_callV (pc' := 181) rfl rfl (rc := rc) (rs := rs) (mc' := 0) (ms' := 0) (As := [(vi (bOr x1 r4)), (vi (x6 + r5)), (vi (sc s3 102 23))]) (st := []) of_102 rfl rfl (Nat.le_of_ble_eq_true rfl) hd6 kX11_rest ⟨wd_1878, wd_1880, wd_130⟩ dX11_goes_178 (Eb.mono H ?_)
      rintro o s6 ⟨r6, rfl, hr6, hs6, H⟩
      show Wb g ad d mX11_goes Q 181 [some (.ref (ad 102)), some (vi x1), some (vi x2), some (vi x3), some (vi x4), some (vi x5), some (vi x6), some (vi x7), some (vi (x4 + (sc s3 102 22))), some (vi (sc s3 102 23)), none] [(vi r6)] s6 rc rs
      refine sb_istore (pc' := 183) rfl (L' := [some (.ref (ad 102)), some (vi x1), some (vi x2), some (vi x3), some (vi x4), some (vi x5), some (vi x6), some (vi x7), some (vi (x4 + (sc s3 102 22))), some (vi (sc s3 102 23)), some (vi r6)]) rfl (by decide) dX11_goes_181 ?_
      refine sb_iload (pc' := 185) rfl rfl dX11_goes_183 ?_
      refine sb_ldcw (pc' := 188) rfl (z := 1000000000) rfl wd_1893 dX11_goes_185 ?_
      refine sb_icmp_lt (pc' := 191) (tgt := 194) rfl (by decide) hr6 (iR_lit rfl) dX11_goes_188 ?_ ?_
      · intro cc; have H := H.1 cc
        refine sb_iload (pc' := 196) rfl rfl dX11_goes_194 ?_
        refine sb_iload (pc' := 198) rfl rfl dX11_goes_196 ?_
        refine sb_iadd (pc' := 199) rfl dX11_goes_198 ?_
        refine sb_aload_n (pc' := 200) rfl rfl dX11_goes_199 ?_
        refine sb_getI (pc' := 203) rfl fi_102_28 wd_1578 dX11_goes_200 ?_
        obtain ⟨o7, H⟩ := H
        refine sb_icmp_le (pc' := 206) (tgt := 225) rfl (by decide) o7 (SR_sc hs6 _ _) dX11_goes_203 ?_ ?_
        · intro cc; have H := H.1 cc
          refine sb_aload_n (pc' := 226) rfl rfl dX11_goes_225 ?_
          refine sb_getC (pc' := 229) rfl fc_102_24 wd_1574 dX11_goes_226 ?_
          refine sb_iload (pc' := 231) rfl rfl dX11_goes_229 ?_
          refine sb_iload (pc' := 233) rfl rfl dX11_goes_231 ?_
          obtain ⟨o8, H⟩ := H
          refine sb_iast (pc' := 234) rfl aI_114 o8.1 o8.2  dX11_goes_233 ?_
          refine sb_aload_n (pc' := 235) rfl rfl dX11_goes_234 ?_
          refine sb_getC (pc' := 238) rfl fc_102_25 wd_1575 dX11_goes_235 ?_
          refine sb_iload (pc' := 240) rfl rfl dX11_goes_238 ?_
          refine sb_iload (pc' := 242) rfl rfl dX11_goes_240 ?_
          refine sb_iast (pc' := 243) rfl aI_115 o8.1 o8.2  dX11_goes_242 ?_
          refine sb_aload_n (pc' := 244) rfl rfl dX11_goes_243 ?_
          refine sb_iload_n (pc' := 245) rfl rfl dX11_goes_244 ?_
          refine sb_aload_n (pc' := 246) rfl rfl dX11_goes_245 ?_
          refine sb_iload (pc' := 248) rfl rfl dX11_goes_246 ?_
          refine sb_iload (pc' := 250) rfl rfl dX11_goes_248 ?_
          obtain ⟨d9, hd9, H⟩ := H
          refine sb_callV (pc' := 253) rfl rfl (rc := rc) (rs := rs) (mc' := 0) (ms' := 0) (As := [(vi x7), (vi x6)]) (st := [(vi x1), (.ref (ad 102))]) of_102 rfl rfl (Nat.le_of_ble_eq_true rfl) hd9 kX11_maskOf ⟨wd_1905, wd_1907, wd_135⟩ dX11_goes_250 (Eb.mono H ?_)
          rintro o s9 ⟨r9, rfl, hr9, hs9, H⟩
          show Wb g ad d mX11_goes Q 253 [some (.ref (ad 102)), some (vi x1), some (vi x2), some (vi x3), some (vi x4), some (vi x5), some (vi x6), some (vi x7), some (vi (x4 + (sc s3 102 22))), some (vi (sc s3 102 23)), some (vi r6)] [(vi r9), (vi x1), (.ref (ad 102))] s9 rc rs
          refine sb_ior (pc' := 254) rfl dX11_goes_253 ?_
          refine sb_iload (pc' := 256) rfl rfl dX11_goes_254 ?_
          refine sb_aload_n (pc' := 257) rfl rfl dX11_goes_256 ?_
          refine sb_iload (pc' := 259) rfl rfl dX11_goes_257 ?_
          obtain ⟨d10, hd10, H⟩ := H
          refine sb_callV (pc' := 262) rfl rfl (rc := rc) (rs := rs) (mc' := 0) (ms' := 0) (As := [(vi x7)]) (st := [(vi x6), (vi (bOr x1 r9)), (.ref (ad 102))]) of_102 rfl rfl (Nat.le_of_ble_eq_true rfl) hd10 kX11_covers ⟨wd_1862, wd_1864, wd_126⟩ dX11_goes_259 (Eb.mono H ?_)
          rintro o s10 ⟨r10, rfl, hr10, hs10, H⟩
          show Wb g ad d mX11_goes Q 262 [some (.ref (ad 102)), some (vi x1), some (vi x2), some (vi x3), some (vi x4), some (vi x5), some (vi x6), some (vi x7), some (vi (x4 + (sc s3 102 22))), some (vi (sc s3 102 23)), some (vi r6)] [(vi r10), (vi x6), (vi (bOr x1 r9)), (.ref (ad 102))] s10 rc rs
          refine sb_iadd (pc' := 263) rfl dX11_goes_262 ?_
          refine sb_iload (pc' := 265) rfl rfl dX11_goes_263 ?_
          refine sb_iload (pc' := 267) rfl rfl dX11_goes_265 ?_
          refine sb_iload (pc' := 269) rfl rfl dX11_goes_267 ?_
          refine sb_iconst (pc' := 270) rfl dX11_goes_269 ?_
          refine sb_iadd (pc' := 271) rfl dX11_goes_270 ?_
          obtain ⟨d11, hd11, H⟩ := H
          refine sb_callV (pc' := 274) rfl rfl (rc := rc) (rs := rs) (mc' := 0) (ms' := 0) (As := [(vi (bOr x1 r9)), (vi (x6 + r10)), (vi (sc s3 102 23)), (vi (x4 + (sc s3 102 22))), (vi (x5 + 1))]) (st := []) of_102 rfl rfl (Nat.le_of_ble_eq_true rfl) hd11 kX11_goes ⟨wd_1981, wd_1983, wd_141⟩ dX11_goes_271 (Eb.mono H ?_)
          rintro o s11 ⟨r11, rfl, hr11, hs11, H⟩
          show Wb g ad d mX11_goes Q 274 [some (.ref (ad 102)), some (vi x1), some (vi x2), some (vi x3), some (vi x4), some (vi x5), some (vi x6), some (vi x7), some (vi (x4 + (sc s3 102 22))), some (vi (sc s3 102 23)), some (vi r6)] [(vi r11)] s11 rc rs
          refine sb_if_eq (pc' := 277) (tgt := 279) rfl (by decide) hr11 dX11_goes_274 ?_ ?_
          · intro cc; have H := H.1 cc
            refine Wb.forget [true, true, true, true, true, true, true, true, false, false, false] ?_
            exact (H hx1 hx2 hx3 hx4 hx5 hx6 hx7 hs11)
          · intro cc; have H := H.2 cc
            refine sb_iconst (pc' := 278) rfl dX11_goes_277 ?_
            exact sb_iret rfl (nar_z2 (Or.inr rfl)) dX11_goes_278 (H (iR_lit rfl) hs11)
        · intro cc; have H := H.2 cc
          refine sb_aload_n (pc' := 207) rfl rfl dX11_goes_206 ?_
          refine sb_aload_n (pc' := 208) rfl rfl dX11_goes_207 ?_
          refine sb_getI (pc' := 211) rfl fi_102_29 wd_1579 dX11_goes_208 ?_
          refine sb_iload (pc' := 213) rfl rfl dX11_goes_211 ?_
          refine sb_iload (pc' := 215) rfl rfl dX11_goes_213 ?_
          refine sb_iadd (pc' := 216) rfl dX11_goes_215 ?_
          obtain ⟨d12, hd12, H⟩ := H
          refine sb_callS (pc' := 219) rfl rfl (rc := rc) (rs := rs) (mc' := 0) (ms' := 0) (As := [(vi (sc s6 102 29)), (vi ((x4 + (sc s3 102 22)) + r6))]) (st := [(.ref (ad 102))])  rfl rfl (Nat.le_of_ble_eq_true rfl) hd12 kX11_lesser ⟨wd_1921, wd_1922⟩ dX11_goes_216 (Eb.mono H ?_)
          rintro o s12 ⟨r12, rfl, hr12, hs12, H⟩
          show Wb g ad d mX11_goes Q 219 [some (.ref (ad 102)), some (vi x1), some (vi x2), some (vi x3), some (vi x4), some (vi x5), some (vi x6), some (vi x7), some (vi (x4 + (sc s3 102 22))), some (vi (sc s3 102 23)), some (vi r6)] [(vi r12), (.ref (ad 102))] s12 rc rs
          refine sb_putI (pc' := 222) rfl fi_102_29 (Or.inl rfl) wd_1579 dX11_goes_219 ?_
          refine sb_goto (tgt := 279) (by decide) dX11_goes_222 ?_
          refine Wb.forget [true, true, true, true, true, true, true, true, false, false, false] ?_
          exact (H hx1 hx2 hx3 hx4 hx5 hx6 hx7 (SR_setS hs12 hr12))
      · intro cc; have H := H.2 cc
        refine sb_goto (tgt := 279) (by decide) dX11_goes_191 ?_
        refine Wb.forget [true, true, true, true, true, true, true, true, false, false, false] ?_
        exact (H hx1 hx2 hx3 hx4 hx5 hx6 hx7 hs6)
    · intro cc; have H := H.2 cc
      refine sb_goto (tgt := 279) (by decide) dX11_goes_128 ?_
      exact (H hx1 hx2 hx3 hx4 hx5 hx6 hx7 hs2)
theorem bX11_goes_279 {g : AG} {ad : Nat → Nat} {d : Nat} {Q : AO → SG → Prop} {rc rs : Nat} {σ : SG} {x1 x2 x3 x4 x5 x6 x7 : Int}  (hx1 : iR x1) (hx2 : iR x2) (hx3 : iR x3) (hx4 : iR x4) (hx5 : iR x5) (hx6 : iR x6) (hx7 : iR x7) (hS : SR σ) (H : Cl g ad d mX11_next 0 0 [(.ref (ad 102)), (vi x7)] σ (Ki fun r1 s1 => (iR x1 → iR x2 → iR x3 → iR x4 → iR x5 → iR x6 → iR r1 → SR s1 → Wb g ad d mX11_goes Q 108 [some (.ref (ad 102)), some (vi x1), some (vi x2), some (vi x3), some (vi x4), some (vi x5), some (vi x6), some (vi r1), none, none, none] [] s1 rc rs))) : Wb g ad d mX11_goes Q 279 [some (.ref (ad 102)), some (vi x1), some (vi x2), some (vi x3), some (vi x4), some (vi x5), some (vi x6), some (vi x7), none, none, none] [] σ rc rs := by
  refine sb_aload_n (pc' := 280) rfl rfl dX11_goes_279 ?_
  refine sb_iload (pc' := 282) rfl rfl dX11_goes_280 ?_
  obtain ⟨d1, hd1, H⟩ := H
  refine sb_callV (pc' := 285) rfl rfl (rc := rc) (rs := rs) (mc' := 0) (ms' := 0) (As := [(vi x7)]) (st := []) of_102 rfl rfl (Nat.le_of_ble_eq_true rfl) hd1 kX11_next ⟨wd_1894, wd_1896, wd_133⟩ dX11_goes_282 (Eb.mono H ?_)
  rintro o s1 ⟨r1, rfl, hr1, hs1, H⟩
  show Wb g ad d mX11_goes Q 285 [some (.ref (ad 102)), some (vi x1), some (vi x2), some (vi x3), some (vi x4), some (vi x5), some (vi x6), some (vi x7), none, none, none] [(vi r1)] s1 rc rs
  refine sb_istore (pc' := 287) rfl (L' := [some (.ref (ad 102)), some (vi x1), some (vi x2), some (vi x3), some (vi x4), some (vi x5), some (vi x6), some (vi r1), none, none, none]) rfl (by decide) dX11_goes_285 ?_
  refine sb_goto (tgt := 108) (by decide) dX11_goes_287 ?_
  exact (H hx1 hx2 hx3 hx4 hx5 hx6 hr1 hs1)
theorem bX11_isWay_0 {g : AG} {ad : Nat → Nat} {d : Nat} {Q : AO → SG → Prop} {rc rs : Nat} {σ : SG} {x1 : Int}  (hx1 : iR x1) (hS : SR σ) (H : Cl g ad d mX11_exact0 0 0 [(.ref (ad 102))] σ (Ki fun r1 s1 => (iR x1 → SR (setS (setS s1 102 28 r1) 102 30 x1) → Wb g ad d mX11_isWay Q 13 [some (.ref (ad 102)), some (vi x1)] [] (setS (setS s1 102 28 r1) 102 30 x1) rc rs))) : Wb g ad d mX11_isWay Q 0 [some (.ref (ad 102)), some (vi x1)] [] σ rc rs := by
  refine sb_aload_n (pc' := 1) rfl rfl dX11_isWay_0 ?_
  refine sb_aload_n (pc' := 2) rfl rfl dX11_isWay_1 ?_
  obtain ⟨d1, hd1, H⟩ := H
  refine sb_callV (pc' := 5) rfl rfl (rc := rc) (rs := rs) (mc' := 0) (ms' := 0) (As := []) (st := [(.ref (ad 102))]) of_102 rfl rfl (Nat.le_of_ble_eq_true rfl) hd1 kX11_exact0 ⟨wd_1870, wd_1872, wd_128⟩ dX11_isWay_2 (Eb.mono H ?_)
  rintro o s1 ⟨r1, rfl, hr1, hs1, H⟩
  show Wb g ad d mX11_isWay Q 5 [some (.ref (ad 102)), some (vi x1)] [(vi r1), (.ref (ad 102))] s1 rc rs
  refine sb_putI (pc' := 8) rfl fi_102_28 (Or.inl rfl) wd_1578 dX11_isWay_5 ?_
  refine sb_aload_n (pc' := 9) rfl rfl dX11_isWay_8 ?_
  refine sb_iload_n (pc' := 10) rfl rfl dX11_isWay_9 ?_
  refine sb_putI (pc' := 13) rfl fi_102_30 (Or.inl rfl) wd_1580 dX11_isWay_10 ?_
  exact (H hx1 (SR_setS (SR_setS hs1 hr1) hx1))
theorem bX11_isWay_13 {g : AG} {ad : Nat → Nat} {d : Nat} {Q : AO → SG → Prop} {rc rs : Nat} {σ : SG} {x1 : Int}  (hx1 : iR x1) (hS : SR σ) (H : ((1000000000 ≤ (sc σ 102 28) → (iR 0 → SR σ → Q (.inl (some (vi 0))) σ)) ∧ (¬ 1000000000 ≤ (sc σ 102 28) → Cl g ad d mX11_goes 0 0 [(.ref (ad 102)), (vi 0), (vi 0), (vi ((-1))), (vi 0), (vi 0)] (setS σ 102 29 1000000000) (Ki fun r1 s1 => ((r1 = 0 → (iR x1 → SR (setS s1 102 28 (sc s1 102 29)) → Wb g ad d mX11_isWay Q 13 [some (.ref (ad 102)), some (vi x1)] [] (setS s1 102 28 (sc s1 102 29)) rc rs)) ∧ (¬ r1 = 0 → Cl g ad d mX11_spells 0 0 [(.ref (ad 102))] s1 (Kv fun s2 => (iR 1 → SR s2 → Q (.inl (some (vi 1))) s2)))))))) : Wb g ad d mX11_isWay Q 13 [some (.ref (ad 102)), some (vi x1)] [] σ rc rs := by
  refine sb_aload_n (pc' := 14) rfl rfl dX11_isWay_13 ?_
  refine sb_getI (pc' := 17) rfl fi_102_28 wd_1578 dX11_isWay_14 ?_
  refine sb_ldcw (pc' := 20) rfl (z := 1000000000) rfl wd_1893 dX11_isWay_17 ?_
  refine sb_icmp_ge (pc' := 23) (tgt := 59) rfl (by decide) (SR_sc hS _ _) (iR_lit rfl) dX11_isWay_20 ?_ ?_
  · intro cc; have H := H.1 cc
    refine sb_iconst (pc' := 60) rfl dX11_isWay_59 ?_
    exact sb_iret rfl (nar_z2 (Or.inl rfl)) dX11_isWay_60 (H (iR_lit rfl) hS)
  · intro cc; have H := H.2 cc
    refine sb_aload_n (pc' := 24) rfl rfl dX11_isWay_23 ?_
    refine sb_ldcw (pc' := 27) rfl (z := 1000000000) rfl wd_1893 dX11_isWay_24 ?_
    refine sb_putI (pc' := 30) rfl fi_102_29 (Or.inl rfl) wd_1579 dX11_isWay_27 ?_
    refine sb_aload_n (pc' := 31) rfl rfl dX11_isWay_30 ?_
    refine sb_iconst (pc' := 32) rfl dX11_isWay_31 ?_
    refine sb_iconst (pc' := 33) rfl dX11_isWay_32 ?_
    refine sb_iconst (pc' := 34) rfl dX11_isWay_33 ?_
    refine sb_iconst (pc' := 35) rfl dX11_isWay_34 ?_
    refine sb_iconst (pc' := 36) rfl dX11_isWay_35 ?_
    obtain ⟨d1, hd1, H⟩ := H
    refine sb_callV (pc' := 39) rfl rfl (rc := rc) (rs := rs) (mc' := 0) (ms' := 0) (As := [(vi 0), (vi 0), (vi ((-1))), (vi 0), (vi 0)]) (st := []) of_102 rfl rfl (Nat.le_of_ble_eq_true rfl) hd1 kX11_goes ⟨wd_1981, wd_1983, wd_141⟩ dX11_isWay_36 (Eb.mono H ?_)
    rintro o s1 ⟨r1, rfl, hr1, hs1, H⟩
    show Wb g ad d mX11_isWay Q 39 [some (.ref (ad 102)), some (vi x1)] [(vi r1)] s1 rc rs
    refine sb_if_eq (pc' := 42) (tgt := 48) rfl (by decide) hr1 dX11_isWay_39 ?_ ?_
    · intro cc; have H := H.1 cc
      refine sb_aload_n (pc' := 49) rfl rfl dX11_isWay_48 ?_
      refine sb_aload_n (pc' := 50) rfl rfl dX11_isWay_49 ?_
      refine sb_getI (pc' := 53) rfl fi_102_29 wd_1579 dX11_isWay_50 ?_
      refine sb_putI (pc' := 56) rfl fi_102_28 (Or.inl rfl) wd_1578 dX11_isWay_53 ?_
      refine sb_goto (tgt := 13) (by decide) dX11_isWay_56 ?_
      exact (H hx1 (SR_setS hs1 (SR_sc hs1 _ _)))
    · intro cc; have H := H.2 cc
      refine sb_aload_n (pc' := 43) rfl rfl dX11_isWay_42 ?_
      obtain ⟨d2, hd2, H⟩ := H
      refine sb_callV (pc' := 46) rfl rfl (rc := rc) (rs := rs) (mc' := 0) (ms' := 0) (As := []) (st := []) of_102 rfl rfl (Nat.le_of_ble_eq_true rfl) hd2 kX11_spells ⟨wd_1985, wd_1987, wd_142⟩ dX11_isWay_43 (Eb.mono H ?_)
      rintro o s2 ⟨rfl, hs2, H⟩
      show Wb g ad d mX11_isWay Q 46 [some (.ref (ad 102)), some (vi x1)] [] s2 rc rs
      refine sb_iconst (pc' := 47) rfl dX11_isWay_46 ?_
      exact sb_iret rfl (nar_z2 (Or.inr rfl)) dX11_isWay_47 (H (iR_lit rfl) hs2)
theorem bX11_spells_0 {g : AG} {ad : Nat → Nat} {d : Nat} {Q : AO → SG → Prop} {rc rs : Nat} {σ : SG}    (hS : SR σ) (H : (iR 0 → SR (setS σ 102 32 0) → Wb g ad d mX11_spells Q 7 [some (.ref (ad 102)), some (vi 0), none] [] (setS σ 102 32 0) rc rs)) : Wb g ad d mX11_spells Q 0 [some (.ref (ad 102)), none, none] [] σ rc rs := by
  refine sb_aload_n (pc' := 1) rfl rfl dX11_spells_0 ?_
  refine sb_iconst (pc' := 2) rfl dX11_spells_1 ?_
  refine sb_putI (pc' := 5) rfl fi_102_32 (Or.inl rfl) wd_1582 dX11_spells_2 ?_
  refine sb_iconst (pc' := 6) rfl dX11_spells_5 ?_
  refine sb_istore_n (pc' := 7) rfl (L' := [some (.ref (ad 102)), some (vi 0), none]) rfl (by decide) dX11_spells_6 ?_
  exact (H (iR_lit rfl) (SR_setS hS (iR_lit rfl)))
theorem bX11_spells_7 {g : AG} {ad : Nat → Nat} {d : Nat} {Q : AO → SG → Prop} {rc rs : Nat} {σ : SG} {x1 : Int}  (hx1 : iR x1) (hS : SR σ) (H : (((sc σ 102 26) ≤ x1 → (SR σ → Q (.inl none) σ)) ∧ (¬ (sc σ 102 26) ≤ x1 → (iR x1 → iR 0 → SR σ → Wb g ad d mX11_spells Q 17 [some (.ref (ad 102)), some (vi x1), some (vi 0)] [] σ rc rs)))) : Wb g ad d mX11_spells Q 7 [some (.ref (ad 102)), some (vi x1), none] [] σ rc rs := by
  refine sb_iload_n (pc' := 8) rfl rfl dX11_spells_7 ?_
  refine sb_aload_n (pc' := 9) rfl rfl dX11_spells_8 ?_
  refine sb_getI (pc' := 12) rfl fi_102_26 wd_1576 dX11_spells_9 ?_
  refine sb_icmp_ge (pc' := 15) (tgt := 79) rfl (by decide) hx1 (SR_sc hS _ _) dX11_spells_12 ?_ ?_
  · intro cc; have H := H.1 cc
    exact sb_vret rfl dX11_spells_79 (H hS)
  · intro cc; have H := H.2 cc
    refine sb_iconst (pc' := 16) rfl dX11_spells_15 ?_
    refine sb_istore_n (pc' := 17) rfl (L' := [some (.ref (ad 102)), some (vi x1), some (vi 0)]) rfl (by decide) dX11_spells_16 ?_
    exact (H hx1 (iR_lit rfl) hS)
theorem bX11_spells_17 {g : AG} {ad : Nat → Nat} {d : Nat} {Q : AO → SG → Prop} {rc rs : Nat} {σ : SG} {x1 x2 : Int}  (hx1 : iR x1) (hx2 : iR x2) (hS : SR σ) (H : (0 ≤ x1 ∧ x1 < 6) ∧ Cl g ad d mX11_targetMany 0 0 [(.ref (ad 102)), (vi (ia σ 115 x1))] σ (Ki fun r2 s2 => ((r2 ≤ x2 → iR (x1 + 1) ∧ (iR (x1 + 1) → SR s2 → Wb g ad d mX11_spells Q 7 [some (.ref (ad 102)), some (vi (x1 + 1)), none] [] s2 rc rs)) ∧ (¬ r2 ≤ x2 → Cl g ad d mX11_targetOf 0 0 [(.ref (ad 102)), (vi (ia s2 115 x1)), (vi (ia s2 114 x1)), (vi x2)] s2 (Ki fun r4 s4 => (0 ≤ sc s2 102 32 ∧ sc s2 102 32 < 18) ∧ iR ((sc (setI s4 116 (sc s2 102 32) r4) 102 32) + 1) ∧ iR (x2 + 1) ∧ (iR x1 → iR (x2 + 1) → SR (setS (setI s4 116 (sc s2 102 32) r4) 102 32 ((sc (setI s4 116 (sc s2 102 32) r4) 102 32) + 1)) → Wb g ad d mX11_spells Q 17 [some (.ref (ad 102)), some (vi x1), some (vi (x2 + 1))] [] (setS (setI s4 116 (sc s2 102 32) r4) 102 32 ((sc (setI s4 116 (sc s2 102 32) r4) 102 32) + 1)) rc rs)))))) : Wb g ad d mX11_spells Q 17 [some (.ref (ad 102)), some (vi x1), some (vi x2)] [] σ rc rs := by
  refine sb_iload_n (pc' := 18) rfl rfl dX11_spells_17 ?_
  refine sb_aload_n (pc' := 19) rfl rfl dX11_spells_18 ?_
  refine sb_aload_n (pc' := 20) rfl rfl dX11_spells_19 ?_
  refine sb_getC (pc' := 23) rfl fc_102_25 wd_1575 dX11_spells_20 ?_
  refine sb_iload_n (pc' := 24) rfl rfl dX11_spells_23 ?_
  obtain ⟨o1, H⟩ := H
  refine sb_iald (pc' := 25) rfl aI_115 o1.1 o1.2 dX11_spells_24 ?_
  obtain ⟨d2, hd2, H⟩ := H
  refine sb_callV (pc' := 28) rfl rfl (rc := rc) (rs := rs) (mc' := 0) (ms' := 0) (As := [(vi (ia σ 115 x1))]) (st := [(vi x2)]) of_102 rfl rfl (Nat.le_of_ble_eq_true rfl) hd2 kX11_targetMany ⟨wd_1913, wd_1915, wd_137⟩ dX11_spells_25 (Eb.mono H ?_)
  rintro o s2 ⟨r2, rfl, hr2, hs2, H⟩
  show Wb g ad d mX11_spells Q 28 [some (.ref (ad 102)), some (vi x1), some (vi x2)] [(vi r2), (vi x2)] s2 rc rs
  refine sb_icmp_ge (pc' := 31) (tgt := 73) rfl (by decide) hx2 hr2 dX11_spells_28 ?_ ?_
  · intro cc; have H := H.1 cc
    refine sb_iinc (pc' := 76) rfl rfl (L' := [some (.ref (ad 102)), some (vi (x1 + 1)), some (vi x2)]) rfl (by decide) dX11_spells_73 ?_
    refine sb_goto (tgt := 7) (by decide) dX11_spells_76 ?_
    obtain ⟨o3, H⟩ := H
    refine Wb.forget [true, true, false] ?_
    exact (H o3 hs2)
  · intro cc; have H := H.2 cc
    refine sb_aload_n (pc' := 32) rfl rfl dX11_spells_31 ?_
    refine sb_getC (pc' := 35) rfl fc_102_31 wd_1581 dX11_spells_32 ?_
    refine sb_aload_n (pc' := 36) rfl rfl dX11_spells_35 ?_
    refine sb_getI (pc' := 39) rfl fi_102_32 wd_1582 dX11_spells_36 ?_
    refine sb_aload_n (pc' := 40) rfl rfl dX11_spells_39 ?_
    refine sb_aload_n (pc' := 41) rfl rfl dX11_spells_40 ?_
    refine sb_getC (pc' := 44) rfl fc_102_25 wd_1575 dX11_spells_41 ?_
    refine sb_iload_n (pc' := 45) rfl rfl dX11_spells_44 ?_
    refine sb_iald (pc' := 46) rfl aI_115 o1.1 o1.2 dX11_spells_45 ?_
    refine sb_aload_n (pc' := 47) rfl rfl dX11_spells_46 ?_
    refine sb_getC (pc' := 50) rfl fc_102_24 wd_1574 dX11_spells_47 ?_
    refine sb_iload_n (pc' := 51) rfl rfl dX11_spells_50 ?_
    refine sb_iald (pc' := 52) rfl aI_114 o1.1 o1.2 dX11_spells_51 ?_
    refine sb_iload_n (pc' := 53) rfl rfl dX11_spells_52 ?_
    obtain ⟨d4, hd4, H⟩ := H
    refine sb_callV (pc' := 56) rfl rfl (rc := rc) (rs := rs) (mc' := 0) (ms' := 0) (As := [(vi (ia s2 115 x1)), (vi (ia s2 114 x1)), (vi x2)]) (st := [(vi (sc s2 102 32)), (.ref (ad 116))]) of_102 rfl rfl (Nat.le_of_ble_eq_true rfl) hd4 kX11_targetOf ⟨wd_1917, wd_1919, wd_138⟩ dX11_spells_53 (Eb.mono H ?_)
    rintro o s4 ⟨r4, rfl, hr4, hs4, H⟩
    show Wb g ad d mX11_spells Q 56 [some (.ref (ad 102)), some (vi x1), some (vi x2)] [(vi r4), (vi (sc s2 102 32)), (.ref (ad 116))] s4 rc rs
    obtain ⟨o5, H⟩ := H
    refine sb_iast (pc' := 57) rfl aI_116 o5.1 o5.2  dX11_spells_56 ?_
    refine sb_aload_n (pc' := 58) rfl rfl dX11_spells_57 ?_
    refine sb_dup (pc' := 59) rfl rfl dX11_spells_58 ?_
    refine sb_getI (pc' := 62) rfl fi_102_32 wd_1582 dX11_spells_59 ?_
    refine sb_iconst (pc' := 63) rfl dX11_spells_62 ?_
    refine sb_iadd (pc' := 64) rfl dX11_spells_63 ?_
    obtain ⟨o6, H⟩ := H
    refine sb_putI (pc' := 67) rfl fi_102_32 (Or.inl rfl) wd_1582 dX11_spells_64 ?_
    refine sb_iinc (pc' := 70) rfl rfl (L' := [some (.ref (ad 102)), some (vi x1), some (vi (x2 + 1))]) rfl (by decide) dX11_spells_67 ?_
    refine sb_goto (tgt := 17) (by decide) dX11_spells_70 ?_
    obtain ⟨o7, H⟩ := H
    exact (H hx1 o7 (SR_setS (SR_setI hs4 hr4) o6))
theorem bX11_isWayNumber_0 {g : AG} {ad : Nat → Nat} {d : Nat} {Q : AO → SG → Prop} {rc rs : Nat} {σ : SG} {x0 : Int}  (hx0 : iR x0) (hS : SR σ) (H : Cl g ad d mX11_isIn 0 0 [(vi x0), (vi 0), (vi 29)] σ (Ki fun r1 s1 => (r1 = 0 ∨ r1 = 1) ∧ (iR r1 → SR s1 → Q (.inl (some (vi r1))) s1))) : Wb g ad d mX11_isWayNumber Q 0 [some (vi x0)] [] σ rc rs := by
  refine sb_iload_n (pc' := 1) rfl rfl dX11_isWayNumber_0 ?_
  refine sb_iconst (pc' := 2) rfl dX11_isWayNumber_1 ?_
  refine sb_bipush (pc' := 4) rfl (z := 29) (by decide) dX11_isWayNumber_2 ?_
  obtain ⟨d1, hd1, H⟩ := H
  refine sb_callS (pc' := 7) rfl rfl (rc := rc) (rs := rs) (mc' := 0) (ms' := 0) (As := [(vi x0), (vi 0), (vi 29)]) (st := [])  rfl rfl (Nat.le_of_ble_eq_true rfl) hd1 kX11_isIn ⟨wd_1719, wd_1720⟩ dX11_isWayNumber_4 (Eb.mono H ?_)
  rintro o s1 ⟨r1, rfl, hr1, hs1, H⟩
  show Wb g ad d mX11_isWayNumber Q 7 [some (vi x0)] [(vi r1)] s1 rc rs
  obtain ⟨o2, H⟩ := H
  exact sb_iret rfl (nar_z2 o2) dX11_isWayNumber_7 (H hr1 hs1)
theorem bX11_way_0 {g : AG} {ad : Nat → Nat} {d : Nat} {Q : AO → SG → Prop} {rc rs : Nat} {σ : SG} {x1 x2 : Int}  (hx1 : iR x1) (hx2 : iR x2) (hS : SR σ) (H : Cl g ad d mX11_isIn 0 0 [(vi x2), (vi 0), (vi 2)] σ (Ki fun r1 s1 => ((¬ r1 = 0 → Cl g ad d mX11_isWayNumber 0 0 [(vi x1)] s1 (Ki fun r2 s2 => ((¬ r2 = 0 → (((sc (setS s2 102 0 0) 102 0) ≤ 0 → Cl g ad d mX11_isWay 0 0 [(.ref (ad 102)), (vi x1)] (setS s2 102 0 0) (Ki fun r3 s3 => ((¬ r3 = 0 → ((¬ x2 = 0 → ((¬ x2 = 1 → (iR (sc s3 102 32) → SR s3 → Q (.inl (some (vi (sc s3 102 32)))) s3)) ∧ (x2 = 1 → (iR (sc s3 102 26) → SR s3 → Q (.inl (some (vi (sc s3 102 26)))) s3)))) ∧ (x2 = 0 → (iR (sc s3 102 27) → SR s3 → Q (.inl (some (vi (sc s3 102 27)))) s3)))) ∧ (r3 = 0 → (iR ((-1)) → SR s3 → Q (.inl (some (vi ((-1))))) s3))))) ∧ (¬ (sc (setS s2 102 0 0) 102 0) ≤ 0 → (iR 0 → SR (setS s2 102 0 0) → Q (.inl (some (vi 0))) (setS s2 102 0 0))))) ∧ (r2 = 0 → (((sc (setS s2 102 0 2) 102 0) ≤ 0 → Cl g ad d mX11_isWay 0 0 [(.ref (ad 102)), (vi x1)] (setS s2 102 0 2) (Ki fun r4 s4 => ((¬ r4 = 0 → ((¬ x2 = 0 → ((¬ x2 = 1 → (iR (sc s4 102 32) → SR s4 → Q (.inl (some (vi (sc s4 102 32)))) s4)) ∧ (x2 = 1 → (iR (sc s4 102 26) → SR s4 → Q (.inl (some (vi (sc s4 102 26)))) s4)))) ∧ (x2 = 0 → (iR (sc s4 102 27) → SR s4 → Q (.inl (some (vi (sc s4 102 27)))) s4)))) ∧ (r4 = 0 → (iR ((-1)) → SR s4 → Q (.inl (some (vi ((-1))))) s4))))) ∧ (¬ (sc (setS s2 102 0 2) 102 0) ≤ 0 → (iR 0 → SR (setS s2 102 0 2) → Q (.inl (some (vi 0))) (setS s2 102 0 2)))))))) ∧ (r1 = 0 → (((sc (setS s1 102 0 1) 102 0) ≤ 0 → Cl g ad d mX11_isWay 0 0 [(.ref (ad 102)), (vi x1)] (setS s1 102 0 1) (Ki fun r5 s5 => ((¬ r5 = 0 → ((¬ x2 = 0 → ((¬ x2 = 1 → (iR (sc s5 102 32) → SR s5 → Q (.inl (some (vi (sc s5 102 32)))) s5)) ∧ (x2 = 1 → (iR (sc s5 102 26) → SR s5 → Q (.inl (some (vi (sc s5 102 26)))) s5)))) ∧ (x2 = 0 → (iR (sc s5 102 27) → SR s5 → Q (.inl (some (vi (sc s5 102 27)))) s5)))) ∧ (r5 = 0 → (iR ((-1)) → SR s5 → Q (.inl (some (vi ((-1))))) s5))))) ∧ (¬ (sc (setS s1 102 0 1) 102 0) ≤ 0 → (iR 0 → SR (setS s1 102 0 1) → Q (.inl (some (vi 0))) (setS s1 102 0 1)))))))) : Wb g ad d mX11_way Q 0 [some (.ref (ad 102)), some (vi x1), some (vi x2)] [] σ rc rs := by
  refine sb_aload_n (pc' := 1) rfl rfl dX11_way_0 ?_
  refine sb_iload_n (pc' := 2) rfl rfl dX11_way_1 ?_
  refine sb_iconst (pc' := 3) rfl dX11_way_2 ?_
  refine sb_iconst (pc' := 4) rfl dX11_way_3 ?_
  obtain ⟨d1, hd1, H⟩ := H
  refine sb_callS (pc' := 7) rfl rfl (rc := rc) (rs := rs) (mc' := 0) (ms' := 0) (As := [(vi x2), (vi 0), (vi 2)]) (st := [(.ref (ad 102))])  rfl rfl (Nat.le_of_ble_eq_true rfl) hd1 kX11_isIn ⟨wd_1719, wd_1720⟩ dX11_way_4 (Eb.mono H ?_)
  rintro o s1 ⟨r1, rfl, hr1, hs1, H⟩
  show Wb g ad d mX11_way Q 7 [some (.ref (ad 102)), some (vi x1), some (vi x2)] [(vi r1), (.ref (ad 102))] s1 rc rs
  refine sb_if_ne (pc' := 10) (tgt := 14) rfl (by decide) hr1 dX11_way_7 ?_ ?_
  · intro cc; have H := H.1 cc
    refine sb_iload_n (pc' := 15) rfl rfl dX11_way_14 ?_
    obtain ⟨d2, hd2, H⟩ := H
    refine sb_callS (pc' := 18) rfl rfl (rc := rc) (rs := rs) (mc' := 0) (ms' := 0) (As := [(vi x1)]) (st := [(.ref (ad 102))])  rfl rfl (Nat.le_of_ble_eq_true rfl) hd2 kX11_isWayNumber ⟨wd_1974, wd_1975⟩ dX11_way_15 (Eb.mono H ?_)
    rintro o s2 ⟨r2, rfl, hr2, hs2, H⟩
    show Wb g ad d mX11_way Q 18 [some (.ref (ad 102)), some (vi x1), some (vi x2)] [(vi r2), (.ref (ad 102))] s2 rc rs
    refine sb_if_ne (pc' := 21) (tgt := 25) rfl (by decide) hr2 dX11_way_18 ?_ ?_
    · intro cc; have H := H.1 cc
      refine sb_iconst (pc' := 26) rfl dX11_way_25 ?_
      refine sb_putI (pc' := 29) rfl fi_102_0 (Or.inl rfl) wd_1550 dX11_way_26 ?_
      refine sb_aload_n (pc' := 30) rfl rfl dX11_way_29 ?_
      refine sb_getI (pc' := 33) rfl fi_102_0 wd_1550 dX11_way_30 ?_
      refine sb_if_le (pc' := 36) (tgt := 38) rfl (by decide) (SR_sc (SR_setS hs2 (iR_lit rfl)) _ _) dX11_way_33 ?_ ?_
      · intro cc; have H := H.1 cc
        refine sb_aload_n (pc' := 39) rfl rfl dX11_way_38 ?_
        refine sb_iload_n (pc' := 40) rfl rfl dX11_way_39 ?_
        obtain ⟨d3, hd3, H⟩ := H
        refine sb_callV (pc' := 43) rfl rfl (rc := rc) (rs := rs) (mc' := 0) (ms' := 0) (As := [(vi x1)]) (st := []) of_102 rfl rfl (Nat.le_of_ble_eq_true rfl) hd3 kX11_isWay ⟨wd_1977, wd_1979, wd_140⟩ dX11_way_40 (Eb.mono H ?_)
        rintro o s3 ⟨r3, rfl, hr3, hs3, H⟩
        show Wb g ad d mX11_way Q 43 [some (.ref (ad 102)), some (vi x1), some (vi x2)] [(vi r3)] s3 rc rs
        refine sb_if_ne (pc' := 46) (tgt := 48) rfl (by decide) hr3 dX11_way_43 ?_ ?_
        · intro cc; have H := H.1 cc
          refine sb_iload_n (pc' := 49) rfl rfl dX11_way_48 ?_
          refine sb_if_ne (pc' := 52) (tgt := 59) rfl (by decide) hx2 dX11_way_49 ?_ ?_
          · intro cc; have H := H.1 cc
            refine sb_iload_n (pc' := 60) rfl rfl dX11_way_59 ?_
            refine sb_iconst (pc' := 61) rfl dX11_way_60 ?_
            refine sb_icmp_ne (pc' := 64) (tgt := 71) rfl (by decide) hx2 (iR_lit rfl) dX11_way_61 ?_ ?_
            · intro cc; have H := H.1 cc
              refine sb_aload_n (pc' := 72) rfl rfl dX11_way_71 ?_
              refine sb_getI (pc' := 75) rfl fi_102_32 wd_1582 dX11_way_72 ?_
              exact sb_iret rfl rfl dX11_way_75 (H (SR_sc hs3 _ _) hs3)
            · intro cc; have H := H.2 cc
              refine sb_aload_n (pc' := 65) rfl rfl dX11_way_64 ?_
              refine sb_getI (pc' := 68) rfl fi_102_26 wd_1576 dX11_way_65 ?_
              refine sb_goto (tgt := 75) (by decide) dX11_way_68 ?_
              exact sb_iret rfl rfl dX11_way_75 (H (SR_sc hs3 _ _) hs3)
          · intro cc; have H := H.2 cc
            refine sb_aload_n (pc' := 53) rfl rfl dX11_way_52 ?_
            refine sb_getI (pc' := 56) rfl fi_102_27 wd_1577 dX11_way_53 ?_
            refine sb_goto (tgt := 75) (by decide) dX11_way_56 ?_
            exact sb_iret rfl rfl dX11_way_75 (H (SR_sc hs3 _ _) hs3)
        · intro cc; have H := H.2 cc
          refine sb_iconst (pc' := 47) rfl dX11_way_46 ?_
          exact sb_iret rfl rfl dX11_way_47 (H (iR_lit rfl) hs3)
      · intro cc; have H := H.2 cc
        refine sb_iconst (pc' := 37) rfl dX11_way_36 ?_
        exact sb_iret rfl rfl dX11_way_37 (H (iR_lit rfl) (SR_setS hs2 (iR_lit rfl)))
    · intro cc; have H := H.2 cc
      refine sb_iconst (pc' := 22) rfl dX11_way_21 ?_
      refine sb_goto (tgt := 26) (by decide) dX11_way_22 ?_
      refine sb_putI (pc' := 29) rfl fi_102_0 (Or.inl rfl) wd_1550 dX11_way_26 ?_
      refine sb_aload_n (pc' := 30) rfl rfl dX11_way_29 ?_
      refine sb_getI (pc' := 33) rfl fi_102_0 wd_1550 dX11_way_30 ?_
      refine sb_if_le (pc' := 36) (tgt := 38) rfl (by decide) (SR_sc (SR_setS hs2 (iR_lit rfl)) _ _) dX11_way_33 ?_ ?_
      · intro cc; have H := H.1 cc
        refine sb_aload_n (pc' := 39) rfl rfl dX11_way_38 ?_
        refine sb_iload_n (pc' := 40) rfl rfl dX11_way_39 ?_
        obtain ⟨d4, hd4, H⟩ := H
        refine sb_callV (pc' := 43) rfl rfl (rc := rc) (rs := rs) (mc' := 0) (ms' := 0) (As := [(vi x1)]) (st := []) of_102 rfl rfl (Nat.le_of_ble_eq_true rfl) hd4 kX11_isWay ⟨wd_1977, wd_1979, wd_140⟩ dX11_way_40 (Eb.mono H ?_)
        rintro o s4 ⟨r4, rfl, hr4, hs4, H⟩
        show Wb g ad d mX11_way Q 43 [some (.ref (ad 102)), some (vi x1), some (vi x2)] [(vi r4)] s4 rc rs
        refine sb_if_ne (pc' := 46) (tgt := 48) rfl (by decide) hr4 dX11_way_43 ?_ ?_
        · intro cc; have H := H.1 cc
          refine sb_iload_n (pc' := 49) rfl rfl dX11_way_48 ?_
          refine sb_if_ne (pc' := 52) (tgt := 59) rfl (by decide) hx2 dX11_way_49 ?_ ?_
          · intro cc; have H := H.1 cc
            refine sb_iload_n (pc' := 60) rfl rfl dX11_way_59 ?_
            refine sb_iconst (pc' := 61) rfl dX11_way_60 ?_
            refine sb_icmp_ne (pc' := 64) (tgt := 71) rfl (by decide) hx2 (iR_lit rfl) dX11_way_61 ?_ ?_
            · intro cc; have H := H.1 cc
              refine sb_aload_n (pc' := 72) rfl rfl dX11_way_71 ?_
              refine sb_getI (pc' := 75) rfl fi_102_32 wd_1582 dX11_way_72 ?_
              exact sb_iret rfl rfl dX11_way_75 (H (SR_sc hs4 _ _) hs4)
            · intro cc; have H := H.2 cc
              refine sb_aload_n (pc' := 65) rfl rfl dX11_way_64 ?_
              refine sb_getI (pc' := 68) rfl fi_102_26 wd_1576 dX11_way_65 ?_
              refine sb_goto (tgt := 75) (by decide) dX11_way_68 ?_
              exact sb_iret rfl rfl dX11_way_75 (H (SR_sc hs4 _ _) hs4)
          · intro cc; have H := H.2 cc
            refine sb_aload_n (pc' := 53) rfl rfl dX11_way_52 ?_
            refine sb_getI (pc' := 56) rfl fi_102_27 wd_1577 dX11_way_53 ?_
            refine sb_goto (tgt := 75) (by decide) dX11_way_56 ?_
            exact sb_iret rfl rfl dX11_way_75 (H (SR_sc hs4 _ _) hs4)
        · intro cc; have H := H.2 cc
          refine sb_iconst (pc' := 47) rfl dX11_way_46 ?_
          exact sb_iret rfl rfl dX11_way_47 (H (iR_lit rfl) hs4)
      · intro cc; have H := H.2 cc
        refine sb_iconst (pc' := 37) rfl dX11_way_36 ?_
        exact sb_iret rfl rfl dX11_way_37 (H (iR_lit rfl) (SR_setS hs2 (iR_lit rfl)))
  · intro cc; have H := H.2 cc
    refine sb_iconst (pc' := 11) rfl dX11_way_10 ?_
    refine sb_goto (tgt := 26) (by decide) dX11_way_11 ?_
    refine sb_putI (pc' := 29) rfl fi_102_0 (Or.inl rfl) wd_1550 dX11_way_26 ?_
    refine sb_aload_n (pc' := 30) rfl rfl dX11_way_29 ?_
    refine sb_getI (pc' := 33) rfl fi_102_0 wd_1550 dX11_way_30 ?_
    refine sb_if_le (pc' := 36) (tgt := 38) rfl (by decide) (SR_sc (SR_setS hs1 (iR_lit rfl)) _ _) dX11_way_33 ?_ ?_
    · intro cc; have H := H.1 cc
      refine sb_aload_n (pc' := 39) rfl rfl dX11_way_38 ?_
      refine sb_iload_n (pc' := 40) rfl rfl dX11_way_39 ?_
      obtain ⟨d5, hd5, H⟩ := H
      refine sb_callV (pc' := 43) rfl rfl (rc := rc) (rs := rs) (mc' := 0) (ms' := 0) (As := [(vi x1)]) (st := []) of_102 rfl rfl (Nat.le_of_ble_eq_true rfl) hd5 kX11_isWay ⟨wd_1977, wd_1979, wd_140⟩ dX11_way_40 (Eb.mono H ?_)
      rintro o s5 ⟨r5, rfl, hr5, hs5, H⟩
      show Wb g ad d mX11_way Q 43 [some (.ref (ad 102)), some (vi x1), some (vi x2)] [(vi r5)] s5 rc rs
      refine sb_if_ne (pc' := 46) (tgt := 48) rfl (by decide) hr5 dX11_way_43 ?_ ?_
      · intro cc; have H := H.1 cc
        refine sb_iload_n (pc' := 49) rfl rfl dX11_way_48 ?_
        refine sb_if_ne (pc' := 52) (tgt := 59) rfl (by decide) hx2 dX11_way_49 ?_ ?_
        · intro cc; have H := H.1 cc
          refine sb_iload_n (pc' := 60) rfl rfl dX11_way_59 ?_
          refine sb_iconst (pc' := 61) rfl dX11_way_60 ?_
          refine sb_icmp_ne (pc' := 64) (tgt := 71) rfl (by decide) hx2 (iR_lit rfl) dX11_way_61 ?_ ?_
          · intro cc; have H := H.1 cc
            refine sb_aload_n (pc' := 72) rfl rfl dX11_way_71 ?_
            refine sb_getI (pc' := 75) rfl fi_102_32 wd_1582 dX11_way_72 ?_
            exact sb_iret rfl rfl dX11_way_75 (H (SR_sc hs5 _ _) hs5)
          · intro cc; have H := H.2 cc
            refine sb_aload_n (pc' := 65) rfl rfl dX11_way_64 ?_
            refine sb_getI (pc' := 68) rfl fi_102_26 wd_1576 dX11_way_65 ?_
            refine sb_goto (tgt := 75) (by decide) dX11_way_68 ?_
            exact sb_iret rfl rfl dX11_way_75 (H (SR_sc hs5 _ _) hs5)
        · intro cc; have H := H.2 cc
          refine sb_aload_n (pc' := 53) rfl rfl dX11_way_52 ?_
          refine sb_getI (pc' := 56) rfl fi_102_27 wd_1577 dX11_way_53 ?_
          refine sb_goto (tgt := 75) (by decide) dX11_way_56 ?_
          exact sb_iret rfl rfl dX11_way_75 (H (SR_sc hs5 _ _) hs5)
      · intro cc; have H := H.2 cc
        refine sb_iconst (pc' := 47) rfl dX11_way_46 ?_
        exact sb_iret rfl rfl dX11_way_47 (H (iR_lit rfl) hs5)
    · intro cc; have H := H.2 cc
      refine sb_iconst (pc' := 37) rfl dX11_way_36 ?_
      exact sb_iret rfl rfl dX11_way_37 (H (iR_lit rfl) (SR_setS hs1 (iR_lit rfl)))
theorem bX11_costOf_0 {g : AG} {ad : Nat → Nat} {d : Nat} {Q : AO → SG → Prop} {rc rs : Nat} {σ : SG} {x1 : Int}  (hx1 : iR x1) (hS : SR σ) (H : (iR x1 → iR 0 → iR ((-1)) → iR 0 → SR σ → Wb g ad d mX11_costOf Q 7 [some (.ref (ad 102)), some (vi x1), some (vi 0), some (vi ((-1))), some (vi 0)] [] σ rc rs)) : Wb g ad d mX11_costOf Q 0 [some (.ref (ad 102)), some (vi x1), none, none, none] [] σ rc rs := by
  refine sb_iconst (pc' := 1) rfl dX11_costOf_0 ?_
  refine sb_istore_n (pc' := 2) rfl (L' := [some (.ref (ad 102)), some (vi x1), some (vi 0), none, none]) rfl (by decide) dX11_costOf_1 ?_
  refine sb_iconst (pc' := 3) rfl dX11_costOf_2 ?_
  refine sb_istore_n (pc' := 4) rfl (L' := [some (.ref (ad 102)), some (vi x1), some (vi 0), some (vi ((-1))), none]) rfl (by decide) dX11_costOf_3 ?_
  refine sb_iconst (pc' := 5) rfl dX11_costOf_4 ?_
  refine sb_istore (pc' := 7) rfl (L' := [some (.ref (ad 102)), some (vi x1), some (vi 0), some (vi ((-1))), some (vi 0)]) rfl (by decide) dX11_costOf_5 ?_
  exact (H hx1 (iR_lit rfl) (iR_lit rfl) (iR_lit rfl) hS)
theorem bX11_costOf_7 {g : AG} {ad : Nat → Nat} {d : Nat} {Q : AO → SG → Prop} {rc rs : Nat} {σ : SG} {x1 x2 x3 x4 : Int}  (hx1 : iR x1) (hx2 : iR x2) (hx3 : iR x3) (hx4 : iR x4) (hS : SR σ) (H : ((x1 < x4 → (iR (sc σ 102 22) → SR σ → Q (.inl (some (vi (sc σ 102 22)))) σ)) ∧ (¬ x1 < x4 → (0 ≤ x4 ∧ x4 < 6) ∧ Cl g ad d mX11_weighs 0 0 [(.ref (ad 102)), (vi x2), (vi x3), (vi (ia σ 114 x4)), (vi (ia σ 115 x4))] σ (Kv fun s2 => Cl g ad d mX11_covers 0 0 [(.ref (ad 102)), (vi (ia s2 115 x4))] s2 (Ki fun r3 s3 => iR ((ia s2 114 x4) + r3) ∧ iR (x4 + 1) ∧ (iR x1 → iR ((ia s2 114 x4) + r3) → iR (sc s3 102 23) → iR (x4 + 1) → SR s3 → Wb g ad d mX11_costOf Q 7 [some (.ref (ad 102)), some (vi x1), some (vi ((ia s2 114 x4) + r3)), some (vi (sc s3 102 23)), some (vi (x4 + 1))] [] s3 rc rs)))))) : Wb g ad d mX11_costOf Q 7 [some (.ref (ad 102)), some (vi x1), some (vi x2), some (vi x3), some (vi x4)] [] σ rc rs := by
  refine sb_iload (pc' := 9) rfl rfl dX11_costOf_7 ?_
  refine sb_iload_n (pc' := 10) rfl rfl dX11_costOf_9 ?_
  refine sb_icmp_gt (pc' := 13) (tgt := 64) rfl (by decide) hx4 hx1 dX11_costOf_10 ?_ ?_
  · intro cc; have H := H.1 cc
    refine sb_aload_n (pc' := 65) rfl rfl dX11_costOf_64 ?_
    refine sb_getI (pc' := 68) rfl fi_102_22 wd_1572 dX11_costOf_65 ?_
    exact sb_iret rfl rfl dX11_costOf_68 (H (SR_sc hS _ _) hS)
  · intro cc; have H := H.2 cc
    refine sb_aload_n (pc' := 14) rfl rfl dX11_costOf_13 ?_
    refine sb_iload_n (pc' := 15) rfl rfl dX11_costOf_14 ?_
    refine sb_iload_n (pc' := 16) rfl rfl dX11_costOf_15 ?_
    refine sb_aload_n (pc' := 17) rfl rfl dX11_costOf_16 ?_
    refine sb_getC (pc' := 20) rfl fc_102_24 wd_1574 dX11_costOf_17 ?_
    refine sb_iload (pc' := 22) rfl rfl dX11_costOf_20 ?_
    obtain ⟨o1, H⟩ := H
    refine sb_iald (pc' := 23) rfl aI_114 o1.1 o1.2 dX11_costOf_22 ?_
    refine sb_aload_n (pc' := 24) rfl rfl dX11_costOf_23 ?_
    refine sb_getC (pc' := 27) rfl fc_102_25 wd_1575 dX11_costOf_24 ?_
    refine sb_iload (pc' := 29) rfl rfl dX11_costOf_27 ?_
    refine sb_iald (pc' := 30) rfl aI_115 o1.1 o1.2 dX11_costOf_29 ?_
    obtain ⟨d2, hd2, H⟩ := H
    refine sb_callV (pc' := 33) rfl rfl (rc := rc) (rs := rs) (mc' := 0) (ms' := 0) (As := [(vi x2), (vi x3), (vi (ia σ 114 x4)), (vi (ia σ 115 x4))]) (st := []) of_102 rfl rfl (Nat.le_of_ble_eq_true rfl) hd2 kX11_weighs ⟨wd_1909, wd_1911, wd_136⟩ dX11_costOf_30 (Eb.mono H ?_)
    rintro o s2 ⟨rfl, hs2, H⟩
    show Wb g ad d mX11_costOf Q 33 [some (.ref (ad 102)), some (vi x1), some (vi x2), some (vi x3), some (vi x4)] [] s2 rc rs
    refine sb_aload_n (pc' := 34) rfl rfl dX11_costOf_33 ?_
    refine sb_getC (pc' := 37) rfl fc_102_24 wd_1574 dX11_costOf_34 ?_
    refine sb_iload (pc' := 39) rfl rfl dX11_costOf_37 ?_
    refine sb_iald (pc' := 40) rfl aI_114 o1.1 o1.2 dX11_costOf_39 ?_
    refine sb_aload_n (pc' := 41) rfl rfl dX11_costOf_40 ?_
    refine sb_aload_n (pc' := 42) rfl rfl dX11_costOf_41 ?_
    refine sb_getC (pc' := 45) rfl fc_102_25 wd_1575 dX11_costOf_42 ?_
    refine sb_iload (pc' := 47) rfl rfl dX11_costOf_45 ?_
    refine sb_iald (pc' := 48) rfl aI_115 o1.1 o1.2 dX11_costOf_47 ?_
    obtain ⟨d3, hd3, H⟩ := H
    refine sb_callV (pc' := 51) rfl rfl (rc := rc) (rs := rs) (mc' := 0) (ms' := 0) (As := [(vi (ia s2 115 x4))]) (st := [(vi (ia s2 114 x4))]) of_102 rfl rfl (Nat.le_of_ble_eq_true rfl) hd3 kX11_covers ⟨wd_1862, wd_1864, wd_126⟩ dX11_costOf_48 (Eb.mono H ?_)
    rintro o s3 ⟨r3, rfl, hr3, hs3, H⟩
    show Wb g ad d mX11_costOf Q 51 [some (.ref (ad 102)), some (vi x1), some (vi x2), some (vi x3), some (vi x4)] [(vi r3), (vi (ia s2 114 x4))] s3 rc rs
    refine sb_iadd (pc' := 52) rfl dX11_costOf_51 ?_
    refine sb_istore_n (pc' := 53) rfl (L' := [some (.ref (ad 102)), some (vi x1), some (vi ((ia s2 114 x4) + r3)), some (vi x3), some (vi x4)]) rfl (by decide) dX11_costOf_52 ?_
    refine sb_aload_n (pc' := 54) rfl rfl dX11_costOf_53 ?_
    refine sb_getI (pc' := 57) rfl fi_102_23 wd_1573 dX11_costOf_54 ?_
    refine sb_istore_n (pc' := 58) rfl (L' := [some (.ref (ad 102)), some (vi x1), some (vi ((ia s2 114 x4) + r3)), some (vi (sc s3 102 23)), some (vi x4)]) rfl (by decide) dX11_costOf_57 ?_
    refine sb_iinc (pc' := 61) rfl rfl (L' := [some (.ref (ad 102)), some (vi x1), some (vi ((ia s2 114 x4) + r3)), some (vi (sc s3 102 23)), some (vi (x4 + 1))]) rfl (by decide) dX11_costOf_58 ?_
    refine sb_goto (tgt := 7) (by decide) dX11_costOf_61 ?_
    obtain ⟨o4, H⟩ := H
    obtain ⟨o5, H⟩ := H
    exact (H hx1 o4 (SR_sc hs3 _ _) o5 hs3)
theorem bX11_step_0 {g : AG} {ad : Nat → Nat} {d : Nat} {Q : AO → SG → Prop} {rc rs : Nat} {σ : SG} {x1 x2 x3 : Int}  (hx1 : iR x1) (hx2 : iR x2) (hx3 : iR x3) (hS : SR σ) (H : Cl g ad d mX11_isIn 0 0 [(vi x3), (vi 0), (vi 2)] σ (Ki fun r1 s1 => ((¬ r1 = 0 → Cl g ad d mX11_isWayNumber 0 0 [(vi x1)] s1 (Ki fun r2 s2 => ((¬ r2 = 0 → (iR x1 → iR x2 → iR x3 → SR (setS s2 102 0 0) → Wb g ad d mX11_step Q 29 [some (.ref (ad 102)), some (vi x1), some (vi x2), some (vi x3)] [] (setS s2 102 0 0) rc rs)) ∧ (r2 = 0 → (iR x1 → iR x2 → iR x3 → SR (setS s2 102 0 2) → Wb g ad d mX11_step Q 29 [some (.ref (ad 102)), some (vi x1), some (vi x2), some (vi x3)] [] (setS s2 102 0 2) rc rs))))) ∧ (r1 = 0 → (iR x1 → iR x2 → iR x3 → SR (setS s1 102 0 1) → Wb g ad d mX11_step Q 29 [some (.ref (ad 102)), some (vi x1), some (vi x2), some (vi x3)] [] (setS s1 102 0 1) rc rs))))) : Wb g ad d mX11_step Q 0 [some (.ref (ad 102)), some (vi x1), some (vi x2), some (vi x3)] [] σ rc rs := by
  refine sb_aload_n (pc' := 1) rfl rfl dX11_step_0 ?_
  refine sb_iload_n (pc' := 2) rfl rfl dX11_step_1 ?_
  refine sb_iconst (pc' := 3) rfl dX11_step_2 ?_
  refine sb_iconst (pc' := 4) rfl dX11_step_3 ?_
  obtain ⟨d1, hd1, H⟩ := H
  refine sb_callS (pc' := 7) rfl rfl (rc := rc) (rs := rs) (mc' := 0) (ms' := 0) (As := [(vi x3), (vi 0), (vi 2)]) (st := [(.ref (ad 102))])  rfl rfl (Nat.le_of_ble_eq_true rfl) hd1 kX11_isIn ⟨wd_1719, wd_1720⟩ dX11_step_4 (Eb.mono H ?_)
  rintro o s1 ⟨r1, rfl, hr1, hs1, H⟩
  show Wb g ad d mX11_step Q 7 [some (.ref (ad 102)), some (vi x1), some (vi x2), some (vi x3)] [(vi r1), (.ref (ad 102))] s1 rc rs
  refine sb_if_ne (pc' := 10) (tgt := 14) rfl (by decide) hr1 dX11_step_7 ?_ ?_
  · intro cc; have H := H.1 cc
    refine sb_iload_n (pc' := 15) rfl rfl dX11_step_14 ?_
    obtain ⟨d2, hd2, H⟩ := H
    refine sb_callS (pc' := 18) rfl rfl (rc := rc) (rs := rs) (mc' := 0) (ms' := 0) (As := [(vi x1)]) (st := [(.ref (ad 102))])  rfl rfl (Nat.le_of_ble_eq_true rfl) hd2 kX11_isWayNumber ⟨wd_1974, wd_1975⟩ dX11_step_15 (Eb.mono H ?_)
    rintro o s2 ⟨r2, rfl, hr2, hs2, H⟩
    show Wb g ad d mX11_step Q 18 [some (.ref (ad 102)), some (vi x1), some (vi x2), some (vi x3)] [(vi r2), (.ref (ad 102))] s2 rc rs
    refine sb_if_ne (pc' := 21) (tgt := 25) rfl (by decide) hr2 dX11_step_18 ?_ ?_
    · intro cc; have H := H.1 cc
      refine sb_iconst (pc' := 26) rfl dX11_step_25 ?_
      refine sb_putI (pc' := 29) rfl fi_102_0 (Or.inl rfl) wd_1550 dX11_step_26 ?_
      exact (H hx1 hx2 hx3 (SR_setS hs2 (iR_lit rfl)))
    · intro cc; have H := H.2 cc
      refine sb_iconst (pc' := 22) rfl dX11_step_21 ?_
      refine sb_goto (tgt := 26) (by decide) dX11_step_22 ?_
      refine sb_putI (pc' := 29) rfl fi_102_0 (Or.inl rfl) wd_1550 dX11_step_26 ?_
      exact (H hx1 hx2 hx3 (SR_setS hs2 (iR_lit rfl)))
  · intro cc; have H := H.2 cc
    refine sb_iconst (pc' := 11) rfl dX11_step_10 ?_
    refine sb_goto (tgt := 26) (by decide) dX11_step_11 ?_
    refine sb_putI (pc' := 29) rfl fi_102_0 (Or.inl rfl) wd_1550 dX11_step_26 ?_
    exact (H hx1 hx2 hx3 (SR_setS hs1 (iR_lit rfl)))
theorem bX11_step_29 {g : AG} {ad : Nat → Nat} {d : Nat} {Q : AO → SG → Prop} {rc rs : Nat} {σ : SG} {x1 x2 x3 : Int}  (hx1 : iR x1) (hx2 : iR x2) (hx3 : iR x3) (hS : SR σ) (H : (((sc σ 102 0) ≤ 0 → Cl g ad d mX11_isWay 0 0 [(.ref (ad 102)), (vi x1)] σ (Ki fun r1 s1 => ((r1 = 0 → (iR ((-1)) → SR s1 → Q (.inl (some (vi ((-1))))) s1)) ∧ (¬ r1 = 0 → Cl g ad d mX11_isIn 0 0 [(vi x2), (vi 0), (vi ((sc s1 102 26) - 1))] s1 (Ki fun r2 s2 => ((¬ r2 = 0 → ((¬ x3 = 0 → ((¬ x3 = 1 → Cl g ad d mX11_costOf 0 0 [(.ref (ad 102)), (vi x2)] s2 (Ki fun r3 s3 => (iR r3 → SR s3 → Q (.inl (some (vi r3))) s3))) ∧ (x3 = 1 → (0 ≤ x2 ∧ x2 < 6) ∧ (iR (ia s2 115 x2) → SR s2 → Q (.inl (some (vi (ia s2 115 x2)))) s2)))) ∧ (x3 = 0 → (0 ≤ x2 ∧ x2 < 6) ∧ (iR (ia s2 114 x2) → SR s2 → Q (.inl (some (vi (ia s2 114 x2)))) s2)))) ∧ (r2 = 0 → (iR ((-1)) → SR s2 → Q (.inl (some (vi ((-1))))) s2)))))))) ∧ (¬ (sc σ 102 0) ≤ 0 → (iR 0 → SR σ → Q (.inl (some (vi 0))) σ)))) : Wb g ad d mX11_step Q 29 [some (.ref (ad 102)), some (vi x1), some (vi x2), some (vi x3)] [] σ rc rs := by
  refine sb_aload_n (pc' := 30) rfl rfl dX11_step_29 ?_
  refine sb_getI (pc' := 33) rfl fi_102_0 wd_1550 dX11_step_30 ?_
  refine sb_if_le (pc' := 36) (tgt := 38) rfl (by decide) (SR_sc hS _ _) dX11_step_33 ?_ ?_
  · intro cc; have H := H.1 cc
    refine sb_aload_n (pc' := 39) rfl rfl dX11_step_38 ?_
    refine sb_iload_n (pc' := 40) rfl rfl dX11_step_39 ?_
    obtain ⟨d1, hd1, H⟩ := H
    refine sb_callV (pc' := 43) rfl rfl (rc := rc) (rs := rs) (mc' := 0) (ms' := 0) (As := [(vi x1)]) (st := []) of_102 rfl rfl (Nat.le_of_ble_eq_true rfl) hd1 kX11_isWay ⟨wd_1977, wd_1979, wd_140⟩ dX11_step_40 (Eb.mono H ?_)
    rintro o s1 ⟨r1, rfl, hr1, hs1, H⟩
    show Wb g ad d mX11_step Q 43 [some (.ref (ad 102)), some (vi x1), some (vi x2), some (vi x3)] [(vi r1)] s1 rc rs
    refine sb_if_eq (pc' := 46) (tgt := 60) rfl (by decide) hr1 dX11_step_43 ?_ ?_
    · intro cc; have H := H.1 cc
      refine sb_iconst (pc' := 61) rfl dX11_step_60 ?_
      exact sb_iret rfl rfl dX11_step_61 (H (iR_lit rfl) hs1)
    · intro cc; have H := H.2 cc
      refine sb_iload_n (pc' := 47) rfl rfl dX11_step_46 ?_
      refine sb_iconst (pc' := 48) rfl dX11_step_47 ?_
      refine sb_aload_n (pc' := 49) rfl rfl dX11_step_48 ?_
      refine sb_getI (pc' := 52) rfl fi_102_26 wd_1576 dX11_step_49 ?_
      refine sb_iconst (pc' := 53) rfl dX11_step_52 ?_
      refine sb_isub (pc' := 54) rfl dX11_step_53 ?_
      obtain ⟨d2, hd2, H⟩ := H
      refine sb_callS (pc' := 57) rfl rfl (rc := rc) (rs := rs) (mc' := 0) (ms' := 0) (As := [(vi x2), (vi 0), (vi ((sc s1 102 26) - 1))]) (st := [])  rfl rfl (Nat.le_of_ble_eq_true rfl) hd2 kX11_isIn ⟨wd_1719, wd_1720⟩ dX11_step_54 (Eb.mono H ?_)
      rintro o s2 ⟨r2, rfl, hr2, hs2, H⟩
      show Wb g ad d mX11_step Q 57 [some (.ref (ad 102)), some (vi x1), some (vi x2), some (vi x3)] [(vi r2)] s2 rc rs
      refine sb_if_ne (pc' := 60) (tgt := 62) rfl (by decide) hr2 dX11_step_57 ?_ ?_
      · intro cc; have H := H.1 cc
        refine sb_iload_n (pc' := 63) rfl rfl dX11_step_62 ?_
        refine sb_if_ne (pc' := 66) (tgt := 75) rfl (by decide) hx3 dX11_step_63 ?_ ?_
        · intro cc; have H := H.1 cc
          refine sb_iload_n (pc' := 76) rfl rfl dX11_step_75 ?_
          refine sb_iconst (pc' := 77) rfl dX11_step_76 ?_
          refine sb_icmp_ne (pc' := 80) (tgt := 89) rfl (by decide) hx3 (iR_lit rfl) dX11_step_77 ?_ ?_
          · intro cc; have H := H.1 cc
            refine sb_aload_n (pc' := 90) rfl rfl dX11_step_89 ?_
            refine sb_iload_n (pc' := 91) rfl rfl dX11_step_90 ?_
            obtain ⟨d3, hd3, H⟩ := H
            refine sb_callV (pc' := 94) rfl rfl (rc := rc) (rs := rs) (mc' := 0) (ms' := 0) (As := [(vi x2)]) (st := []) of_102 rfl rfl (Nat.le_of_ble_eq_true rfl) hd3 kX11_costOf ⟨wd_1993, wd_1995, wd_143⟩ dX11_step_91 (Eb.mono H ?_)
            rintro o s3 ⟨r3, rfl, hr3, hs3, H⟩
            show Wb g ad d mX11_step Q 94 [some (.ref (ad 102)), some (vi x1), some (vi x2), some (vi x3)] [(vi r3)] s3 rc rs
            exact sb_iret rfl rfl dX11_step_94 (H hr3 hs3)
          · intro cc; have H := H.2 cc
            refine sb_aload_n (pc' := 81) rfl rfl dX11_step_80 ?_
            refine sb_getC (pc' := 84) rfl fc_102_25 wd_1575 dX11_step_81 ?_
            refine sb_iload_n (pc' := 85) rfl rfl dX11_step_84 ?_
            obtain ⟨o4, H⟩ := H
            refine sb_iald (pc' := 86) rfl aI_115 o4.1 o4.2 dX11_step_85 ?_
            refine sb_goto (tgt := 94) (by decide) dX11_step_86 ?_
            exact sb_iret rfl rfl dX11_step_94 (H (SR_ia hs2 _ _) hs2)
        · intro cc; have H := H.2 cc
          refine sb_aload_n (pc' := 67) rfl rfl dX11_step_66 ?_
          refine sb_getC (pc' := 70) rfl fc_102_24 wd_1574 dX11_step_67 ?_
          refine sb_iload_n (pc' := 71) rfl rfl dX11_step_70 ?_
          obtain ⟨o5, H⟩ := H
          refine sb_iald (pc' := 72) rfl aI_114 o5.1 o5.2 dX11_step_71 ?_
          refine sb_goto (tgt := 94) (by decide) dX11_step_72 ?_
          exact sb_iret rfl rfl dX11_step_94 (H (SR_ia hs2 _ _) hs2)
      · intro cc; have H := H.2 cc
        refine sb_iconst (pc' := 61) rfl dX11_step_60 ?_
        exact sb_iret rfl rfl dX11_step_61 (H (iR_lit rfl) hs2)
  · intro cc; have H := H.2 cc
    refine sb_iconst (pc' := 37) rfl dX11_step_36 ?_
    exact sb_iret rfl rfl dX11_step_37 (H (iR_lit rfl) hS)
theorem bX11_word__0 {g : AG} {ad : Nat → Nat} {d : Nat} {Q : AO → SG → Prop} {rc rs : Nat} {σ : SG} {x1 x2 : Int}  (hx1 : iR x1) (hx2 : iR x2) (hS : SR σ) (H : Cl g ad d mX11_isWayNumber 0 0 [(vi x1)] σ (Ki fun r1 s1 => ((r1 = 0 → (((sc (setS s1 102 0 1) 102 0) ≤ 0 → Cl g ad d mX11_isWay 0 0 [(.ref (ad 102)), (vi x1)] (setS s1 102 0 1) (Ki fun r2 s2 => ((r2 = 0 → (iR ((-1)) → SR s2 → Q (.inl (some (vi ((-1))))) s2)) ∧ (¬ r2 = 0 → Cl g ad d mX11_isIn 0 0 [(vi x2), (vi 0), (vi ((sc s2 102 32) - 1))] s2 (Ki fun r3 s3 => ((r3 = 0 → (iR ((-1)) → SR s3 → Q (.inl (some (vi ((-1))))) s3)) ∧ (¬ r3 = 0 → (0 ≤ x2 ∧ x2 < 18) ∧ (iR (ia s3 116 x2) → SR s3 → Q (.inl (some (vi (ia s3 116 x2)))) s3)))))))) ∧ (¬ (sc (setS s1 102 0 1) 102 0) ≤ 0 → (iR 0 → SR (setS s1 102 0 1) → Q (.inl (some (vi 0))) (setS s1 102 0 1))))) ∧ (¬ r1 = 0 → (((sc (setS s1 102 0 0) 102 0) ≤ 0 → Cl g ad d mX11_isWay 0 0 [(.ref (ad 102)), (vi x1)] (setS s1 102 0 0) (Ki fun r5 s5 => ((r5 = 0 → (iR ((-1)) → SR s5 → Q (.inl (some (vi ((-1))))) s5)) ∧ (¬ r5 = 0 → Cl g ad d mX11_isIn 0 0 [(vi x2), (vi 0), (vi ((sc s5 102 32) - 1))] s5 (Ki fun r6 s6 => ((r6 = 0 → (iR ((-1)) → SR s6 → Q (.inl (some (vi ((-1))))) s6)) ∧ (¬ r6 = 0 → (0 ≤ x2 ∧ x2 < 18) ∧ (iR (ia s6 116 x2) → SR s6 → Q (.inl (some (vi (ia s6 116 x2)))) s6)))))))) ∧ (¬ (sc (setS s1 102 0 0) 102 0) ≤ 0 → (iR 0 → SR (setS s1 102 0 0) → Q (.inl (some (vi 0))) (setS s1 102 0 0)))))))) : Wb g ad d mX11_word_ Q 0 [some (.ref (ad 102)), some (vi x1), some (vi x2)] [] σ rc rs := by
  refine sb_aload_n (pc' := 1) rfl rfl dX11_word__0 ?_
  refine sb_iload_n (pc' := 2) rfl rfl dX11_word__1 ?_
  obtain ⟨d1, hd1, H⟩ := H
  refine sb_callS (pc' := 5) rfl rfl (rc := rc) (rs := rs) (mc' := 0) (ms' := 0) (As := [(vi x1)]) (st := [(.ref (ad 102))])  rfl rfl (Nat.le_of_ble_eq_true rfl) hd1 kX11_isWayNumber ⟨wd_1974, wd_1975⟩ dX11_word__2 (Eb.mono H ?_)
  rintro o s1 ⟨r1, rfl, hr1, hs1, H⟩
  show Wb g ad d mX11_word_ Q 5 [some (.ref (ad 102)), some (vi x1), some (vi x2)] [(vi r1), (.ref (ad 102))] s1 rc rs
  refine sb_if_eq (pc' := 8) (tgt := 12) rfl (by decide) hr1 dX11_word__5 ?_ ?_
  · intro cc; have H := H.1 cc
    refine sb_iconst (pc' := 13) rfl dX11_word__12 ?_
    refine sb_putI (pc' := 16) rfl fi_102_0 (Or.inl rfl) wd_1550 dX11_word__13 ?_
    refine sb_aload_n (pc' := 17) rfl rfl dX11_word__16 ?_
    refine sb_getI (pc' := 20) rfl fi_102_0 wd_1550 dX11_word__17 ?_
    refine sb_if_le (pc' := 23) (tgt := 25) rfl (by decide) (SR_sc (SR_setS hs1 (iR_lit rfl)) _ _) dX11_word__20 ?_ ?_
    · intro cc; have H := H.1 cc
      refine sb_aload_n (pc' := 26) rfl rfl dX11_word__25 ?_
      refine sb_iload_n (pc' := 27) rfl rfl dX11_word__26 ?_
      obtain ⟨d2, hd2, H⟩ := H
      refine sb_callV (pc' := 30) rfl rfl (rc := rc) (rs := rs) (mc' := 0) (ms' := 0) (As := [(vi x1)]) (st := []) of_102 rfl rfl (Nat.le_of_ble_eq_true rfl) hd2 kX11_isWay ⟨wd_1977, wd_1979, wd_140⟩ dX11_word__27 (Eb.mono H ?_)
      rintro o s2 ⟨r2, rfl, hr2, hs2, H⟩
      show Wb g ad d mX11_word_ Q 30 [some (.ref (ad 102)), some (vi x1), some (vi x2)] [(vi r2)] s2 rc rs
      refine sb_if_eq (pc' := 33) (tgt := 56) rfl (by decide) hr2 dX11_word__30 ?_ ?_
      · intro cc; have H := H.1 cc
        refine sb_iconst (pc' := 57) rfl dX11_word__56 ?_
        exact sb_iret rfl rfl dX11_word__57 (H (iR_lit rfl) hs2)
      · intro cc; have H := H.2 cc
        refine sb_iload_n (pc' := 34) rfl rfl dX11_word__33 ?_
        refine sb_iconst (pc' := 35) rfl dX11_word__34 ?_
        refine sb_aload_n (pc' := 36) rfl rfl dX11_word__35 ?_
        refine sb_getI (pc' := 39) rfl fi_102_32 wd_1582 dX11_word__36 ?_
        refine sb_iconst (pc' := 40) rfl dX11_word__39 ?_
        refine sb_isub (pc' := 41) rfl dX11_word__40 ?_
        obtain ⟨d3, hd3, H⟩ := H
        refine sb_callS (pc' := 44) rfl rfl (rc := rc) (rs := rs) (mc' := 0) (ms' := 0) (As := [(vi x2), (vi 0), (vi ((sc s2 102 32) - 1))]) (st := [])  rfl rfl (Nat.le_of_ble_eq_true rfl) hd3 kX11_isIn ⟨wd_1719, wd_1720⟩ dX11_word__41 (Eb.mono H ?_)
        rintro o s3 ⟨r3, rfl, hr3, hs3, H⟩
        show Wb g ad d mX11_word_ Q 44 [some (.ref (ad 102)), some (vi x1), some (vi x2)] [(vi r3)] s3 rc rs
        refine sb_if_eq (pc' := 47) (tgt := 56) rfl (by decide) hr3 dX11_word__44 ?_ ?_
        · intro cc; have H := H.1 cc
          refine sb_iconst (pc' := 57) rfl dX11_word__56 ?_
          exact sb_iret rfl rfl dX11_word__57 (H (iR_lit rfl) hs3)
        · intro cc; have H := H.2 cc
          refine sb_aload_n (pc' := 48) rfl rfl dX11_word__47 ?_
          refine sb_getC (pc' := 51) rfl fc_102_31 wd_1581 dX11_word__48 ?_
          refine sb_iload_n (pc' := 52) rfl rfl dX11_word__51 ?_
          obtain ⟨o4, H⟩ := H
          refine sb_iald (pc' := 53) rfl aI_116 o4.1 o4.2 dX11_word__52 ?_
          refine sb_goto (tgt := 57) (by decide) dX11_word__53 ?_
          exact sb_iret rfl rfl dX11_word__57 (H (SR_ia hs3 _ _) hs3)
    · intro cc; have H := H.2 cc
      refine sb_iconst (pc' := 24) rfl dX11_word__23 ?_
      exact sb_iret rfl rfl dX11_word__24 (H (iR_lit rfl) (SR_setS hs1 (iR_lit rfl)))
  · intro cc; have H := H.2 cc
    refine sb_iconst (pc' := 9) rfl dX11_word__8 ?_
    refine sb_goto (tgt := 13) (by decide) dX11_word__9 ?_
    refine sb_putI (pc' := 16) rfl fi_102_0 (Or.inl rfl) wd_1550 dX11_word__13 ?_
    refine sb_aload_n (pc' := 17) rfl rfl dX11_word__16 ?_
    refine sb_getI (pc' := 20) rfl fi_102_0 wd_1550 dX11_word__17 ?_
    refine sb_if_le (pc' := 23) (tgt := 25) rfl (by decide) (SR_sc (SR_setS hs1 (iR_lit rfl)) _ _) dX11_word__20 ?_ ?_
    · intro cc; have H := H.1 cc
      refine sb_aload_n (pc' := 26) rfl rfl dX11_word__25 ?_
      refine sb_iload_n (pc' := 27) rfl rfl dX11_word__26 ?_
      obtain ⟨d5, hd5, H⟩ := H
      refine sb_callV (pc' := 30) rfl rfl (rc := rc) (rs := rs) (mc' := 0) (ms' := 0) (As := [(vi x1)]) (st := []) of_102 rfl rfl (Nat.le_of_ble_eq_true rfl) hd5 kX11_isWay ⟨wd_1977, wd_1979, wd_140⟩ dX11_word__27 (Eb.mono H ?_)
      rintro o s5 ⟨r5, rfl, hr5, hs5, H⟩
      show Wb g ad d mX11_word_ Q 30 [some (.ref (ad 102)), some (vi x1), some (vi x2)] [(vi r5)] s5 rc rs
      refine sb_if_eq (pc' := 33) (tgt := 56) rfl (by decide) hr5 dX11_word__30 ?_ ?_
      · intro cc; have H := H.1 cc
        refine sb_iconst (pc' := 57) rfl dX11_word__56 ?_
        exact sb_iret rfl rfl dX11_word__57 (H (iR_lit rfl) hs5)
      · intro cc; have H := H.2 cc
        refine sb_iload_n (pc' := 34) rfl rfl dX11_word__33 ?_
        refine sb_iconst (pc' := 35) rfl dX11_word__34 ?_
        refine sb_aload_n (pc' := 36) rfl rfl dX11_word__35 ?_
        refine sb_getI (pc' := 39) rfl fi_102_32 wd_1582 dX11_word__36 ?_
        refine sb_iconst (pc' := 40) rfl dX11_word__39 ?_
        refine sb_isub (pc' := 41) rfl dX11_word__40 ?_
        obtain ⟨d6, hd6, H⟩ := H
        refine sb_callS (pc' := 44) rfl rfl (rc := rc) (rs := rs) (mc' := 0) (ms' := 0) (As := [(vi x2), (vi 0), (vi ((sc s5 102 32) - 1))]) (st := [])  rfl rfl (Nat.le_of_ble_eq_true rfl) hd6 kX11_isIn ⟨wd_1719, wd_1720⟩ dX11_word__41 (Eb.mono H ?_)
        rintro o s6 ⟨r6, rfl, hr6, hs6, H⟩
        show Wb g ad d mX11_word_ Q 44 [some (.ref (ad 102)), some (vi x1), some (vi x2)] [(vi r6)] s6 rc rs
        refine sb_if_eq (pc' := 47) (tgt := 56) rfl (by decide) hr6 dX11_word__44 ?_ ?_
        · intro cc; have H := H.1 cc
          refine sb_iconst (pc' := 57) rfl dX11_word__56 ?_
          exact sb_iret rfl rfl dX11_word__57 (H (iR_lit rfl) hs6)
        · intro cc; have H := H.2 cc
          refine sb_aload_n (pc' := 48) rfl rfl dX11_word__47 ?_
          refine sb_getC (pc' := 51) rfl fc_102_31 wd_1581 dX11_word__48 ?_
          refine sb_iload_n (pc' := 52) rfl rfl dX11_word__51 ?_
          obtain ⟨o7, H⟩ := H
          refine sb_iald (pc' := 53) rfl aI_116 o7.1 o7.2 dX11_word__52 ?_
          refine sb_goto (tgt := 57) (by decide) dX11_word__53 ?_
          exact sb_iret rfl rfl dX11_word__57 (H (SR_ia hs6 _ _) hs6)
    · intro cc; have H := H.2 cc
      refine sb_iconst (pc' := 24) rfl dX11_word__23 ?_
      exact sb_iret rfl rfl dX11_word__24 (H (iR_lit rfl) (SR_setS hs1 (iR_lit rfl)))
theorem bX11_optionFor_0 {g : AG} {ad : Nat → Nat} {d : Nat} {Q : AO → SG → Prop} {rc rs : Nat} {σ : SG} {x1 x2 : Int}  (hx1 : iR x1) (hx2 : iR x2) (hS : SR σ) (H : Cl g ad d mX11_next 0 0 [(.ref (ad 102)), (vi ((-1)))] σ (Ki fun r1 s1 => (iR x1 → iR x2 → iR 1000000000 → iR r1 → SR s1 → Wb g ad d mX11_optionFor Q 11 [some (.ref (ad 102)), some (vi x1), some (vi x2), some (vi 1000000000), some (vi r1), none, none] [] s1 rc rs))) : Wb g ad d mX11_optionFor Q 0 [some (.ref (ad 102)), some (vi x1), some (vi x2), none, none, none, none] [] σ rc rs := by
  refine sb_ldcw (pc' := 3) rfl (z := 1000000000) rfl wd_1893 dX11_optionFor_0 ?_
  refine sb_istore_n (pc' := 4) rfl (L' := [some (.ref (ad 102)), some (vi x1), some (vi x2), some (vi 1000000000), none, none, none]) rfl (by decide) dX11_optionFor_3 ?_
  refine sb_aload_n (pc' := 5) rfl rfl dX11_optionFor_4 ?_
  refine sb_iconst (pc' := 6) rfl dX11_optionFor_5 ?_
  obtain ⟨d1, hd1, H⟩ := H
  refine sb_callV (pc' := 9) rfl rfl (rc := rc) (rs := rs) (mc' := 0) (ms' := 0) (As := [(vi ((-1)))]) (st := []) of_102 rfl rfl (Nat.le_of_ble_eq_true rfl) hd1 kX11_next ⟨wd_1894, wd_1896, wd_133⟩ dX11_optionFor_6 (Eb.mono H ?_)
  rintro o s1 ⟨r1, rfl, hr1, hs1, H⟩
  show Wb g ad d mX11_optionFor Q 9 [some (.ref (ad 102)), some (vi x1), some (vi x2), some (vi 1000000000), none, none, none] [(vi r1)] s1 rc rs
  refine sb_istore (pc' := 11) rfl (L' := [some (.ref (ad 102)), some (vi x1), some (vi x2), some (vi 1000000000), some (vi r1), none, none]) rfl (by decide) dX11_optionFor_9 ?_
  exact (H hx1 hx2 (iR_lit rfl) hr1 hs1)
theorem bX11_optionFor_11 {g : AG} {ad : Nat → Nat} {d : Nat} {Q : AO → SG → Prop} {rc rs : Nat} {σ : SG} {x1 x2 x3 x4 : Int}  (hx1 : iR x1) (hx2 : iR x2) (hx3 : iR x3) (hx4 : iR x4) (hS : SR σ) (H : ((99 < x4 → (iR x3 → SR σ → Q (.inl (some (vi x3))) σ)) ∧ (¬ 99 < x4 → Cl g ad d mX11_isOption 0 0 [(.ref (ad 102)), (vi x4), (vi x1)] σ (Ki fun r1 s1 => ((r1 = 0 → Cl g ad d mX11_next 0 0 [(.ref (ad 102)), (vi x4)] s1 (Ki fun r2 s2 => (iR x1 → iR x2 → iR x3 → iR r2 → SR s2 → Wb g ad d mX11_optionFor Q 11 [some (.ref (ad 102)), some (vi x1), some (vi x2), some (vi x3), some (vi r2), none, none] [] s2 rc rs))) ∧ (¬ r1 = 0 → Cl g ad d mX11_covers 0 0 [(.ref (ad 102)), (vi x4)] s1 (Ki fun r3 s3 => iR ((x2 - x1) + 1) ∧ ((r3 = ((x2 - x1) + 1) → ((¬ x4 = 99 → Cl g ad d mX11_of 0 0 [(.ref (ad 102)), (vi x4), (vi 8)] s3 (Ki fun r5 s5 => (iR x1 → iR x2 → iR x3 → iR x4 → iR r5 → iR 1 → SR s5 → Wb g ad d mX11_optionFor Q 74 [some (.ref (ad 102)), some (vi x1), some (vi x2), some (vi x3), some (vi x4), some (vi r5), some (vi 1)] [] s5 rc rs))) ∧ (x4 = 99 → (iR x1 → iR x2 → iR x3 → iR x4 → iR (ia s3 103 5) → iR 1 → SR s3 → Wb g ad d mX11_optionFor Q 74 [some (.ref (ad 102)), some (vi x1), some (vi x2), some (vi x3), some (vi x4), some (vi (ia s3 103 5)), some (vi 1)] [] s3 rc rs)))) ∧ (¬ r3 = ((x2 - x1) + 1) → Cl g ad d mX11_next 0 0 [(.ref (ad 102)), (vi x4)] s3 (Ki fun r6 s6 => (iR x1 → iR x2 → iR x3 → iR r6 → SR s6 → Wb g ad d mX11_optionFor Q 11 [some (.ref (ad 102)), some (vi x1), some (vi x2), some (vi x3), some (vi r6), none, none] [] s6 rc rs))))))))))) : Wb g ad d mX11_optionFor Q 11 [some (.ref (ad 102)), some (vi x1), some (vi x2), some (vi x3), some (vi x4), none, none] [] σ rc rs := by
  refine sb_iload (pc' := 13) rfl rfl dX11_optionFor_11 ?_
  refine sb_bipush (pc' := 15) rfl (z := 99) (by decide) dX11_optionFor_13 ?_
  refine sb_icmp_gt (pc' := 18) (tgt := 138) rfl (by decide) hx4 (iR_lit rfl) dX11_optionFor_15 ?_ ?_
  · intro cc; have H := H.1 cc
    refine sb_iload_n (pc' := 139) rfl rfl dX11_optionFor_138 ?_
    exact sb_iret rfl rfl dX11_optionFor_139 (H hx3 hS)
  · intro cc; have H := H.2 cc
    refine sb_aload_n (pc' := 19) rfl rfl dX11_optionFor_18 ?_
    refine sb_iload (pc' := 21) rfl rfl dX11_optionFor_19 ?_
    refine sb_iload_n (pc' := 22) rfl rfl dX11_optionFor_21 ?_
    obtain ⟨d1, hd1, H⟩ := H
    refine sb_callV (pc' := 25) rfl rfl (rc := rc) (rs := rs) (mc' := 0) (ms' := 0) (As := [(vi x4), (vi x1)]) (st := []) of_102 rfl rfl (Nat.le_of_ble_eq_true rfl) hd1 kX11_isOption ⟨wd_1854, wd_1856, wd_124⟩ dX11_optionFor_22 (Eb.mono H ?_)
    rintro o s1 ⟨r1, rfl, hr1, hs1, H⟩
    show Wb g ad d mX11_optionFor Q 25 [some (.ref (ad 102)), some (vi x1), some (vi x2), some (vi x3), some (vi x4), none, none] [(vi r1)] s1 rc rs
    refine sb_if_eq (pc' := 28) (tgt := 127) rfl (by decide) hr1 dX11_optionFor_25 ?_ ?_
    · intro cc; have H := H.1 cc
      refine sb_aload_n (pc' := 128) rfl rfl dX11_optionFor_127 ?_
      refine sb_iload (pc' := 130) rfl rfl dX11_optionFor_128 ?_
      obtain ⟨d2, hd2, H⟩ := H
      refine sb_callV (pc' := 133) rfl rfl (rc := rc) (rs := rs) (mc' := 0) (ms' := 0) (As := [(vi x4)]) (st := []) of_102 rfl rfl (Nat.le_of_ble_eq_true rfl) hd2 kX11_next ⟨wd_1894, wd_1896, wd_133⟩ dX11_optionFor_130 (Eb.mono H ?_)
      rintro o s2 ⟨r2, rfl, hr2, hs2, H⟩
      show Wb g ad d mX11_optionFor Q 133 [some (.ref (ad 102)), some (vi x1), some (vi x2), some (vi x3), some (vi x4), none, none] [(vi r2)] s2 rc rs
      refine sb_istore (pc' := 135) rfl (L' := [some (.ref (ad 102)), some (vi x1), some (vi x2), some (vi x3), some (vi r2), none, none]) rfl (by decide) dX11_optionFor_133 ?_
      refine sb_goto (tgt := 11) (by decide) dX11_optionFor_135 ?_
      exact (H hx1 hx2 hx3 hr2 hs2)
    · intro cc; have H := H.2 cc
      refine sb_aload_n (pc' := 29) rfl rfl dX11_optionFor_28 ?_
      refine sb_iload (pc' := 31) rfl rfl dX11_optionFor_29 ?_
      obtain ⟨d3, hd3, H⟩ := H
      refine sb_callV (pc' := 34) rfl rfl (rc := rc) (rs := rs) (mc' := 0) (ms' := 0) (As := [(vi x4)]) (st := []) of_102 rfl rfl (Nat.le_of_ble_eq_true rfl) hd3 kX11_covers ⟨wd_1862, wd_1864, wd_126⟩ dX11_optionFor_31 (Eb.mono H ?_)
      rintro o s3 ⟨r3, rfl, hr3, hs3, H⟩
      show Wb g ad d mX11_optionFor Q 34 [some (.ref (ad 102)), some (vi x1), some (vi x2), some (vi x3), some (vi x4), none, none] [(vi r3)] s3 rc rs
      refine sb_iload_n (pc' := 35) rfl rfl dX11_optionFor_34 ?_
      refine sb_iload_n (pc' := 36) rfl rfl dX11_optionFor_35 ?_
      refine sb_isub (pc' := 37) rfl dX11_optionFor_36 ?_
      refine sb_iconst (pc' := 38) rfl dX11_optionFor_37 ?_
      refine sb_iadd (pc' := 39) rfl dX11_optionFor_38 ?_
      obtain ⟨o4, H⟩ := H
      refine sb_icmp_eq (pc' := 42) (tgt := 45) rfl (by decide) hr3 o4 dX11_optionFor_39 ?_ ?_
      · intro cc; have H := H.1 cc
        refine sb_iload (pc' := 47) rfl rfl dX11_optionFor_45 ?_
        refine sb_bipush (pc' := 49) rfl (z := 99) (by decide) dX11_optionFor_47 ?_
        refine sb_icmp_ne (pc' := 52) (tgt := 61) rfl (by decide) hx4 (iR_lit rfl) dX11_optionFor_49 ?_ ?_
        · intro cc; have H := H.1 cc
          refine sb_aload_n (pc' := 62) rfl rfl dX11_optionFor_61 ?_
          refine sb_iload (pc' := 64) rfl rfl dX11_optionFor_62 ?_
          refine sb_bipush (pc' := 66) rfl (z := 8) (by decide) dX11_optionFor_64 ?_
          obtain ⟨d5, hd5, H⟩ := H
          refine sb_callV (pc' := 69) rfl rfl (rc := rc) (rs := rs) (mc' := 0) (ms' := 0) (As := [(vi x4), (vi 8)]) (st := []) of_102 rfl rfl (Nat.le_of_ble_eq_true rfl) hd5 kX11_of ⟨wd_1782, wd_1784, wd_112⟩ dX11_optionFor_66 (Eb.mono H ?_)
          rintro o s5 ⟨r5, rfl, hr5, hs5, H⟩
          show Wb g ad d mX11_optionFor Q 69 [some (.ref (ad 102)), some (vi x1), some (vi x2), some (vi x3), some (vi x4), none, none] [(vi r5)] s5 rc rs
          refine sb_istore (pc' := 71) rfl (L' := [some (.ref (ad 102)), some (vi x1), some (vi x2), some (vi x3), some (vi x4), some (vi r5), none]) rfl (by decide) dX11_optionFor_69 ?_
          refine sb_iconst (pc' := 72) rfl dX11_optionFor_71 ?_
          refine sb_istore (pc' := 74) rfl (L' := [some (.ref (ad 102)), some (vi x1), some (vi x2), some (vi x3), some (vi x4), some (vi r5), some (vi 1)]) rfl (by decide) dX11_optionFor_72 ?_
          exact (H hx1 hx2 hx3 hx4 hr5 (iR_lit rfl) hs5)
        · intro cc; have H := H.2 cc
          refine sb_aload_n (pc' := 53) rfl rfl dX11_optionFor_52 ?_
          refine sb_getC (pc' := 56) rfl fc_102_1 wd_1551 dX11_optionFor_53 ?_
          refine sb_iconst (pc' := 57) rfl dX11_optionFor_56 ?_
          refine sb_iald (pc' := 58) rfl aI_103 (by decide) (by decide) dX11_optionFor_57 ?_
          refine sb_goto (tgt := 69) (by decide) dX11_optionFor_58 ?_
          refine sb_istore (pc' := 71) rfl (L' := [some (.ref (ad 102)), some (vi x1), some (vi x2), some (vi x3), some (vi x4), some (vi (ia s3 103 5)), none]) rfl (by decide) dX11_optionFor_69 ?_
          refine sb_iconst (pc' := 72) rfl dX11_optionFor_71 ?_
          refine sb_istore (pc' := 74) rfl (L' := [some (.ref (ad 102)), some (vi x1), some (vi x2), some (vi x3), some (vi x4), some (vi (ia s3 103 5)), some (vi 1)]) rfl (by decide) dX11_optionFor_72 ?_
          exact (H hx1 hx2 hx3 hx4 (SR_ia hs3 _ _) (iR_lit rfl) hs3)
      · intro cc; have H := H.2 cc
        refine sb_goto (tgt := 127) (by decide) dX11_optionFor_42 ?_
        refine sb_aload_n (pc' := 128) rfl rfl dX11_optionFor_127 ?_
        refine sb_iload (pc' := 130) rfl rfl dX11_optionFor_128 ?_
        obtain ⟨d6, hd6, H⟩ := H
        refine sb_callV (pc' := 133) rfl rfl (rc := rc) (rs := rs) (mc' := 0) (ms' := 0) (As := [(vi x4)]) (st := []) of_102 rfl rfl (Nat.le_of_ble_eq_true rfl) hd6 kX11_next ⟨wd_1894, wd_1896, wd_133⟩ dX11_optionFor_130 (Eb.mono H ?_)
        rintro o s6 ⟨r6, rfl, hr6, hs6, H⟩
        show Wb g ad d mX11_optionFor Q 133 [some (.ref (ad 102)), some (vi x1), some (vi x2), some (vi x3), some (vi x4), none, none] [(vi r6)] s6 rc rs
        refine sb_istore (pc' := 135) rfl (L' := [some (.ref (ad 102)), some (vi x1), some (vi x2), some (vi x3), some (vi r6), none, none]) rfl (by decide) dX11_optionFor_133 ?_
        refine sb_goto (tgt := 11) (by decide) dX11_optionFor_135 ?_
        exact (H hx1 hx2 hx3 hr6 hs6)
theorem bX11_optionFor_74 {g : AG} {ad : Nat → Nat} {d : Nat} {Q : AO → SG → Prop} {rc rs : Nat} {σ : SG} {x1 x2 x3 x4 x5 x6 : Int}  (hx1 : iR x1) (hx2 : iR x2) (hx3 : iR x3) (hx4 : iR x4) (hx5 : iR x5) (hx6 : iR x6) (hS : SR σ) (H : Cl g ad d mX11_targetMany 0 0 [(.ref (ad 102)), (vi x4)] σ (Ki fun r1 s1 => ((r1 ≤ x6 → Cl g ad d mX11_lesser 0 0 [(vi x3), (vi x5)] s1 (Ki fun r2 s2 => Cl g ad d mX11_next 0 0 [(.ref (ad 102)), (vi x4)] s2 (Ki fun r3 s3 => (iR x1 → iR x2 → iR r2 → iR r3 → SR s3 → Wb g ad d mX11_optionFor Q 11 [some (.ref (ad 102)), some (vi x1), some (vi x2), some (vi r2), some (vi r3), none, none] [] s3 rc rs)))) ∧ (¬ r1 ≤ x6 → Cl g ad d mX11_targetOf 0 0 [(.ref (ad 102)), (vi x4), (vi x1), (vi (x6 - 1))] s1 (Ki fun r4 s4 => Cl g ad d mX11_targetOf 0 0 [(.ref (ad 102)), (vi x4), (vi x1), (vi x6)] s4 (Ki fun r5 s5 => Cl g ad d mX11_after0 0 0 [(.ref (ad 102)), (vi r4), (vi r5)] s5 (Ki fun r6 s6 => iR (x5 + r6) ∧ iR (x6 + 1) ∧ (iR x1 → iR x2 → iR x3 → iR x4 → iR (x5 + r6) → iR (x6 + 1) → SR s6 → Wb g ad d mX11_optionFor Q 74 [some (.ref (ad 102)), some (vi x1), some (vi x2), some (vi x3), some (vi x4), some (vi (x5 + r6)), some (vi (x6 + 1))] [] s6 rc rs)))))))) : Wb g ad d mX11_optionFor Q 74 [some (.ref (ad 102)), some (vi x1), some (vi x2), some (vi x3), some (vi x4), some (vi x5), some (vi x6)] [] σ rc rs := by
  refine sb_iload (pc' := 76) rfl rfl dX11_optionFor_74 ?_
  refine sb_aload_n (pc' := 77) rfl rfl dX11_optionFor_76 ?_
  refine sb_iload (pc' := 79) rfl rfl dX11_optionFor_77 ?_
  obtain ⟨d1, hd1, H⟩ := H
  refine sb_callV (pc' := 82) rfl rfl (rc := rc) (rs := rs) (mc' := 0) (ms' := 0) (As := [(vi x4)]) (st := [(vi x6)]) of_102 rfl rfl (Nat.le_of_ble_eq_true rfl) hd1 kX11_targetMany ⟨wd_1913, wd_1915, wd_137⟩ dX11_optionFor_79 (Eb.mono H ?_)
  rintro o s1 ⟨r1, rfl, hr1, hs1, H⟩
  show Wb g ad d mX11_optionFor Q 82 [some (.ref (ad 102)), some (vi x1), some (vi x2), some (vi x3), some (vi x4), some (vi x5), some (vi x6)] [(vi r1), (vi x6)] s1 rc rs
  refine sb_icmp_ge (pc' := 85) (tgt := 120) rfl (by decide) hx6 hr1 dX11_optionFor_82 ?_ ?_
  · intro cc; have H := H.1 cc
    refine sb_iload_n (pc' := 121) rfl rfl dX11_optionFor_120 ?_
    refine sb_iload (pc' := 123) rfl rfl dX11_optionFor_121 ?_
    obtain ⟨d2, hd2, H⟩ := H
    refine sb_callS (pc' := 126) rfl rfl (rc := rc) (rs := rs) (mc' := 0) (ms' := 0) (As := [(vi x3), (vi x5)]) (st := [])  rfl rfl (Nat.le_of_ble_eq_true rfl) hd2 kX11_lesser ⟨wd_1921, wd_1922⟩ dX11_optionFor_123 (Eb.mono H ?_)
    rintro o s2 ⟨r2, rfl, hr2, hs2, H⟩
    show Wb g ad d mX11_optionFor Q 126 [some (.ref (ad 102)), some (vi x1), some (vi x2), some (vi x3), some (vi x4), some (vi x5), some (vi x6)] [(vi r2)] s2 rc rs
    refine sb_istore_n (pc' := 127) rfl (L' := [some (.ref (ad 102)), some (vi x1), some (vi x2), some (vi r2), some (vi x4), some (vi x5), some (vi x6)]) rfl (by decide) dX11_optionFor_126 ?_
    refine sb_aload_n (pc' := 128) rfl rfl dX11_optionFor_127 ?_
    refine sb_iload (pc' := 130) rfl rfl dX11_optionFor_128 ?_
    obtain ⟨d3, hd3, H⟩ := H
    refine sb_callV (pc' := 133) rfl rfl (rc := rc) (rs := rs) (mc' := 0) (ms' := 0) (As := [(vi x4)]) (st := []) of_102 rfl rfl (Nat.le_of_ble_eq_true rfl) hd3 kX11_next ⟨wd_1894, wd_1896, wd_133⟩ dX11_optionFor_130 (Eb.mono H ?_)
    rintro o s3 ⟨r3, rfl, hr3, hs3, H⟩
    show Wb g ad d mX11_optionFor Q 133 [some (.ref (ad 102)), some (vi x1), some (vi x2), some (vi r2), some (vi x4), some (vi x5), some (vi x6)] [(vi r3)] s3 rc rs
    refine sb_istore (pc' := 135) rfl (L' := [some (.ref (ad 102)), some (vi x1), some (vi x2), some (vi r2), some (vi r3), some (vi x5), some (vi x6)]) rfl (by decide) dX11_optionFor_133 ?_
    refine sb_goto (tgt := 11) (by decide) dX11_optionFor_135 ?_
    refine Wb.forget [true, true, true, true, true, false, false] ?_
    exact (H hx1 hx2 hr2 hr3 hs3)
  · intro cc; have H := H.2 cc
    refine sb_iload (pc' := 87) rfl rfl dX11_optionFor_85 ?_
    refine sb_aload_n (pc' := 88) rfl rfl dX11_optionFor_87 ?_
    refine sb_aload_n (pc' := 89) rfl rfl dX11_optionFor_88 ?_
    refine sb_iload (pc' := 91) rfl rfl dX11_optionFor_89 ?_
    refine sb_iload_n (pc' := 92) rfl rfl dX11_optionFor_91 ?_
    refine sb_iload (pc' := 94) rfl rfl dX11_optionFor_92 ?_
    refine sb_iconst (pc' := 95) rfl dX11_optionFor_94 ?_
    refine sb_isub (pc' := 96) rfl dX11_optionFor_95 ?_
    obtain ⟨d4, hd4, H⟩ := H
    refine sb_callV (pc' := 99) rfl rfl (rc := rc) (rs := rs) (mc' := 0) (ms' := 0) (As := [(vi x4), (vi x1), (vi (x6 - 1))]) (st := [(.ref (ad 102)), (vi x5)]) of_102 rfl rfl (Nat.le_of_ble_eq_true rfl) hd4 kX11_targetOf ⟨wd_1917, wd_1919, wd_138⟩ dX11_optionFor_96 (Eb.mono H ?_)
    rintro o s4 ⟨r4, rfl, hr4, hs4, H⟩
    show Wb g ad d mX11_optionFor Q 99 [some (.ref (ad 102)), some (vi x1), some (vi x2), some (vi x3), some (vi x4), some (vi x5), some (vi x6)] [(vi r4), (.ref (ad 102)), (vi x5)] s4 rc rs
    refine sb_aload_n (pc' := 100) rfl rfl dX11_optionFor_99 ?_
    refine sb_iload (pc' := 102) rfl rfl dX11_optionFor_100 ?_
    refine sb_iload_n (pc' := 103) rfl rfl dX11_optionFor_102 ?_
    refine sb_iload (pc' := 105) rfl rfl dX11_optionFor_103 ?_
    obtain ⟨d5, hd5, H⟩ := H
    refine sb_callV (pc' := 108) rfl rfl (rc := rc) (rs := rs) (mc' := 0) (ms' := 0) (As := [(vi x4), (vi x1), (vi x6)]) (st := [(vi r4), (.ref (ad 102)), (vi x5)]) of_102 rfl rfl (Nat.le_of_ble_eq_true rfl) hd5 kX11_targetOf ⟨wd_1917, wd_1919, wd_138⟩ dX11_optionFor_105 (Eb.mono H ?_)
    rintro o s5 ⟨r5, rfl, hr5, hs5, H⟩
    show Wb g ad d mX11_optionFor Q 108 [some (.ref (ad 102)), some (vi x1), some (vi x2), some (vi x3), some (vi x4), some (vi x5), some (vi x6)] [(vi r5), (vi r4), (.ref (ad 102)), (vi x5)] s5 rc rs
    obtain ⟨d6, hd6, H⟩ := H
    refine sb_callV (pc' := 111) rfl rfl (rc := rc) (rs := rs) (mc' := 0) (ms' := 0) (As := [(vi r4), (vi r5)]) (st := [(vi x5)]) of_102 rfl rfl (Nat.le_of_ble_eq_true rfl) hd6 kX11_after0 ⟨wd_1886, wd_1888, wd_132⟩ dX11_optionFor_108 (Eb.mono H ?_)
    rintro o s6 ⟨r6, rfl, hr6, hs6, H⟩
    show Wb g ad d mX11_optionFor Q 111 [some (.ref (ad 102)), some (vi x1), some (vi x2), some (vi x3), some (vi x4), some (vi x5), some (vi x6)] [(vi r6), (vi x5)] s6 rc rs
    refine sb_iadd (pc' := 112) rfl dX11_optionFor_111 ?_
    refine sb_istore (pc' := 114) rfl (L' := [some (.ref (ad 102)), some (vi x1), some (vi x2), some (vi x3), some (vi x4), some (vi (x5 + r6)), some (vi x6)]) rfl (by decide) dX11_optionFor_112 ?_
    refine sb_iinc (pc' := 117) rfl rfl (L' := [some (.ref (ad 102)), some (vi x1), some (vi x2), some (vi x3), some (vi x4), some (vi (x5 + r6)), some (vi (x6 + 1))]) rfl (by decide) dX11_optionFor_114 ?_
    refine sb_goto (tgt := 74) (by decide) dX11_optionFor_117 ?_
    obtain ⟨o7, H⟩ := H
    obtain ⟨o8, H⟩ := H
    exact (H hx1 hx2 hx3 hx4 o7 o8 hs6)
theorem bX11_laysStretches_0 {g : AG} {ad : Nat → Nat} {d : Nat} {Q : AO → SG → Prop} {rc rs : Nat} {σ : SG}    (hS : SR σ) (H : (iR 1 → SR σ → Wb g ad d mX11_laysStretches Q 2 [some (.ref (ad 102)), some (vi 1), none, none, none, none] [] σ rc rs)) : Wb g ad d mX11_laysStretches Q 0 [some (.ref (ad 102)), none, none, none, none, none] [] σ rc rs := by
  refine sb_iconst (pc' := 1) rfl dX11_laysStretches_0 ?_
  refine sb_istore_n (pc' := 2) rfl (L' := [some (.ref (ad 102)), some (vi 1), none, none, none, none]) rfl (by decide) dX11_laysStretches_1 ?_
  exact (H (iR_lit rfl) hS)
theorem bX11_laysStretches_2 {g : AG} {ad : Nat → Nat} {d : Nat} {Q : AO → SG → Prop} {rc rs : Nat} {σ : SG} {x1 : Int}  (hx1 : iR x1) (hS : SR σ) (H : (((ia σ 103 3) < x1 → (SR σ → Q (.inl none) σ)) ∧ (¬ (ia σ 103 3) < x1 → (iR x1 → iR 0 → SR σ → Wb g ad d mX11_laysStretches Q 14 [some (.ref (ad 102)), some (vi x1), some (vi 0), none, none, none] [] σ rc rs)))) : Wb g ad d mX11_laysStretches Q 2 [some (.ref (ad 102)), some (vi x1), none, none, none, none] [] σ rc rs := by
  refine sb_iload_n (pc' := 3) rfl rfl dX11_laysStretches_2 ?_
  refine sb_aload_n (pc' := 4) rfl rfl dX11_laysStretches_3 ?_
  refine sb_getC (pc' := 7) rfl fc_102_1 wd_1551 dX11_laysStretches_4 ?_
  refine sb_iconst (pc' := 8) rfl dX11_laysStretches_7 ?_
  refine sb_iald (pc' := 9) rfl aI_103 (by decide) (by decide) dX11_laysStretches_8 ?_
  refine sb_icmp_gt (pc' := 12) (tgt := 114) rfl (by decide) hx1 (SR_ia hS _ _) dX11_laysStretches_9 ?_ ?_
  · intro cc; have H := H.1 cc
    exact sb_vret rfl dX11_laysStretches_114 (H hS)
  · intro cc; have H := H.2 cc
    refine sb_iconst (pc' := 13) rfl dX11_laysStretches_12 ?_
    refine sb_istore_n (pc' := 14) rfl (L' := [some (.ref (ad 102)), some (vi x1), some (vi 0), none, none, none]) rfl (by decide) dX11_laysStretches_13 ?_
    exact (H hx1 (iR_lit rfl) hS)
theorem bX11_laysStretches_14 {g : AG} {ad : Nat → Nat} {d : Nat} {Q : AO → SG → Prop} {rc rs : Nat} {σ : SG} {x1 x2 : Int}  (hx1 : iR x1) (hx2 : iR x2) (hS : SR σ) (H : iR (x2 + x1) ∧ (((ia σ 103 3) < (x2 + x1) → iR (x1 + 1) ∧ (iR (x1 + 1) → SR σ → Wb g ad d mX11_laysStretches Q 2 [some (.ref (ad 102)), some (vi (x1 + 1)), none, none, none, none] [] σ rc rs)) ∧ (¬ (ia σ 103 3) < (x2 + x1) → Cl g ad d mX11_optionFor 0 0 [(.ref (ad 102)), (vi x2), (vi ((x2 + x1) - 1))] σ (Ki fun r3 s3 => iR ((x2 + x1) - 1) ∧ (iR x1 → iR x2 → iR ((x2 + x1) - 1) → iR r3 → iR x2 → SR s3 → Wb g ad d mX11_laysStretches Q 43 [some (.ref (ad 102)), some (vi x1), some (vi x2), some (vi ((x2 + x1) - 1)), some (vi r3), some (vi x2)] [] s3 rc rs))))) : Wb g ad d mX11_laysStretches Q 14 [some (.ref (ad 102)), some (vi x1), some (vi x2), none, none, none] [] σ rc rs := by
  refine sb_iload_n (pc' := 15) rfl rfl dX11_laysStretches_14 ?_
  refine sb_iload_n (pc' := 16) rfl rfl dX11_laysStretches_15 ?_
  refine sb_iadd (pc' := 17) rfl dX11_laysStretches_16 ?_
  refine sb_aload_n (pc' := 18) rfl rfl dX11_laysStretches_17 ?_
  refine sb_getC (pc' := 21) rfl fc_102_1 wd_1551 dX11_laysStretches_18 ?_
  refine sb_iconst (pc' := 22) rfl dX11_laysStretches_21 ?_
  refine sb_iald (pc' := 23) rfl aI_103 (by decide) (by decide) dX11_laysStretches_22 ?_
  obtain ⟨o1, H⟩ := H
  refine sb_icmp_gt (pc' := 26) (tgt := 108) rfl (by decide) o1 (SR_ia hS _ _) dX11_laysStretches_23 ?_ ?_
  · intro cc; have H := H.1 cc
    refine sb_iinc (pc' := 111) rfl rfl (L' := [some (.ref (ad 102)), some (vi (x1 + 1)), some (vi x2), none, none, none]) rfl (by decide) dX11_laysStretches_108 ?_
    refine sb_goto (tgt := 2) (by decide) dX11_laysStretches_111 ?_
    obtain ⟨o2, H⟩ := H
    refine Wb.forget [true, true, false, false, false, false] ?_
    exact (H o2 hS)
  · intro cc; have H := H.2 cc
    refine sb_iload_n (pc' := 27) rfl rfl dX11_laysStretches_26 ?_
    refine sb_iload_n (pc' := 28) rfl rfl dX11_laysStretches_27 ?_
    refine sb_iadd (pc' := 29) rfl dX11_laysStretches_28 ?_
    refine sb_iconst (pc' := 30) rfl dX11_laysStretches_29 ?_
    refine sb_isub (pc' := 31) rfl dX11_laysStretches_30 ?_
    refine sb_istore_n (pc' := 32) rfl (L' := [some (.ref (ad 102)), some (vi x1), some (vi x2), some (vi ((x2 + x1) - 1)), none, none]) rfl (by decide) dX11_laysStretches_31 ?_
    refine sb_aload_n (pc' := 33) rfl rfl dX11_laysStretches_32 ?_
    refine sb_iload_n (pc' := 34) rfl rfl dX11_laysStretches_33 ?_
    refine sb_iload_n (pc' := 35) rfl rfl dX11_laysStretches_34 ?_
    obtain ⟨d3, hd3, H⟩ := H
    refine sb_callV (pc' := 38) rfl rfl (rc := rc) (rs := rs) (mc' := 0) (ms' := 0) (As := [(vi x2), (vi ((x2 + x1) - 1))]) (st := []) of_102 rfl rfl (Nat.le_of_ble_eq_true rfl) hd3 kX11_optionFor ⟨wd_2009, wd_2011, wd_145⟩ dX11_laysStretches_35 (Eb.mono H ?_)
    rintro o s3 ⟨r3, rfl, hr3, hs3, H⟩
    show Wb g ad d mX11_laysStretches Q 38 [some (.ref (ad 102)), some (vi x1), some (vi x2), some (vi ((x2 + x1) - 1)), none, none] [(vi r3)] s3 rc rs
    refine sb_istore (pc' := 40) rfl (L' := [some (.ref (ad 102)), some (vi x1), some (vi x2), some (vi ((x2 + x1) - 1)), some (vi r3), none]) rfl (by decide) dX11_laysStretches_38 ?_
    refine sb_iload_n (pc' := 41) rfl rfl dX11_laysStretches_40 ?_
    refine sb_istore (pc' := 43) rfl (L' := [some (.ref (ad 102)), some (vi x1), some (vi x2), some (vi ((x2 + x1) - 1)), some (vi r3), some (vi x2)]) rfl (by decide) dX11_laysStretches_41 ?_
    obtain ⟨o4, H⟩ := H
    exact (H hx1 hx2 o4 hr3 hx2 hs3)
theorem bX11_laysStretches_43 {g : AG} {ad : Nat → Nat} {d : Nat} {Q : AO → SG → Prop} {rc rs : Nat} {σ : SG} {x1 x2 x3 x4 x5 : Int}  (hx1 : iR x1) (hx2 : iR x2) (hx3 : iR x3) (hx4 : iR x4) (hx5 : iR x5) (hS : SR σ) (H : ((x3 ≤ x5 → (0 ≤ (6 * x2) + x3 ∧ (6 * x2) + x3 < 36) ∧ iR (x2 + 1) ∧ (iR x1 → iR (x2 + 1) → SR (setI σ 117 ((6 * x2) + x3) x4) → Wb g ad d mX11_laysStretches Q 14 [some (.ref (ad 102)), some (vi x1), some (vi (x2 + 1)), none, none, none] [] (setI σ 117 ((6 * x2) + x3) x4) rc rs)) ∧ (¬ x3 ≤ x5 → (0 ≤ (6 * x2) + x5 ∧ (6 * x2) + x5 < 36) ∧ (0 ≤ (6 * (x5 + 1)) + x3 ∧ (6 * (x5 + 1)) + x3 < 36) ∧ Cl g ad d mX11_lesser 0 0 [(vi x4), (vi ((ia σ 117 ((6 * x2) + x5)) + (ia σ 117 ((6 * (x5 + 1)) + x3))))] σ (Ki fun r5 s5 => iR (x5 + 1) ∧ (iR x1 → iR x2 → iR x3 → iR r5 → iR (x5 + 1) → SR s5 → Wb g ad d mX11_laysStretches Q 43 [some (.ref (ad 102)), some (vi x1), some (vi x2), some (vi x3), some (vi r5), some (vi (x5 + 1))] [] s5 rc rs))))) : Wb g ad d mX11_laysStretches Q 43 [some (.ref (ad 102)), some (vi x1), some (vi x2), some (vi x3), some (vi x4), some (vi x5)] [] σ rc rs := by
  refine sb_iload (pc' := 45) rfl rfl dX11_laysStretches_43 ?_
  refine sb_iload_n (pc' := 46) rfl rfl dX11_laysStretches_45 ?_
  refine sb_icmp_ge (pc' := 49) (tgt := 89) rfl (by decide) hx5 hx3 dX11_laysStretches_46 ?_ ?_
  · intro cc; have H := H.1 cc
    refine sb_aload_n (pc' := 90) rfl rfl dX11_laysStretches_89 ?_
    refine sb_getC (pc' := 93) rfl fc_102_33 wd_1583 dX11_laysStretches_90 ?_
    refine sb_bipush (pc' := 95) rfl (z := 6) (by decide) dX11_laysStretches_93 ?_
    refine sb_iload_n (pc' := 96) rfl rfl dX11_laysStretches_95 ?_
    refine sb_imul (pc' := 97) rfl dX11_laysStretches_96 ?_
    refine sb_iload_n (pc' := 98) rfl rfl dX11_laysStretches_97 ?_
    refine sb_iadd (pc' := 99) rfl dX11_laysStretches_98 ?_
    refine sb_iload (pc' := 101) rfl rfl dX11_laysStretches_99 ?_
    obtain ⟨o1, H⟩ := H
    refine sb_iast (pc' := 102) rfl aI_117 o1.1 o1.2  dX11_laysStretches_101 ?_
    refine sb_iinc (pc' := 105) rfl rfl (L' := [some (.ref (ad 102)), some (vi x1), some (vi (x2 + 1)), some (vi x3), some (vi x4), some (vi x5)]) rfl (by decide) dX11_laysStretches_102 ?_
    refine sb_goto (tgt := 14) (by decide) dX11_laysStretches_105 ?_
    obtain ⟨o2, H⟩ := H
    refine Wb.forget [true, true, true, false, false, false] ?_
    exact (H hx1 o2 (SR_setI hS hx4))
  · intro cc; have H := H.2 cc
    refine sb_iload (pc' := 51) rfl rfl dX11_laysStretches_49 ?_
    refine sb_aload_n (pc' := 52) rfl rfl dX11_laysStretches_51 ?_
    refine sb_getC (pc' := 55) rfl fc_102_33 wd_1583 dX11_laysStretches_52 ?_
    refine sb_bipush (pc' := 57) rfl (z := 6) (by decide) dX11_laysStretches_55 ?_
    refine sb_iload_n (pc' := 58) rfl rfl dX11_laysStretches_57 ?_
    refine sb_imul (pc' := 59) rfl dX11_laysStretches_58 ?_
    refine sb_iload (pc' := 61) rfl rfl dX11_laysStretches_59 ?_
    refine sb_iadd (pc' := 62) rfl dX11_laysStretches_61 ?_
    obtain ⟨o3, H⟩ := H
    refine sb_iald (pc' := 63) rfl aI_117 o3.1 o3.2 dX11_laysStretches_62 ?_
    refine sb_aload_n (pc' := 64) rfl rfl dX11_laysStretches_63 ?_
    refine sb_getC (pc' := 67) rfl fc_102_33 wd_1583 dX11_laysStretches_64 ?_
    refine sb_bipush (pc' := 69) rfl (z := 6) (by decide) dX11_laysStretches_67 ?_
    refine sb_iload (pc' := 71) rfl rfl dX11_laysStretches_69 ?_
    refine sb_iconst (pc' := 72) rfl dX11_laysStretches_71 ?_
    refine sb_iadd (pc' := 73) rfl dX11_laysStretches_72 ?_
    refine sb_imul (pc' := 74) rfl dX11_laysStretches_73 ?_
    refine sb_iload_n (pc' := 75) rfl rfl dX11_laysStretches_74 ?_
    refine sb_iadd (pc' := 76) rfl dX11_laysStretches_75 ?_
    obtain ⟨o4, H⟩ := H
    refine sb_iald (pc' := 77) rfl aI_117 o4.1 o4.2 dX11_laysStretches_76 ?_
    refine sb_iadd (pc' := 78) rfl dX11_laysStretches_77 ?_
    obtain ⟨d5, hd5, H⟩ := H
    refine sb_callS (pc' := 81) rfl rfl (rc := rc) (rs := rs) (mc' := 0) (ms' := 0) (As := [(vi x4), (vi ((ia σ 117 ((6 * x2) + x5)) + (ia σ 117 ((6 * (x5 + 1)) + x3))))]) (st := [])  rfl rfl (Nat.le_of_ble_eq_true rfl) hd5 kX11_lesser ⟨wd_1921, wd_1922⟩ dX11_laysStretches_78 (Eb.mono H ?_)
    rintro o s5 ⟨r5, rfl, hr5, hs5, H⟩
    show Wb g ad d mX11_laysStretches Q 81 [some (.ref (ad 102)), some (vi x1), some (vi x2), some (vi x3), some (vi x4), some (vi x5)] [(vi r5)] s5 rc rs
    refine sb_istore (pc' := 83) rfl (L' := [some (.ref (ad 102)), some (vi x1), some (vi x2), some (vi x3), some (vi r5), some (vi x5)]) rfl (by decide) dX11_laysStretches_81 ?_
    refine sb_iinc (pc' := 86) rfl rfl (L' := [some (.ref (ad 102)), some (vi x1), some (vi x2), some (vi x3), some (vi r5), some (vi (x5 + 1))]) rfl (by decide) dX11_laysStretches_83 ?_
    refine sb_goto (tgt := 43) (by decide) dX11_laysStretches_86 ?_
    obtain ⟨o6, H⟩ := H
    exact (H hx1 hx2 hx3 hr5 o6 hs5)
theorem bX11_stretch_0 {g : AG} {ad : Nat → Nat} {d : Nat} {Q : AO → SG → Prop} {rc rs : Nat} {σ : SG} {x1 x2 : Int}  (hx1 : iR x1) (hx2 : iR x2) (hS : SR σ) (H : Cl g ad d mX11_isPlace 0 0 [(.ref (ad 102)), (vi x1)] σ (Ki fun r1 s1 => ((r1 = 0 → (((sc (setS s1 102 0 1) 102 0) ≤ 0 → Cl g ad d mX11_laysStretches 0 0 [(.ref (ad 102))] (setS s1 102 0 1) (Kv fun s2 => (0 ≤ (6 * x1) + x2 ∧ (6 * x1) + x2 < 36) ∧ (iR (ia s2 117 ((6 * x1) + x2)) → SR s2 → Q (.inl (some (vi (ia s2 117 ((6 * x1) + x2))))) s2))) ∧ (¬ (sc (setS s1 102 0 1) 102 0) ≤ 0 → (iR 0 → SR (setS s1 102 0 1) → Q (.inl (some (vi 0))) (setS s1 102 0 1))))) ∧ (¬ r1 = 0 → Cl g ad d mX11_isPlace 0 0 [(.ref (ad 102)), (vi x2)] s1 (Ki fun r4 s4 => ((¬ r4 = 0 → ((x1 ≤ x2 → (((sc (setS s4 102 0 0) 102 0) ≤ 0 → Cl g ad d mX11_laysStretches 0 0 [(.ref (ad 102))] (setS s4 102 0 0) (Kv fun s5 => (0 ≤ (6 * x1) + x2 ∧ (6 * x1) + x2 < 36) ∧ (iR (ia s5 117 ((6 * x1) + x2)) → SR s5 → Q (.inl (some (vi (ia s5 117 ((6 * x1) + x2))))) s5))) ∧ (¬ (sc (setS s4 102 0 0) 102 0) ≤ 0 → (iR 0 → SR (setS s4 102 0 0) → Q (.inl (some (vi 0))) (setS s4 102 0 0))))) ∧ (¬ x1 ≤ x2 → (((sc (setS s4 102 0 2) 102 0) ≤ 0 → Cl g ad d mX11_laysStretches 0 0 [(.ref (ad 102))] (setS s4 102 0 2) (Kv fun s7 => (0 ≤ (6 * x1) + x2 ∧ (6 * x1) + x2 < 36) ∧ (iR (ia s7 117 ((6 * x1) + x2)) → SR s7 → Q (.inl (some (vi (ia s7 117 ((6 * x1) + x2))))) s7))) ∧ (¬ (sc (setS s4 102 0 2) 102 0) ≤ 0 → (iR 0 → SR (setS s4 102 0 2) → Q (.inl (some (vi 0))) (setS s4 102 0 2))))))) ∧ (r4 = 0 → (((sc (setS s4 102 0 1) 102 0) ≤ 0 → Cl g ad d mX11_laysStretches 0 0 [(.ref (ad 102))] (setS s4 102 0 1) (Kv fun s9 => (0 ≤ (6 * x1) + x2 ∧ (6 * x1) + x2 < 36) ∧ (iR (ia s9 117 ((6 * x1) + x2)) → SR s9 → Q (.inl (some (vi (ia s9 117 ((6 * x1) + x2))))) s9))) ∧ (¬ (sc (setS s4 102 0 1) 102 0) ≤ 0 → (iR 0 → SR (setS s4 102 0 1) → Q (.inl (some (vi 0))) (setS s4 102 0 1))))))))))) : Wb g ad d mX11_stretch Q 0 [some (.ref (ad 102)), some (vi x1), some (vi x2)] [] σ rc rs := by
  refine sb_aload_n (pc' := 1) rfl rfl dX11_stretch_0 ?_
  refine sb_aload_n (pc' := 2) rfl rfl dX11_stretch_1 ?_
  refine sb_iload_n (pc' := 3) rfl rfl dX11_stretch_2 ?_
  obtain ⟨d1, hd1, H⟩ := H
  refine sb_callV (pc' := 6) rfl rfl (rc := rc) (rs := rs) (mc' := 0) (ms' := 0) (As := [(vi x1)]) (st := [(.ref (ad 102))]) of_102 rfl rfl (Nat.le_of_ble_eq_true rfl) hd1 kX11_isPlace ⟨wd_1858, wd_1860, wd_125⟩ dX11_stretch_3 (Eb.mono H ?_)
  rintro o s1 ⟨r1, rfl, hr1, hs1, H⟩
  show Wb g ad d mX11_stretch Q 6 [some (.ref (ad 102)), some (vi x1), some (vi x2)] [(vi r1), (.ref (ad 102))] s1 rc rs
  refine sb_if_eq (pc' := 9) (tgt := 17) rfl (by decide) hr1 dX11_stretch_6 ?_ ?_
  · intro cc; have H := H.1 cc
    refine sb_iconst (pc' := 18) rfl dX11_stretch_17 ?_
    refine sb_goto (tgt := 31) (by decide) dX11_stretch_18 ?_
    refine sb_putI (pc' := 34) rfl fi_102_0 (Or.inl rfl) wd_1550 dX11_stretch_31 ?_
    refine sb_aload_n (pc' := 35) rfl rfl dX11_stretch_34 ?_
    refine sb_getI (pc' := 38) rfl fi_102_0 wd_1550 dX11_stretch_35 ?_
    refine sb_if_le (pc' := 41) (tgt := 43) rfl (by decide) (SR_sc (SR_setS hs1 (iR_lit rfl)) _ _) dX11_stretch_38 ?_ ?_
    · intro cc; have H := H.1 cc
      refine sb_aload_n (pc' := 44) rfl rfl dX11_stretch_43 ?_
      obtain ⟨d2, hd2, H⟩ := H
      refine sb_callV (pc' := 47) rfl rfl (rc := rc) (rs := rs) (mc' := 0) (ms' := 0) (As := []) (st := []) of_102 rfl rfl (Nat.le_of_ble_eq_true rfl) hd2 kX11_laysStretches ⟨wd_2005, wd_2007, wd_144⟩ dX11_stretch_44 (Eb.mono H ?_)
      rintro o s2 ⟨rfl, hs2, H⟩
      show Wb g ad d mX11_stretch Q 47 [some (.ref (ad 102)), some (vi x1), some (vi x2)] [] s2 rc rs
      refine sb_aload_n (pc' := 48) rfl rfl dX11_stretch_47 ?_
      refine sb_getC (pc' := 51) rfl fc_102_33 wd_1583 dX11_stretch_48 ?_
      refine sb_bipush (pc' := 53) rfl (z := 6) (by decide) dX11_stretch_51 ?_
      refine sb_iload_n (pc' := 54) rfl rfl dX11_stretch_53 ?_
      refine sb_imul (pc' := 55) rfl dX11_stretch_54 ?_
      refine sb_iload_n (pc' := 56) rfl rfl dX11_stretch_55 ?_
      refine sb_iadd (pc' := 57) rfl dX11_stretch_56 ?_
      obtain ⟨o3, H⟩ := H
      refine sb_iald (pc' := 58) rfl aI_117 o3.1 o3.2 dX11_stretch_57 ?_
      exact sb_iret rfl rfl dX11_stretch_58 (H (SR_ia hs2 _ _) hs2)
    · intro cc; have H := H.2 cc
      refine sb_iconst (pc' := 42) rfl dX11_stretch_41 ?_
      exact sb_iret rfl rfl dX11_stretch_42 (H (iR_lit rfl) (SR_setS hs1 (iR_lit rfl)))
  · intro cc; have H := H.2 cc
    refine sb_aload_n (pc' := 10) rfl rfl dX11_stretch_9 ?_
    refine sb_iload_n (pc' := 11) rfl rfl dX11_stretch_10 ?_
    obtain ⟨d4, hd4, H⟩ := H
    refine sb_callV (pc' := 14) rfl rfl (rc := rc) (rs := rs) (mc' := 0) (ms' := 0) (As := [(vi x2)]) (st := [(.ref (ad 102))]) of_102 rfl rfl (Nat.le_of_ble_eq_true rfl) hd4 kX11_isPlace ⟨wd_1858, wd_1860, wd_125⟩ dX11_stretch_11 (Eb.mono H ?_)
    rintro o s4 ⟨r4, rfl, hr4, hs4, H⟩
    show Wb g ad d mX11_stretch Q 14 [some (.ref (ad 102)), some (vi x1), some (vi x2)] [(vi r4), (.ref (ad 102))] s4 rc rs
    refine sb_if_ne (pc' := 17) (tgt := 21) rfl (by decide) hr4 dX11_stretch_14 ?_ ?_
    · intro cc; have H := H.1 cc
      refine sb_iload_n (pc' := 22) rfl rfl dX11_stretch_21 ?_
      refine sb_iload_n (pc' := 23) rfl rfl dX11_stretch_22 ?_
      refine sb_icmp_ge (pc' := 26) (tgt := 30) rfl (by decide) hx2 hx1 dX11_stretch_23 ?_ ?_
      · intro cc; have H := H.1 cc
        refine sb_iconst (pc' := 31) rfl dX11_stretch_30 ?_
        refine sb_putI (pc' := 34) rfl fi_102_0 (Or.inl rfl) wd_1550 dX11_stretch_31 ?_
        refine sb_aload_n (pc' := 35) rfl rfl dX11_stretch_34 ?_
        refine sb_getI (pc' := 38) rfl fi_102_0 wd_1550 dX11_stretch_35 ?_
        refine sb_if_le (pc' := 41) (tgt := 43) rfl (by decide) (SR_sc (SR_setS hs4 (iR_lit rfl)) _ _) dX11_stretch_38 ?_ ?_
        · intro cc; have H := H.1 cc
          refine sb_aload_n (pc' := 44) rfl rfl dX11_stretch_43 ?_
          obtain ⟨d5, hd5, H⟩ := H
          refine sb_callV (pc' := 47) rfl rfl (rc := rc) (rs := rs) (mc' := 0) (ms' := 0) (As := []) (st := []) of_102 rfl rfl (Nat.le_of_ble_eq_true rfl) hd5 kX11_laysStretches ⟨wd_2005, wd_2007, wd_144⟩ dX11_stretch_44 (Eb.mono H ?_)
          rintro o s5 ⟨rfl, hs5, H⟩
          show Wb g ad d mX11_stretch Q 47 [some (.ref (ad 102)), some (vi x1), some (vi x2)] [] s5 rc rs
          refine sb_aload_n (pc' := 48) rfl rfl dX11_stretch_47 ?_
          refine sb_getC (pc' := 51) rfl fc_102_33 wd_1583 dX11_stretch_48 ?_
          refine sb_bipush (pc' := 53) rfl (z := 6) (by decide) dX11_stretch_51 ?_
          refine sb_iload_n (pc' := 54) rfl rfl dX11_stretch_53 ?_
          refine sb_imul (pc' := 55) rfl dX11_stretch_54 ?_
          refine sb_iload_n (pc' := 56) rfl rfl dX11_stretch_55 ?_
          refine sb_iadd (pc' := 57) rfl dX11_stretch_56 ?_
          obtain ⟨o6, H⟩ := H
          refine sb_iald (pc' := 58) rfl aI_117 o6.1 o6.2 dX11_stretch_57 ?_
          exact sb_iret rfl rfl dX11_stretch_58 (H (SR_ia hs5 _ _) hs5)
        · intro cc; have H := H.2 cc
          refine sb_iconst (pc' := 42) rfl dX11_stretch_41 ?_
          exact sb_iret rfl rfl dX11_stretch_42 (H (iR_lit rfl) (SR_setS hs4 (iR_lit rfl)))
      · intro cc; have H := H.2 cc
        refine sb_iconst (pc' := 27) rfl dX11_stretch_26 ?_
        refine sb_goto (tgt := 31) (by decide) dX11_stretch_27 ?_
        refine sb_putI (pc' := 34) rfl fi_102_0 (Or.inl rfl) wd_1550 dX11_stretch_31 ?_
        refine sb_aload_n (pc' := 35) rfl rfl dX11_stretch_34 ?_
        refine sb_getI (pc' := 38) rfl fi_102_0 wd_1550 dX11_stretch_35 ?_
        refine sb_if_le (pc' := 41) (tgt := 43) rfl (by decide) (SR_sc (SR_setS hs4 (iR_lit rfl)) _ _) dX11_stretch_38 ?_ ?_
        · intro cc; have H := H.1 cc
          refine sb_aload_n (pc' := 44) rfl rfl dX11_stretch_43 ?_
          obtain ⟨d7, hd7, H⟩ := H
          refine sb_callV (pc' := 47) rfl rfl (rc := rc) (rs := rs) (mc' := 0) (ms' := 0) (As := []) (st := []) of_102 rfl rfl (Nat.le_of_ble_eq_true rfl) hd7 kX11_laysStretches ⟨wd_2005, wd_2007, wd_144⟩ dX11_stretch_44 (Eb.mono H ?_)
          rintro o s7 ⟨rfl, hs7, H⟩
          show Wb g ad d mX11_stretch Q 47 [some (.ref (ad 102)), some (vi x1), some (vi x2)] [] s7 rc rs
          refine sb_aload_n (pc' := 48) rfl rfl dX11_stretch_47 ?_
          refine sb_getC (pc' := 51) rfl fc_102_33 wd_1583 dX11_stretch_48 ?_
          refine sb_bipush (pc' := 53) rfl (z := 6) (by decide) dX11_stretch_51 ?_
          refine sb_iload_n (pc' := 54) rfl rfl dX11_stretch_53 ?_
          refine sb_imul (pc' := 55) rfl dX11_stretch_54 ?_
          refine sb_iload_n (pc' := 56) rfl rfl dX11_stretch_55 ?_
          refine sb_iadd (pc' := 57) rfl dX11_stretch_56 ?_
          obtain ⟨o8, H⟩ := H
          refine sb_iald (pc' := 58) rfl aI_117 o8.1 o8.2 dX11_stretch_57 ?_
          exact sb_iret rfl rfl dX11_stretch_58 (H (SR_ia hs7 _ _) hs7)
        · intro cc; have H := H.2 cc
          refine sb_iconst (pc' := 42) rfl dX11_stretch_41 ?_
          exact sb_iret rfl rfl dX11_stretch_42 (H (iR_lit rfl) (SR_setS hs4 (iR_lit rfl)))
    · intro cc; have H := H.2 cc
      refine sb_iconst (pc' := 18) rfl dX11_stretch_17 ?_
      refine sb_goto (tgt := 31) (by decide) dX11_stretch_18 ?_
      refine sb_putI (pc' := 34) rfl fi_102_0 (Or.inl rfl) wd_1550 dX11_stretch_31 ?_
      refine sb_aload_n (pc' := 35) rfl rfl dX11_stretch_34 ?_
      refine sb_getI (pc' := 38) rfl fi_102_0 wd_1550 dX11_stretch_35 ?_
      refine sb_if_le (pc' := 41) (tgt := 43) rfl (by decide) (SR_sc (SR_setS hs4 (iR_lit rfl)) _ _) dX11_stretch_38 ?_ ?_
      · intro cc; have H := H.1 cc
        refine sb_aload_n (pc' := 44) rfl rfl dX11_stretch_43 ?_
        obtain ⟨d9, hd9, H⟩ := H
        refine sb_callV (pc' := 47) rfl rfl (rc := rc) (rs := rs) (mc' := 0) (ms' := 0) (As := []) (st := []) of_102 rfl rfl (Nat.le_of_ble_eq_true rfl) hd9 kX11_laysStretches ⟨wd_2005, wd_2007, wd_144⟩ dX11_stretch_44 (Eb.mono H ?_)
        rintro o s9 ⟨rfl, hs9, H⟩
        show Wb g ad d mX11_stretch Q 47 [some (.ref (ad 102)), some (vi x1), some (vi x2)] [] s9 rc rs
        refine sb_aload_n (pc' := 48) rfl rfl dX11_stretch_47 ?_
        refine sb_getC (pc' := 51) rfl fc_102_33 wd_1583 dX11_stretch_48 ?_
        refine sb_bipush (pc' := 53) rfl (z := 6) (by decide) dX11_stretch_51 ?_
        refine sb_iload_n (pc' := 54) rfl rfl dX11_stretch_53 ?_
        refine sb_imul (pc' := 55) rfl dX11_stretch_54 ?_
        refine sb_iload_n (pc' := 56) rfl rfl dX11_stretch_55 ?_
        refine sb_iadd (pc' := 57) rfl dX11_stretch_56 ?_
        obtain ⟨o10, H⟩ := H
        refine sb_iald (pc' := 58) rfl aI_117 o10.1 o10.2 dX11_stretch_57 ?_
        exact sb_iret rfl rfl dX11_stretch_58 (H (SR_ia hs9 _ _) hs9)
      · intro cc; have H := H.2 cc
        refine sb_iconst (pc' := 42) rfl dX11_stretch_41 ?_
        exact sb_iret rfl rfl dX11_stretch_42 (H (iR_lit rfl) (SR_setS hs4 (iR_lit rfl)))
theorem bX11_aheadOf_0 {g : AG} {ad : Nat → Nat} {d : Nat} {Q : AO → SG → Prop} {rc rs : Nat} {σ : SG} {x1 : Int}  (hx1 : iR x1) (hS : SR σ) (H : (iR x1 → iR 0 → iR 0 → SR σ → Wb g ad d mX11_aheadOf Q 4 [some (.ref (ad 102)), some (vi x1), some (vi 0), some (vi 0), none] [] σ rc rs)) : Wb g ad d mX11_aheadOf Q 0 [some (.ref (ad 102)), some (vi x1), none, none, none] [] σ rc rs := by
  refine sb_iconst (pc' := 1) rfl dX11_aheadOf_0 ?_
  refine sb_istore_n (pc' := 2) rfl (L' := [some (.ref (ad 102)), some (vi x1), some (vi 0), none, none]) rfl (by decide) dX11_aheadOf_1 ?_
  refine sb_iconst (pc' := 3) rfl dX11_aheadOf_2 ?_
  refine sb_istore_n (pc' := 4) rfl (L' := [some (.ref (ad 102)), some (vi x1), some (vi 0), some (vi 0), none]) rfl (by decide) dX11_aheadOf_3 ?_
  exact (H hx1 (iR_lit rfl) (iR_lit rfl) hS)
theorem bX11_aheadOf_4 {g : AG} {ad : Nat → Nat} {d : Nat} {Q : AO → SG → Prop} {rc rs : Nat} {σ : SG} {x1 x2 x3 : Int}  (hx1 : iR x1) (hx2 : iR x2) (hx3 : iR x3) (hS : SR σ) (H : (((ia σ 103 3) ≤ x3 → (iR x2 → SR σ → Q (.inl (some (vi x2))) σ)) ∧ (¬ (ia σ 103 3) ≤ x3 → Cl g ad d mX11_isOf 0 0 [(vi x1), (vi x3)] σ (Ki fun r1 s1 => ((r1 = 0 → (iR x1 → iR x2 → iR x3 → iR x3 → SR s1 → Wb g ad d mX11_aheadOf Q 31 [some (.ref (ad 102)), some (vi x1), some (vi x2), some (vi x3), some (vi x3)] [] s1 rc rs)) ∧ (¬ r1 = 0 → iR (x3 + 1) ∧ (iR x1 → iR x2 → iR (x3 + 1) → SR s1 → Wb g ad d mX11_aheadOf Q 4 [some (.ref (ad 102)), some (vi x1), some (vi x2), some (vi (x3 + 1)), none] [] s1 rc rs))))))) : Wb g ad d mX11_aheadOf Q 4 [some (.ref (ad 102)), some (vi x1), some (vi x2), some (vi x3), none] [] σ rc rs := by
  refine sb_iload_n (pc' := 5) rfl rfl dX11_aheadOf_4 ?_
  refine sb_aload_n (pc' := 6) rfl rfl dX11_aheadOf_5 ?_
  refine sb_getC (pc' := 9) rfl fc_102_1 wd_1551 dX11_aheadOf_6 ?_
  refine sb_iconst (pc' := 10) rfl dX11_aheadOf_9 ?_
  refine sb_iald (pc' := 11) rfl aI_103 (by decide) (by decide) dX11_aheadOf_10 ?_
  refine sb_icmp_ge (pc' := 14) (tgt := 84) rfl (by decide) hx3 (SR_ia hS _ _) dX11_aheadOf_11 ?_ ?_
  · intro cc; have H := H.1 cc
    refine sb_iload_n (pc' := 85) rfl rfl dX11_aheadOf_84 ?_
    exact sb_iret rfl rfl dX11_aheadOf_85 (H hx2 hS)
  · intro cc; have H := H.2 cc
    refine sb_iload_n (pc' := 15) rfl rfl dX11_aheadOf_14 ?_
    refine sb_iload_n (pc' := 16) rfl rfl dX11_aheadOf_15 ?_
    obtain ⟨d1, hd1, H⟩ := H
    refine sb_callS (pc' := 19) rfl rfl (rc := rc) (rs := rs) (mc' := 0) (ms' := 0) (As := [(vi x1), (vi x3)]) (st := [])  rfl rfl (Nat.le_of_ble_eq_true rfl) hd1 kX11_isOf ⟨wd_2044, wd_2045⟩ dX11_aheadOf_16 (Eb.mono H ?_)
    rintro o s1 ⟨r1, rfl, hr1, hs1, H⟩
    show Wb g ad d mX11_aheadOf Q 19 [some (.ref (ad 102)), some (vi x1), some (vi x2), some (vi x3), none] [(vi r1)] s1 rc rs
    refine sb_if_eq (pc' := 22) (tgt := 28) rfl (by decide) hr1 dX11_aheadOf_19 ?_ ?_
    · intro cc; have H := H.1 cc
      refine sb_iload_n (pc' := 29) rfl rfl dX11_aheadOf_28 ?_
      refine sb_istore (pc' := 31) rfl (L' := [some (.ref (ad 102)), some (vi x1), some (vi x2), some (vi x3), some (vi x3)]) rfl (by decide) dX11_aheadOf_29 ?_
      exact (H hx1 hx2 hx3 hx3 hs1)
    · intro cc; have H := H.2 cc
      refine sb_iinc (pc' := 25) rfl rfl (L' := [some (.ref (ad 102)), some (vi x1), some (vi x2), some (vi (x3 + 1)), none]) rfl (by decide) dX11_aheadOf_22 ?_
      refine sb_goto (tgt := 4) (by decide) dX11_aheadOf_25 ?_
      obtain ⟨o2, H⟩ := H
      exact (H hx1 hx2 o2 hs1)
theorem bX11_aheadOf_31 {g : AG} {ad : Nat → Nat} {d : Nat} {Q : AO → SG → Prop} {rc rs : Nat} {σ : SG} {x1 x2 x3 x4 : Int}  (hx1 : iR x1) (hx2 : iR x2) (hx3 : iR x3) (hx4 : iR x4) (hS : SR σ) (H : iR (x4 + 1) ∧ (((ia σ 103 3) ≤ (x4 + 1) → (0 ≤ (6 * x3) + x4 ∧ (6 * x3) + x4 < 36) ∧ iR (x2 + (ia σ 117 ((6 * x3) + x4))) ∧ (iR x1 → iR (x2 + (ia σ 117 ((6 * x3) + x4))) → iR (x4 + 1) → SR σ → Wb g ad d mX11_aheadOf Q 4 [some (.ref (ad 102)), some (vi x1), some (vi (x2 + (ia σ 117 ((6 * x3) + x4)))), some (vi (x4 + 1)), none] [] σ rc rs)) ∧ (¬ (ia σ 103 3) ≤ (x4 + 1) → Cl g ad d mX11_isOf 0 0 [(vi x1), (vi (x4 + 1))] σ (Ki fun r4 s4 => ((¬ r4 = 0 → (0 ≤ (6 * x3) + x4 ∧ (6 * x3) + x4 < 36) ∧ iR (x2 + (ia s4 117 ((6 * x3) + x4))) ∧ (iR x1 → iR (x2 + (ia s4 117 ((6 * x3) + x4))) → iR (x4 + 1) → SR s4 → Wb g ad d mX11_aheadOf Q 4 [some (.ref (ad 102)), some (vi x1), some (vi (x2 + (ia s4 117 ((6 * x3) + x4)))), some (vi (x4 + 1)), none] [] s4 rc rs)) ∧ (r4 = 0 → (iR x1 → iR x2 → iR x3 → iR (x4 + 1) → SR s4 → Wb g ad d mX11_aheadOf Q 31 [some (.ref (ad 102)), some (vi x1), some (vi x2), some (vi x3), some (vi (x4 + 1))] [] s4 rc rs))))))) : Wb g ad d mX11_aheadOf Q 31 [some (.ref (ad 102)), some (vi x1), some (vi x2), some (vi x3), some (vi x4)] [] σ rc rs := by
  refine sb_iload (pc' := 33) rfl rfl dX11_aheadOf_31 ?_
  refine sb_iconst (pc' := 34) rfl dX11_aheadOf_33 ?_
  refine sb_iadd (pc' := 35) rfl dX11_aheadOf_34 ?_
  refine sb_aload_n (pc' := 36) rfl rfl dX11_aheadOf_35 ?_
  refine sb_getC (pc' := 39) rfl fc_102_1 wd_1551 dX11_aheadOf_36 ?_
  refine sb_iconst (pc' := 40) rfl dX11_aheadOf_39 ?_
  refine sb_iald (pc' := 41) rfl aI_103 (by decide) (by decide) dX11_aheadOf_40 ?_
  obtain ⟨o1, H⟩ := H
  refine sb_icmp_ge (pc' := 44) (tgt := 61) rfl (by decide) o1 (SR_ia hS _ _) dX11_aheadOf_41 ?_ ?_
  · intro cc; have H := H.1 cc
    refine sb_iload_n (pc' := 62) rfl rfl dX11_aheadOf_61 ?_
    refine sb_aload_n (pc' := 63) rfl rfl dX11_aheadOf_62 ?_
    refine sb_getC (pc' := 66) rfl fc_102_33 wd_1583 dX11_aheadOf_63 ?_
    refine sb_bipush (pc' := 68) rfl (z := 6) (by decide) dX11_aheadOf_66 ?_
    refine sb_iload_n (pc' := 69) rfl rfl dX11_aheadOf_68 ?_
    refine sb_imul (pc' := 70) rfl dX11_aheadOf_69 ?_
    refine sb_iload (pc' := 72) rfl rfl dX11_aheadOf_70 ?_
    refine sb_iadd (pc' := 73) rfl dX11_aheadOf_72 ?_
    obtain ⟨o2, H⟩ := H
    refine sb_iald (pc' := 74) rfl aI_117 o2.1 o2.2 dX11_aheadOf_73 ?_
    refine sb_iadd (pc' := 75) rfl dX11_aheadOf_74 ?_
    refine sb_istore_n (pc' := 76) rfl (L' := [some (.ref (ad 102)), some (vi x1), some (vi (x2 + (ia σ 117 ((6 * x3) + x4)))), some (vi x3), some (vi x4)]) rfl (by decide) dX11_aheadOf_75 ?_
    refine sb_iload (pc' := 78) rfl rfl dX11_aheadOf_76 ?_
    refine sb_iconst (pc' := 79) rfl dX11_aheadOf_78 ?_
    refine sb_iadd (pc' := 80) rfl dX11_aheadOf_79 ?_
    refine sb_istore_n (pc' := 81) rfl (L' := [some (.ref (ad 102)), some (vi x1), some (vi (x2 + (ia σ 117 ((6 * x3) + x4)))), some (vi (x4 + 1)), some (vi x4)]) rfl (by decide) dX11_aheadOf_80 ?_
    refine sb_goto (tgt := 4) (by decide) dX11_aheadOf_81 ?_
    obtain ⟨o3, H⟩ := H
    refine Wb.forget [true, true, true, true, false] ?_
    exact (H hx1 o3 o1 hS)
  · intro cc; have H := H.2 cc
    refine sb_iload_n (pc' := 45) rfl rfl dX11_aheadOf_44 ?_
    refine sb_iload (pc' := 47) rfl rfl dX11_aheadOf_45 ?_
    refine sb_iconst (pc' := 48) rfl dX11_aheadOf_47 ?_
    refine sb_iadd (pc' := 49) rfl dX11_aheadOf_48 ?_
    obtain ⟨d4, hd4, H⟩ := H
    refine sb_callS (pc' := 52) rfl rfl (rc := rc) (rs := rs) (mc' := 0) (ms' := 0) (As := [(vi x1), (vi (x4 + 1))]) (st := [])  rfl rfl (Nat.le_of_ble_eq_true rfl) hd4 kX11_isOf ⟨wd_2044, wd_2045⟩ dX11_aheadOf_49 (Eb.mono H ?_)
    rintro o s4 ⟨r4, rfl, hr4, hs4, H⟩
    show Wb g ad d mX11_aheadOf Q 52 [some (.ref (ad 102)), some (vi x1), some (vi x2), some (vi x3), some (vi x4)] [(vi r4)] s4 rc rs
    refine sb_if_ne (pc' := 55) (tgt := 61) rfl (by decide) hr4 dX11_aheadOf_52 ?_ ?_
    · intro cc; have H := H.1 cc
      refine sb_iload_n (pc' := 62) rfl rfl dX11_aheadOf_61 ?_
      refine sb_aload_n (pc' := 63) rfl rfl dX11_aheadOf_62 ?_
      refine sb_getC (pc' := 66) rfl fc_102_33 wd_1583 dX11_aheadOf_63 ?_
      refine sb_bipush (pc' := 68) rfl (z := 6) (by decide) dX11_aheadOf_66 ?_
      refine sb_iload_n (pc' := 69) rfl rfl dX11_aheadOf_68 ?_
      refine sb_imul (pc' := 70) rfl dX11_aheadOf_69 ?_
      refine sb_iload (pc' := 72) rfl rfl dX11_aheadOf_70 ?_
      refine sb_iadd (pc' := 73) rfl dX11_aheadOf_72 ?_
      obtain ⟨o5, H⟩ := H
      refine sb_iald (pc' := 74) rfl aI_117 o5.1 o5.2 dX11_aheadOf_73 ?_
      refine sb_iadd (pc' := 75) rfl dX11_aheadOf_74 ?_
      refine sb_istore_n (pc' := 76) rfl (L' := [some (.ref (ad 102)), some (vi x1), some (vi (x2 + (ia s4 117 ((6 * x3) + x4)))), some (vi x3), some (vi x4)]) rfl (by decide) dX11_aheadOf_75 ?_
      refine sb_iload (pc' := 78) rfl rfl dX11_aheadOf_76 ?_
      refine sb_iconst (pc' := 79) rfl dX11_aheadOf_78 ?_
      refine sb_iadd (pc' := 80) rfl dX11_aheadOf_79 ?_
      refine sb_istore_n (pc' := 81) rfl (L' := [some (.ref (ad 102)), some (vi x1), some (vi (x2 + (ia s4 117 ((6 * x3) + x4)))), some (vi (x4 + 1)), some (vi x4)]) rfl (by decide) dX11_aheadOf_80 ?_
      refine sb_goto (tgt := 4) (by decide) dX11_aheadOf_81 ?_
      obtain ⟨o6, H⟩ := H
      refine Wb.forget [true, true, true, true, false] ?_
      exact (H hx1 o6 o1 hs4)
    · intro cc; have H := H.2 cc
      refine sb_iinc (pc' := 58) rfl rfl (L' := [some (.ref (ad 102)), some (vi x1), some (vi x2), some (vi x3), some (vi (x4 + 1))]) rfl (by decide) dX11_aheadOf_55 ?_
      refine sb_goto (tgt := 31) (by decide) dX11_aheadOf_58 ?_
      exact (H hx1 hx2 hx3 o1 hs4)
theorem bX11_setOf_0 {g : AG} {ad : Nat → Nat} {d : Nat} {Q : AO → SG → Prop} {rc rs : Nat} {σ : SG} {x1 : Int}  (hx1 : iR x1) (hS : SR σ) (H : (iR (bDiv x1 294) → SR σ → Q (.inl (some (vi (bDiv x1 294)))) σ)) : Wb g ad d mX11_setOf Q 0 [some (.ref (ad 102)), some (vi x1)] [] σ rc rs := by
  refine sb_iload_n (pc' := 1) rfl rfl dX11_setOf_0 ?_
  refine sb_sipush (pc' := 4) rfl (z := 294) (by decide) dX11_setOf_1 ?_
  refine sb_idiv (pc' := 5) rfl (iR_lit rfl) (by decide) dX11_setOf_4 ?_
  exact sb_iret rfl rfl dX11_setOf_5 (H (iR_b _) hS)
theorem bX11_placeOf_0 {g : AG} {ad : Nat → Nat} {d : Nat} {Q : AO → SG → Prop} {rc rs : Nat} {σ : SG} {x1 : Int}  (hx1 : iR x1) (hS : SR σ) (H : (iR (bRem (bDiv x1 42) 7) → SR σ → Q (.inl (some (vi (bRem (bDiv x1 42) 7)))) σ)) : Wb g ad d mX11_placeOf Q 0 [some (.ref (ad 102)), some (vi x1)] [] σ rc rs := by
  refine sb_iload_n (pc' := 1) rfl rfl dX11_placeOf_0 ?_
  refine sb_bipush (pc' := 3) rfl (z := 42) (by decide) dX11_placeOf_1 ?_
  refine sb_idiv (pc' := 4) rfl (iR_lit rfl) (by decide) dX11_placeOf_3 ?_
  refine sb_bipush (pc' := 6) rfl (z := 7) (by decide) dX11_placeOf_4 ?_
  refine sb_irem (pc' := 7) rfl (iR_lit rfl) (by decide) dX11_placeOf_6 ?_
  exact sb_iret rfl rfl dX11_placeOf_7 (H (iR_b _) hS)
theorem bX11_lastOf_0 {g : AG} {ad : Nat → Nat} {d : Nat} {Q : AO → SG → Prop} {rc rs : Nat} {σ : SG} {x1 : Int}  (hx1 : iR x1) (hS : SR σ) (H : iR ((bRem x1 42) - 1) ∧ (iR ((bRem x1 42) - 1) → SR σ → Q (.inl (some (vi ((bRem x1 42) - 1)))) σ)) : Wb g ad d mX11_lastOf Q 0 [some (.ref (ad 102)), some (vi x1)] [] σ rc rs := by
  refine sb_iload_n (pc' := 1) rfl rfl dX11_lastOf_0 ?_
  refine sb_bipush (pc' := 3) rfl (z := 42) (by decide) dX11_lastOf_1 ?_
  refine sb_irem (pc' := 4) rfl (iR_lit rfl) (by decide) dX11_lastOf_3 ?_
  refine sb_iconst (pc' := 5) rfl dX11_lastOf_4 ?_
  refine sb_isub (pc' := 6) rfl dX11_lastOf_5 ?_
  obtain ⟨o1, H⟩ := H
  exact sb_iret rfl rfl dX11_lastOf_6 (H o1 hS)
theorem bX11_scoreOf_0 {g : AG} {ad : Nat → Nat} {d : Nat} {Q : AO → SG → Prop} {rc rs : Nat} {σ : SG} {x1 : Int}  (hx1 : iR x1) (hS : SR σ) (H : (0 ≤ x1 ∧ x1 < 18816) ∧ Cl g ad d mX11_setOf 0 0 [(.ref (ad 102)), (vi x1)] σ (Ki fun r2 s2 => Cl g ad d mX11_aheadOf 0 0 [(.ref (ad 102)), (vi r2)] s2 (Ki fun r3 s3 => iR ((ia σ 120 x1) + r3) ∧ (iR ((ia σ 120 x1) + r3) → SR s3 → Q (.inl (some (vi ((ia σ 120 x1) + r3)))) s3)))) : Wb g ad d mX11_scoreOf Q 0 [some (.ref (ad 102)), some (vi x1)] [] σ rc rs := by
  refine sb_aload_n (pc' := 1) rfl rfl dX11_scoreOf_0 ?_
  refine sb_getC (pc' := 4) rfl fc_102_36 wd_1586 dX11_scoreOf_1 ?_
  refine sb_iload_n (pc' := 5) rfl rfl dX11_scoreOf_4 ?_
  obtain ⟨o1, H⟩ := H
  refine sb_iald (pc' := 6) rfl aI_120 o1.1 o1.2 dX11_scoreOf_5 ?_
  refine sb_aload_n (pc' := 7) rfl rfl dX11_scoreOf_6 ?_
  refine sb_aload_n (pc' := 8) rfl rfl dX11_scoreOf_7 ?_
  refine sb_iload_n (pc' := 9) rfl rfl dX11_scoreOf_8 ?_
  obtain ⟨d2, hd2, H⟩ := H
  refine sb_callV (pc' := 12) rfl rfl (rc := rc) (rs := rs) (mc' := 0) (ms' := 0) (As := [(vi x1)]) (st := [(.ref (ad 102)), (vi (ia σ 120 x1))]) of_102 rfl rfl (Nat.le_of_ble_eq_true rfl) hd2 kX11_setOf ⟨wd_2036, wd_2038, wd_150⟩ dX11_scoreOf_9 (Eb.mono H ?_)
  rintro o s2 ⟨r2, rfl, hr2, hs2, H⟩
  show Wb g ad d mX11_scoreOf Q 12 [some (.ref (ad 102)), some (vi x1)] [(vi r2), (.ref (ad 102)), (vi (ia σ 120 x1))] s2 rc rs
  obtain ⟨d3, hd3, H⟩ := H
  refine sb_callV (pc' := 15) rfl rfl (rc := rc) (rs := rs) (mc' := 0) (ms' := 0) (As := [(vi r2)]) (st := [(vi (ia σ 120 x1))]) of_102 rfl rfl (Nat.le_of_ble_eq_true rfl) hd3 kX11_aheadOf ⟨wd_2040, wd_2042, wd_151⟩ dX11_scoreOf_12 (Eb.mono H ?_)
  rintro o s3 ⟨r3, rfl, hr3, hs3, H⟩
  show Wb g ad d mX11_scoreOf Q 15 [some (.ref (ad 102)), some (vi x1)] [(vi r3), (vi (ia σ 120 x1))] s3 rc rs
  refine sb_iadd (pc' := 16) rfl dX11_scoreOf_15 ?_
  obtain ⟨o4, H⟩ := H
  exact sb_iret rfl rfl dX11_scoreOf_16 (H o4 hs3)
theorem bX11_lies_0 {g : AG} {ad : Nat → Nat} {d : Nat} {Q : AO → SG → Prop} {rc rs : Nat} {σ : SG} {x1 x2 x3 x4 x5 : Int}  (hx1 : iR x1) (hx2 : iR x2) (hx3 : iR x3) (hx4 : iR x4) (hx5 : iR x5) (hS : SR σ) (H : iR ((sc σ 102 43) + 1) ∧ (0 ≤ x1 ∧ x1 < 18816) ∧ (((ia (setS σ 102 43 ((sc σ 102 43) + 1)) 118 x1) = 0 → (iR x1 → iR x2 → iR x3 → iR x4 → iR x5 → SR (setS σ 102 43 ((sc σ 102 43) + 1)) → Wb g ad d mX11_lies Q 29 [some (.ref (ad 102)), some (vi x1), some (vi x2), some (vi x3), some (vi x4), some (vi x5)] [] (setS σ 102 43 ((sc σ 102 43) + 1)) rc rs)) ∧ (¬ (ia (setS σ 102 43 ((sc σ 102 43) + 1)) 118 x1) = 0 → iR ((sc (setS σ 102 43 ((sc σ 102 43) + 1)) 102 44) + 1) ∧ (iR x1 → iR x2 → iR x3 → iR x4 → iR x5 → SR (setS (setS σ 102 43 ((sc σ 102 43) + 1)) 102 44 ((sc (setS σ 102 43 ((sc σ 102 43) + 1)) 102 44) + 1)) → Wb g ad d mX11_lies Q 29 [some (.ref (ad 102)), some (vi x1), some (vi x2), some (vi x3), some (vi x4), some (vi x5)] [] (setS (setS σ 102 43 ((sc σ 102 43) + 1)) 102 44 ((sc (setS σ 102 43 ((sc σ 102 43) + 1)) 102 44) + 1)) rc rs)))) : Wb g ad d mX11_lies Q 0 [some (.ref (ad 102)), some (vi x1), some (vi x2), some (vi x3), some (vi x4), some (vi x5)] [] σ rc rs := by
  refine sb_aload_n (pc' := 1) rfl rfl dX11_lies_0 ?_
  refine sb_dup (pc' := 2) rfl rfl dX11_lies_1 ?_
  refine sb_getI (pc' := 5) rfl fi_102_43 wd_1593 dX11_lies_2 ?_
  refine sb_iconst (pc' := 6) rfl dX11_lies_5 ?_
  refine sb_iadd (pc' := 7) rfl dX11_lies_6 ?_
  obtain ⟨o1, H⟩ := H
  refine sb_putI (pc' := 10) rfl fi_102_43 (Or.inl rfl) wd_1593 dX11_lies_7 ?_
  refine sb_aload_n (pc' := 11) rfl rfl dX11_lies_10 ?_
  refine sb_getC (pc' := 14) rfl fc_102_34 wd_1584 dX11_lies_11 ?_
  refine sb_iload_n (pc' := 15) rfl rfl dX11_lies_14 ?_
  obtain ⟨o2, H⟩ := H
  refine sb_zald (pc' := 16) rfl aZ_118 o2.1 o2.2 dX11_lies_15 ?_
  refine sb_if_eq (pc' := 19) (tgt := 29) rfl (by decide) (SR_ia (SR_setS hS o1) _ _) dX11_lies_16 ?_ ?_
  · intro cc; have H := H.1 cc
    exact (H hx1 hx2 hx3 hx4 hx5 (SR_setS hS o1))
  · intro cc; have H := H.2 cc
    refine sb_aload_n (pc' := 20) rfl rfl dX11_lies_19 ?_
    refine sb_dup (pc' := 21) rfl rfl dX11_lies_20 ?_
    refine sb_getI (pc' := 24) rfl fi_102_44 wd_1594 dX11_lies_21 ?_
    refine sb_iconst (pc' := 25) rfl dX11_lies_24 ?_
    refine sb_iadd (pc' := 26) rfl dX11_lies_25 ?_
    obtain ⟨o3, H⟩ := H
    refine sb_putI (pc' := 29) rfl fi_102_44 (Or.inl rfl) wd_1594 dX11_lies_26 ?_
    exact (H hx1 hx2 hx3 hx4 hx5 (SR_setS (SR_setS hS o1) o3))
theorem bX11_lies_29 {g : AG} {ad : Nat → Nat} {d : Nat} {Q : AO → SG → Prop} {rc rs : Nat} {σ : SG} {x1 x2 x3 x4 x5 : Int}  (hx1 : iR x1) (hx2 : iR x2) (hx3 : iR x3) (hx4 : iR x4) (hx5 : iR x5) (hS : SR σ) (H : (0 ≤ x1 ∧ x1 < 18816) ∧ (((ia σ 118 x1) = 0 → (iR x1 → iR x2 → iR x3 → iR x4 → iR x5 → SR σ → Wb g ad d mX11_lies Q 49 [some (.ref (ad 102)), some (vi x1), some (vi x2), some (vi x3), some (vi x4), some (vi x5)] [] σ rc rs)) ∧ (¬ (ia σ 118 x1) = 0 → ((x2 < (ia σ 120 x1) → (iR x1 → iR x2 → iR x3 → iR x4 → iR x5 → SR σ → Wb g ad d mX11_lies Q 49 [some (.ref (ad 102)), some (vi x1), some (vi x2), some (vi x3), some (vi x4), some (vi x5)] [] σ rc rs)) ∧ (¬ x2 < (ia σ 120 x1) → (SR σ → Q (.inl none) σ)))))) : Wb g ad d mX11_lies Q 29 [some (.ref (ad 102)), some (vi x1), some (vi x2), some (vi x3), some (vi x4), some (vi x5)] [] σ rc rs := by
  refine sb_aload_n (pc' := 30) rfl rfl dX11_lies_29 ?_
  refine sb_getC (pc' := 33) rfl fc_102_34 wd_1584 dX11_lies_30 ?_
  refine sb_iload_n (pc' := 34) rfl rfl dX11_lies_33 ?_
  obtain ⟨o1, H⟩ := H
  refine sb_zald (pc' := 35) rfl aZ_118 o1.1 o1.2 dX11_lies_34 ?_
  refine sb_if_eq (pc' := 38) (tgt := 49) rfl (by decide) (SR_ia hS _ _) dX11_lies_35 ?_ ?_
  · intro cc; have H := H.1 cc
    exact (H hx1 hx2 hx3 hx4 hx5 hS)
  · intro cc; have H := H.2 cc
    refine sb_aload_n (pc' := 39) rfl rfl dX11_lies_38 ?_
    refine sb_getC (pc' := 42) rfl fc_102_36 wd_1586 dX11_lies_39 ?_
    refine sb_iload_n (pc' := 43) rfl rfl dX11_lies_42 ?_
    refine sb_iald (pc' := 44) rfl aI_120 o1.1 o1.2 dX11_lies_43 ?_
    refine sb_iload_n (pc' := 45) rfl rfl dX11_lies_44 ?_
    refine sb_icmp_gt (pc' := 48) (tgt := 49) rfl (by decide) (SR_ia hS _ _) hx2 dX11_lies_45 ?_ ?_
    · intro cc; have H := H.1 cc
      exact (H hx1 hx2 hx3 hx4 hx5 hS)
    · intro cc; have H := H.2 cc
      exact sb_vret rfl dX11_lies_48 (H hS)
theorem bX11_lies_49 {g : AG} {ad : Nat → Nat} {d : Nat} {Q : AO → SG → Prop} {rc rs : Nat} {σ : SG} {x1 x2 x3 x4 x5 : Int}  (hx1 : iR x1) (hx2 : iR x2) (hx3 : iR x3) (hx4 : iR x4) (hx5 : iR x5) (hS : SR σ) (H : (0 ≤ x1 ∧ x1 < 18816) ∧ (SR (setI (setI (setI (setI (setI (setI σ 118 x1 1) 120 x1 x2) 121 x1 (sc (setI (setI σ 118 x1 1) 120 x1 x2) 102 43)) 122 x1 x3) 123 x1 x4) 124 x1 x5) → Q (.inl none) (setI (setI (setI (setI (setI (setI σ 118 x1 1) 120 x1 x2) 121 x1 (sc (setI (setI σ 118 x1 1) 120 x1 x2) 102 43)) 122 x1 x3) 123 x1 x4) 124 x1 x5))) : Wb g ad d mX11_lies Q 49 [some (.ref (ad 102)), some (vi x1), some (vi x2), some (vi x3), some (vi x4), some (vi x5)] [] σ rc rs := by
  refine sb_aload_n (pc' := 50) rfl rfl dX11_lies_49 ?_
  refine sb_getC (pc' := 53) rfl fc_102_34 wd_1584 dX11_lies_50 ?_
  refine sb_iload_n (pc' := 54) rfl rfl dX11_lies_53 ?_
  refine sb_iconst (pc' := 55) rfl dX11_lies_54 ?_
  obtain ⟨o1, H⟩ := H
  refine sb_zast (pc' := 56) rfl aZ_118 o1.1 o1.2 (Or.inr rfl) dX11_lies_55 ?_
  refine sb_aload_n (pc' := 57) rfl rfl dX11_lies_56 ?_
  refine sb_getC (pc' := 60) rfl fc_102_36 wd_1586 dX11_lies_57 ?_
  refine sb_iload_n (pc' := 61) rfl rfl dX11_lies_60 ?_
  refine sb_iload_n (pc' := 62) rfl rfl dX11_lies_61 ?_
  refine sb_iast (pc' := 63) rfl aI_120 o1.1 o1.2  dX11_lies_62 ?_
  refine sb_aload_n (pc' := 64) rfl rfl dX11_lies_63 ?_
  refine sb_getC (pc' := 67) rfl fc_102_37 wd_1587 dX11_lies_64 ?_
  refine sb_iload_n (pc' := 68) rfl rfl dX11_lies_67 ?_
  refine sb_aload_n (pc' := 69) rfl rfl dX11_lies_68 ?_
  refine sb_getI (pc' := 72) rfl fi_102_43 wd_1593 dX11_lies_69 ?_
  refine sb_iast (pc' := 73) rfl aI_121 o1.1 o1.2  dX11_lies_72 ?_
  refine sb_aload_n (pc' := 74) rfl rfl dX11_lies_73 ?_
  refine sb_getC (pc' := 77) rfl fc_102_38 wd_1588 dX11_lies_74 ?_
  refine sb_iload_n (pc' := 78) rfl rfl dX11_lies_77 ?_
  refine sb_iload_n (pc' := 79) rfl rfl dX11_lies_78 ?_
  refine sb_iast (pc' := 80) rfl aI_122 o1.1 o1.2  dX11_lies_79 ?_
  refine sb_aload_n (pc' := 81) rfl rfl dX11_lies_80 ?_
  refine sb_getC (pc' := 84) rfl fc_102_39 wd_1589 dX11_lies_81 ?_
  refine sb_iload_n (pc' := 85) rfl rfl dX11_lies_84 ?_
  refine sb_iload (pc' := 87) rfl rfl dX11_lies_85 ?_
  refine sb_iast (pc' := 88) rfl aI_123 o1.1 o1.2  dX11_lies_87 ?_
  refine sb_aload_n (pc' := 89) rfl rfl dX11_lies_88 ?_
  refine sb_getC (pc' := 92) rfl fc_102_40 wd_1590 dX11_lies_89 ?_
  refine sb_iload_n (pc' := 93) rfl rfl dX11_lies_92 ?_
  refine sb_iload (pc' := 95) rfl rfl dX11_lies_93 ?_
  refine sb_iast (pc' := 96) rfl aI_124 o1.1 o1.2  dX11_lies_95 ?_
  exact sb_vret rfl dX11_lies_96 (H (SR_setI (SR_setI (SR_setI (SR_setI (SR_setI (SR_setI hS (iR_lit rfl)) hx2) (SR_sc (SR_setI (SR_setI hS (iR_lit rfl)) hx2) _ _)) hx3) hx4) hx5))
theorem bX11_goesOn_0 {g : AG} {ad : Nat → Nat} {d : Nat} {Q : AO → SG → Prop} {rc rs : Nat} {σ : SG} {x1 : Int}  (hx1 : iR x1) (hS : SR σ) (H : Cl g ad d mX11_setOf 0 0 [(.ref (ad 102)), (vi x1)] σ (Ki fun r1 s1 => (iR x1 → iR r1 → iR 0 → SR s1 → Wb g ad d mX11_goesOn Q 8 [some (.ref (ad 102)), some (vi x1), some (vi r1), some (vi 0), none] [] s1 rc rs))) : Wb g ad d mX11_goesOn Q 0 [some (.ref (ad 102)), some (vi x1), none, none, none] [] σ rc rs := by
  refine sb_aload_n (pc' := 1) rfl rfl dX11_goesOn_0 ?_
  refine sb_iload_n (pc' := 2) rfl rfl dX11_goesOn_1 ?_
  obtain ⟨d1, hd1, H⟩ := H
  refine sb_callV (pc' := 5) rfl rfl (rc := rc) (rs := rs) (mc' := 0) (ms' := 0) (As := [(vi x1)]) (st := []) of_102 rfl rfl (Nat.le_of_ble_eq_true rfl) hd1 kX11_setOf ⟨wd_2036, wd_2038, wd_150⟩ dX11_goesOn_2 (Eb.mono H ?_)
  rintro o s1 ⟨r1, rfl, hr1, hs1, H⟩
  show Wb g ad d mX11_goesOn Q 5 [some (.ref (ad 102)), some (vi x1), none, none, none] [(vi r1)] s1 rc rs
  refine sb_istore_n (pc' := 6) rfl (L' := [some (.ref (ad 102)), some (vi x1), some (vi r1), none, none]) rfl (by decide) dX11_goesOn_5 ?_
  refine sb_iconst (pc' := 7) rfl dX11_goesOn_6 ?_
  refine sb_istore_n (pc' := 8) rfl (L' := [some (.ref (ad 102)), some (vi x1), some (vi r1), some (vi 0), none]) rfl (by decide) dX11_goesOn_7 ?_
  exact (H hx1 hr1 (iR_lit rfl) hs1)
theorem bX11_goesOn_8 {g : AG} {ad : Nat → Nat} {d : Nat} {Q : AO → SG → Prop} {rc rs : Nat} {σ : SG} {x1 x2 x3 : Int}  (hx1 : iR x1) (hx2 : iR x2) (hx3 : iR x3) (hS : SR σ) (H : (((ia σ 103 3) ≤ x3 → (SR σ → Q (.inl none) σ)) ∧ (¬ (ia σ 103 3) ≤ x3 → Cl g ad d mX11_next 0 0 [(.ref (ad 102)), (vi ((-1)))] σ (Ki fun r1 s1 => (iR x1 → iR x2 → iR x3 → iR r1 → SR s1 → Wb g ad d mX11_goesOn Q 25 [some (.ref (ad 102)), some (vi x1), some (vi x2), some (vi x3), some (vi r1)] [] s1 rc rs))))) : Wb g ad d mX11_goesOn Q 8 [some (.ref (ad 102)), some (vi x1), some (vi x2), some (vi x3), none] [] σ rc rs := by
  refine sb_iload_n (pc' := 9) rfl rfl dX11_goesOn_8 ?_
  refine sb_aload_n (pc' := 10) rfl rfl dX11_goesOn_9 ?_
  refine sb_getC (pc' := 13) rfl fc_102_1 wd_1551 dX11_goesOn_10 ?_
  refine sb_iconst (pc' := 14) rfl dX11_goesOn_13 ?_
  refine sb_iald (pc' := 15) rfl aI_103 (by decide) (by decide) dX11_goesOn_14 ?_
  refine sb_icmp_ge (pc' := 18) (tgt := 128) rfl (by decide) hx3 (SR_ia hS _ _) dX11_goesOn_15 ?_ ?_
  · intro cc; have H := H.1 cc
    exact sb_vret rfl dX11_goesOn_128 (H hS)
  · intro cc; have H := H.2 cc
    refine sb_aload_n (pc' := 19) rfl rfl dX11_goesOn_18 ?_
    refine sb_iconst (pc' := 20) rfl dX11_goesOn_19 ?_
    obtain ⟨d1, hd1, H⟩ := H
    refine sb_callV (pc' := 23) rfl rfl (rc := rc) (rs := rs) (mc' := 0) (ms' := 0) (As := [(vi ((-1)))]) (st := []) of_102 rfl rfl (Nat.le_of_ble_eq_true rfl) hd1 kX11_next ⟨wd_1894, wd_1896, wd_133⟩ dX11_goesOn_20 (Eb.mono H ?_)
    rintro o s1 ⟨r1, rfl, hr1, hs1, H⟩
    show Wb g ad d mX11_goesOn Q 23 [some (.ref (ad 102)), some (vi x1), some (vi x2), some (vi x3), none] [(vi r1)] s1 rc rs
    refine sb_istore (pc' := 25) rfl (L' := [some (.ref (ad 102)), some (vi x1), some (vi x2), some (vi x3), some (vi r1)]) rfl (by decide) dX11_goesOn_23 ?_
    exact (H hx1 hx2 hx3 hr1 hs1)
theorem bX11_goesOn_25 {g : AG} {ad : Nat → Nat} {d : Nat} {Q : AO → SG → Prop} {rc rs : Nat} {σ : SG} {x1 x2 x3 x4 : Int}  (hx1 : iR x1) (hx2 : iR x2) (hx3 : iR x3) (hx4 : iR x4) (hS : SR σ) (H : ((99 < x4 → iR (x3 + 1) ∧ (iR x1 → iR x2 → iR (x3 + 1) → SR σ → Wb g ad d mX11_goesOn Q 8 [some (.ref (ad 102)), some (vi x1), some (vi x2), some (vi (x3 + 1)), none] [] σ rc rs)) ∧ (¬ 99 < x4 → Cl g ad d mX11_placeOf 0 0 [(.ref (ad 102)), (vi x1)] σ (Ki fun r2 s2 => Cl g ad d mX11_may 0 0 [(.ref (ad 102)), (vi x2), (vi r2), (vi x3), (vi x4)] s2 (Ki fun r3 s3 => ((¬ r3 = 0 → Cl g ad d mX11_placeOf 0 0 [(.ref (ad 102)), (vi x1)] s3 (Ki fun r4 s4 => Cl g ad d mX11_lastOf 0 0 [(.ref (ad 102)), (vi x1)] s4 (Ki fun r5 s5 => Cl g ad d mX11_weighs 0 0 [(.ref (ad 102)), (vi r4), (vi r5), (vi x3), (vi x4)] s5 (Kv fun s6 => Cl g ad d mX11_maskOf 0 0 [(.ref (ad 102)), (vi x4), (vi x3)] s6 (Ki fun r7 s7 => Cl g ad d mX11_covers 0 0 [(.ref (ad 102)), (vi x4)] s7 (Ki fun r8 s8 => Cl g ad d mX11_key 0 0 [(vi (bOr x2 r7)), (vi (x3 + r8)), (vi (sc s8 102 23))] s8 (Ki fun r9 s9 => (0 ≤ x1 ∧ x1 < 18816) ∧ Cl g ad d mX11_lies 0 0 [(.ref (ad 102)), (vi r9), (vi ((ia s9 120 x1) + (sc s9 102 22))), (vi x1), (vi x3), (vi x4)] s9 (Kv fun s11 => Cl g ad d mX11_next 0 0 [(.ref (ad 102)), (vi x4)] s11 (Ki fun r12 s12 => (iR x1 → iR x2 → iR x3 → iR r12 → SR s12 → Wb g ad d mX11_goesOn Q 25 [some (.ref (ad 102)), some (vi x1), some (vi x2), some (vi x3), some (vi r12)] [] s12 rc rs)))))))))) ∧ (r3 = 0 → Cl g ad d mX11_next 0 0 [(.ref (ad 102)), (vi x4)] s3 (Ki fun r13 s13 => (iR x1 → iR x2 → iR x3 → iR r13 → SR s13 → Wb g ad d mX11_goesOn Q 25 [some (.ref (ad 102)), some (vi x1), some (vi x2), some (vi x3), some (vi r13)] [] s13 rc rs))))))))) : Wb g ad d mX11_goesOn Q 25 [some (.ref (ad 102)), some (vi x1), some (vi x2), some (vi x3), some (vi x4)] [] σ rc rs := by
  refine sb_iload (pc' := 27) rfl rfl dX11_goesOn_25 ?_
  refine sb_bipush (pc' := 29) rfl (z := 99) (by decide) dX11_goesOn_27 ?_
  refine sb_icmp_gt (pc' := 32) (tgt := 122) rfl (by decide) hx4 (iR_lit rfl) dX11_goesOn_29 ?_ ?_
  · intro cc; have H := H.1 cc
    refine sb_iinc (pc' := 125) rfl rfl (L' := [some (.ref (ad 102)), some (vi x1), some (vi x2), some (vi (x3 + 1)), some (vi x4)]) rfl (by decide) dX11_goesOn_122 ?_
    refine sb_goto (tgt := 8) (by decide) dX11_goesOn_125 ?_
    obtain ⟨o1, H⟩ := H
    refine Wb.forget [true, true, true, true, false] ?_
    exact (H hx1 hx2 o1 hS)
  · intro cc; have H := H.2 cc
    refine sb_aload_n (pc' := 33) rfl rfl dX11_goesOn_32 ?_
    refine sb_iload_n (pc' := 34) rfl rfl dX11_goesOn_33 ?_
    refine sb_aload_n (pc' := 35) rfl rfl dX11_goesOn_34 ?_
    refine sb_iload_n (pc' := 36) rfl rfl dX11_goesOn_35 ?_
    obtain ⟨d2, hd2, H⟩ := H
    refine sb_callV (pc' := 39) rfl rfl (rc := rc) (rs := rs) (mc' := 0) (ms' := 0) (As := [(vi x1)]) (st := [(vi x2), (.ref (ad 102))]) of_102 rfl rfl (Nat.le_of_ble_eq_true rfl) hd2 kX11_placeOf ⟨wd_2055, wd_2057, wd_154⟩ dX11_goesOn_36 (Eb.mono H ?_)
    rintro o s2 ⟨r2, rfl, hr2, hs2, H⟩
    show Wb g ad d mX11_goesOn Q 39 [some (.ref (ad 102)), some (vi x1), some (vi x2), some (vi x3), some (vi x4)] [(vi r2), (vi x2), (.ref (ad 102))] s2 rc rs
    refine sb_iload_n (pc' := 40) rfl rfl dX11_goesOn_39 ?_
    refine sb_iload (pc' := 42) rfl rfl dX11_goesOn_40 ?_
    obtain ⟨d3, hd3, H⟩ := H
    refine sb_callV (pc' := 45) rfl rfl (rc := rc) (rs := rs) (mc' := 0) (ms' := 0) (As := [(vi x2), (vi r2), (vi x3), (vi x4)]) (st := []) of_102 rfl rfl (Nat.le_of_ble_eq_true rfl) hd3 kX11_may ⟨wd_1898, wd_1900, wd_134⟩ dX11_goesOn_42 (Eb.mono H ?_)
    rintro o s3 ⟨r3, rfl, hr3, hs3, H⟩
    show Wb g ad d mX11_goesOn Q 45 [some (.ref (ad 102)), some (vi x1), some (vi x2), some (vi x3), some (vi x4)] [(vi r3)] s3 rc rs
    refine sb_if_ne (pc' := 48) (tgt := 51) rfl (by decide) hr3 dX11_goesOn_45 ?_ ?_
    · intro cc; have H := H.1 cc
      refine sb_aload_n (pc' := 52) rfl rfl dX11_goesOn_51 ?_
      refine sb_aload_n (pc' := 53) rfl rfl dX11_goesOn_52 ?_
      refine sb_iload_n (pc' := 54) rfl rfl dX11_goesOn_53 ?_
      obtain ⟨d4, hd4, H⟩ := H
      refine sb_callV (pc' := 57) rfl rfl (rc := rc) (rs := rs) (mc' := 0) (ms' := 0) (As := [(vi x1)]) (st := [(.ref (ad 102))]) of_102 rfl rfl (Nat.le_of_ble_eq_true rfl) hd4 kX11_placeOf ⟨wd_2055, wd_2057, wd_154⟩ dX11_goesOn_54 (Eb.mono H ?_)
      rintro o s4 ⟨r4, rfl, hr4, hs4, H⟩
      show Wb g ad d mX11_goesOn Q 57 [some (.ref (ad 102)), some (vi x1), some (vi x2), some (vi x3), some (vi x4)] [(vi r4), (.ref (ad 102))] s4 rc rs
      refine sb_aload_n (pc' := 58) rfl rfl dX11_goesOn_57 ?_
      refine sb_iload_n (pc' := 59) rfl rfl dX11_goesOn_58 ?_
      obtain ⟨d5, hd5, H⟩ := H
      refine sb_callV (pc' := 62) rfl rfl (rc := rc) (rs := rs) (mc' := 0) (ms' := 0) (As := [(vi x1)]) (st := [(vi r4), (.ref (ad 102))]) of_102 rfl rfl (Nat.le_of_ble_eq_true rfl) hd5 kX11_lastOf ⟨wd_2059, wd_2061, wd_155⟩ dX11_goesOn_59 (Eb.mono H ?_)
      rintro o s5 ⟨r5, rfl, hr5, hs5, H⟩
      show Wb g ad d mX11_goesOn Q 62 [some (.ref (ad 102)), some (vi x1), some (vi x2), some (vi x3), some (vi x4)] [(vi r5), (vi r4), (.ref (ad 102))] s5 rc rs
      refine sb_iload_n (pc' := 63) rfl rfl dX11_goesOn_62 ?_
      refine sb_iload (pc' := 65) rfl rfl dX11_goesOn_63 ?_
      obtain ⟨d6, hd6, H⟩ := H
      refine sb_callV (pc' := 68) rfl rfl (rc := rc) (rs := rs) (mc' := 0) (ms' := 0) (As := [(vi r4), (vi r5), (vi x3), (vi x4)]) (st := []) of_102 rfl rfl (Nat.le_of_ble_eq_true rfl) hd6 kX11_weighs ⟨wd_1909, wd_1911, wd_136⟩ dX11_goesOn_65 (Eb.mono H ?_)
      rintro o s6 ⟨rfl, hs6, H⟩
      show Wb g ad d mX11_goesOn Q 68 [some (.ref (ad 102)), some (vi x1), some (vi x2), some (vi x3), some (vi x4)] [] s6 rc rs
      refine sb_aload_n (pc' := 69) rfl rfl dX11_goesOn_68 ?_
      refine sb_iload_n (pc' := 70) rfl rfl dX11_goesOn_69 ?_
      refine sb_aload_n (pc' := 71) rfl rfl dX11_goesOn_70 ?_
      refine sb_iload (pc' := 73) rfl rfl dX11_goesOn_71 ?_
      refine sb_iload_n (pc' := 74) rfl rfl dX11_goesOn_73 ?_
      obtain ⟨d7, hd7, H⟩ := H
      refine sb_callV (pc' := 77) rfl rfl (rc := rc) (rs := rs) (mc' := 0) (ms' := 0) (As := [(vi x4), (vi x3)]) (st := [(vi x2), (.ref (ad 102))]) of_102 rfl rfl (Nat.le_of_ble_eq_true rfl) hd7 kX11_maskOf ⟨wd_1905, wd_1907, wd_135⟩ dX11_goesOn_74 (Eb.mono H ?_)
      rintro o s7 ⟨r7, rfl, hr7, hs7, H⟩
      show Wb g ad d mX11_goesOn Q 77 [some (.ref (ad 102)), some (vi x1), some (vi x2), some (vi x3), some (vi x4)] [(vi r7), (vi x2), (.ref (ad 102))] s7 rc rs
      refine sb_ior (pc' := 78) rfl dX11_goesOn_77 ?_
      refine sb_iload_n (pc' := 79) rfl rfl dX11_goesOn_78 ?_
      refine sb_aload_n (pc' := 80) rfl rfl dX11_goesOn_79 ?_
      refine sb_iload (pc' := 82) rfl rfl dX11_goesOn_80 ?_
      obtain ⟨d8, hd8, H⟩ := H
      refine sb_callV (pc' := 85) rfl rfl (rc := rc) (rs := rs) (mc' := 0) (ms' := 0) (As := [(vi x4)]) (st := [(vi x3), (vi (bOr x2 r7)), (.ref (ad 102))]) of_102 rfl rfl (Nat.le_of_ble_eq_true rfl) hd8 kX11_covers ⟨wd_1862, wd_1864, wd_126⟩ dX11_goesOn_82 (Eb.mono H ?_)
      rintro o s8 ⟨r8, rfl, hr8, hs8, H⟩
      show Wb g ad d mX11_goesOn Q 85 [some (.ref (ad 102)), some (vi x1), some (vi x2), some (vi x3), some (vi x4)] [(vi r8), (vi x3), (vi (bOr x2 r7)), (.ref (ad 102))] s8 rc rs
      refine sb_iadd (pc' := 86) rfl dX11_goesOn_85 ?_
      refine sb_aload_n (pc' := 87) rfl rfl dX11_goesOn_86 ?_
      refine sb_getI (pc' := 90) rfl fi_102_23 wd_1573 dX11_goesOn_87 ?_
      obtain ⟨d9, hd9, H⟩ := H
      refine sb_callS (pc' := 93) rfl rfl (rc := rc) (rs := rs) (mc' := 0) (ms' := 0) (As := [(vi (bOr x2 r7)), (vi (x3 + r8)), (vi (sc s8 102 23))]) (st := [(.ref (ad 102))])  rfl rfl (Nat.le_of_ble_eq_true rfl) hd9 kX11_key ⟨wd_1890, wd_1891⟩ dX11_goesOn_90 (Eb.mono H ?_)
      rintro o s9 ⟨r9, rfl, hr9, hs9, H⟩
      show Wb g ad d mX11_goesOn Q 93 [some (.ref (ad 102)), some (vi x1), some (vi x2), some (vi x3), some (vi x4)] [(vi r9), (.ref (ad 102))] s9 rc rs
      refine sb_aload_n (pc' := 94) rfl rfl dX11_goesOn_93 ?_
      refine sb_getC (pc' := 97) rfl fc_102_36 wd_1586 dX11_goesOn_94 ?_
      refine sb_iload_n (pc' := 98) rfl rfl dX11_goesOn_97 ?_
      obtain ⟨o10, H⟩ := H
      refine sb_iald (pc' := 99) rfl aI_120 o10.1 o10.2 dX11_goesOn_98 ?_
      refine sb_aload_n (pc' := 100) rfl rfl dX11_goesOn_99 ?_
      refine sb_getI (pc' := 103) rfl fi_102_22 wd_1572 dX11_goesOn_100 ?_
      refine sb_iadd (pc' := 104) rfl dX11_goesOn_103 ?_
      refine sb_iload_n (pc' := 105) rfl rfl dX11_goesOn_104 ?_
      refine sb_iload_n (pc' := 106) rfl rfl dX11_goesOn_105 ?_
      refine sb_iload (pc' := 108) rfl rfl dX11_goesOn_106 ?_
      obtain ⟨d11, hd11, H⟩ := H
      refine sb_callV (pc' := 111) rfl rfl (rc := rc) (rs := rs) (mc' := 0) (ms' := 0) (As := [(vi r9), (vi ((ia s9 120 x1) + (sc s9 102 22))), (vi x1), (vi x3), (vi x4)]) (st := []) of_102 rfl rfl (Nat.le_of_ble_eq_true rfl) hd11 kX11_lies ⟨wd_2021, wd_2023, wd_147⟩ dX11_goesOn_108 (Eb.mono H ?_)
      rintro o s11 ⟨rfl, hs11, H⟩
      show Wb g ad d mX11_goesOn Q 111 [some (.ref (ad 102)), some (vi x1), some (vi x2), some (vi x3), some (vi x4)] [] s11 rc rs
      refine sb_aload_n (pc' := 112) rfl rfl dX11_goesOn_111 ?_
      refine sb_iload (pc' := 114) rfl rfl dX11_goesOn_112 ?_
      obtain ⟨d12, hd12, H⟩ := H
      refine sb_callV (pc' := 117) rfl rfl (rc := rc) (rs := rs) (mc' := 0) (ms' := 0) (As := [(vi x4)]) (st := []) of_102 rfl rfl (Nat.le_of_ble_eq_true rfl) hd12 kX11_next ⟨wd_1894, wd_1896, wd_133⟩ dX11_goesOn_114 (Eb.mono H ?_)
      rintro o s12 ⟨r12, rfl, hr12, hs12, H⟩
      show Wb g ad d mX11_goesOn Q 117 [some (.ref (ad 102)), some (vi x1), some (vi x2), some (vi x3), some (vi x4)] [(vi r12)] s12 rc rs
      refine sb_istore (pc' := 119) rfl (L' := [some (.ref (ad 102)), some (vi x1), some (vi x2), some (vi x3), some (vi r12)]) rfl (by decide) dX11_goesOn_117 ?_
      refine sb_goto (tgt := 25) (by decide) dX11_goesOn_119 ?_
      exact (H hx1 hx2 hx3 hr12 hs12)
    · intro cc; have H := H.2 cc
      refine sb_goto (tgt := 111) (by decide) dX11_goesOn_48 ?_
      refine sb_aload_n (pc' := 112) rfl rfl dX11_goesOn_111 ?_
      refine sb_iload (pc' := 114) rfl rfl dX11_goesOn_112 ?_
      obtain ⟨d13, hd13, H⟩ := H
      refine sb_callV (pc' := 117) rfl rfl (rc := rc) (rs := rs) (mc' := 0) (ms' := 0) (As := [(vi x4)]) (st := []) of_102 rfl rfl (Nat.le_of_ble_eq_true rfl) hd13 kX11_next ⟨wd_1894, wd_1896, wd_133⟩ dX11_goesOn_114 (Eb.mono H ?_)
      rintro o s13 ⟨r13, rfl, hr13, hs13, H⟩
      show Wb g ad d mX11_goesOn Q 117 [some (.ref (ad 102)), some (vi x1), some (vi x2), some (vi x3), some (vi x4)] [(vi r13)] s13 rc rs
      refine sb_istore (pc' := 119) rfl (L' := [some (.ref (ad 102)), some (vi x1), some (vi x2), some (vi x3), some (vi r13)]) rfl (by decide) dX11_goesOn_117 ?_
      refine sb_goto (tgt := 25) (by decide) dX11_goesOn_119 ?_
      exact (H hx1 hx2 hx3 hr13 hs13)
theorem bX11_nextOf_0 {g : AG} {ad : Nat → Nat} {d : Nat} {Q : AO → SG → Prop} {rc rs : Nat} {σ : SG} {x1 : Int}  (hx1 : iR x1) (hS : SR σ) (H : (iR x1 → iR ((-1)) → iR 0 → iR 0 → SR σ → Wb g ad d mX11_nextOf Q 7 [some (.ref (ad 102)), some (vi x1), some (vi ((-1))), some (vi 0), some (vi 0), none, none] [] σ rc rs)) : Wb g ad d mX11_nextOf Q 0 [some (.ref (ad 102)), some (vi x1), none, none, none, none, none] [] σ rc rs := by
  refine sb_iconst (pc' := 1) rfl dX11_nextOf_0 ?_
  refine sb_istore_n (pc' := 2) rfl (L' := [some (.ref (ad 102)), some (vi x1), some (vi ((-1))), none, none, none, none]) rfl (by decide) dX11_nextOf_1 ?_
  refine sb_iconst (pc' := 3) rfl dX11_nextOf_2 ?_
  refine sb_istore_n (pc' := 4) rfl (L' := [some (.ref (ad 102)), some (vi x1), some (vi ((-1))), some (vi 0), none, none, none]) rfl (by decide) dX11_nextOf_3 ?_
  refine sb_iconst (pc' := 5) rfl dX11_nextOf_4 ?_
  refine sb_istore (pc' := 7) rfl (L' := [some (.ref (ad 102)), some (vi x1), some (vi ((-1))), some (vi 0), some (vi 0), none, none]) rfl (by decide) dX11_nextOf_5 ?_
  exact (H hx1 (iR_lit rfl) (iR_lit rfl) (iR_lit rfl) hS)
theorem bX11_nextOf_7 {g : AG} {ad : Nat → Nat} {d : Nat} {Q : AO → SG → Prop} {rc rs : Nat} {σ : SG} {x1 x2 x3 x4 : Int}  (hx1 : iR x1) (hx2 : iR x2) (hx3 : iR x3) (hx4 : iR x4) (hS : SR σ) (H : Cl g ad d mX11_full 0 0 [(.ref (ad 102))] σ (Ki fun r1 s1 => ((r1 < x4 → (iR x2 → SR s1 → Q (.inl (some (vi x2))) s1)) ∧ (¬ r1 < x4 → Cl g ad d mX11_bits 0 0 [(vi x4)] s1 (Ki fun r2 s2 => ((r2 = x1 → iR (294 * x4) ∧ (iR x1 → iR x2 → iR x3 → iR x4 → iR (294 * x4) → SR s2 → Wb g ad d mX11_nextOf Q 36 [some (.ref (ad 102)), some (vi x1), some (vi x2), some (vi x3), some (vi x4), some (vi (294 * x4)), none] [] s2 rc rs)) ∧ (¬ r2 = x1 → iR (x4 + 1) ∧ (iR x1 → iR x2 → iR x3 → iR (x4 + 1) → SR s2 → Wb g ad d mX11_nextOf Q 7 [some (.ref (ad 102)), some (vi x1), some (vi x2), some (vi x3), some (vi (x4 + 1)), none, none] [] s2 rc rs)))))))) : Wb g ad d mX11_nextOf Q 7 [some (.ref (ad 102)), some (vi x1), some (vi x2), some (vi x3), some (vi x4), none, none] [] σ rc rs := by
  refine sb_iload (pc' := 9) rfl rfl dX11_nextOf_7 ?_
  refine sb_aload_n (pc' := 10) rfl rfl dX11_nextOf_9 ?_
  obtain ⟨d1, hd1, H⟩ := H
  refine sb_callV (pc' := 13) rfl rfl (rc := rc) (rs := rs) (mc' := 0) (ms' := 0) (As := []) (st := [(vi x4)]) of_102 rfl rfl (Nat.le_of_ble_eq_true rfl) hd1 kX11_full ⟨wd_1882, wd_1884, wd_131⟩ dX11_nextOf_10 (Eb.mono H ?_)
  rintro o s1 ⟨r1, rfl, hr1, hs1, H⟩
  show Wb g ad d mX11_nextOf Q 13 [some (.ref (ad 102)), some (vi x1), some (vi x2), some (vi x3), some (vi x4), none, none] [(vi r1), (vi x4)] s1 rc rs
  refine sb_icmp_gt (pc' := 16) (tgt := 136) rfl (by decide) hx4 hr1 dX11_nextOf_13 ?_ ?_
  · intro cc; have H := H.1 cc
    refine sb_iload_n (pc' := 137) rfl rfl dX11_nextOf_136 ?_
    exact sb_iret rfl rfl dX11_nextOf_137 (H hx2 hs1)
  · intro cc; have H := H.2 cc
    refine sb_iload (pc' := 18) rfl rfl dX11_nextOf_16 ?_
    obtain ⟨d2, hd2, H⟩ := H
    refine sb_callS (pc' := 21) rfl rfl (rc := rc) (rs := rs) (mc' := 0) (ms' := 0) (As := [(vi x4)]) (st := [])  rfl rfl (Nat.le_of_ble_eq_true rfl) hd2 kX11_bits ⟨wd_2029, wd_2030⟩ dX11_nextOf_18 (Eb.mono H ?_)
    rintro o s2 ⟨r2, rfl, hr2, hs2, H⟩
    show Wb g ad d mX11_nextOf Q 21 [some (.ref (ad 102)), some (vi x1), some (vi x2), some (vi x3), some (vi x4), none, none] [(vi r2)] s2 rc rs
    refine sb_iload_n (pc' := 22) rfl rfl dX11_nextOf_21 ?_
    refine sb_icmp_eq (pc' := 25) (tgt := 28) rfl (by decide) hr2 hx1 dX11_nextOf_22 ?_ ?_
    · intro cc; have H := H.1 cc
      refine sb_sipush (pc' := 31) rfl (z := 294) (by decide) dX11_nextOf_28 ?_
      refine sb_iload (pc' := 33) rfl rfl dX11_nextOf_31 ?_
      refine sb_imul (pc' := 34) rfl dX11_nextOf_33 ?_
      refine sb_istore (pc' := 36) rfl (L' := [some (.ref (ad 102)), some (vi x1), some (vi x2), some (vi x3), some (vi x4), some (vi (294 * x4)), none]) rfl (by decide) dX11_nextOf_34 ?_
      obtain ⟨o3, H⟩ := H
      exact (H hx1 hx2 hx3 hx4 o3 hs2)
    · intro cc; have H := H.2 cc
      refine sb_goto (tgt := 130) (by decide) dX11_nextOf_25 ?_
      refine sb_iinc (pc' := 133) rfl rfl (L' := [some (.ref (ad 102)), some (vi x1), some (vi x2), some (vi x3), some (vi (x4 + 1)), none, none]) rfl (by decide) dX11_nextOf_130 ?_
      refine sb_goto (tgt := 7) (by decide) dX11_nextOf_133 ?_
      obtain ⟨o4, H⟩ := H
      exact (H hx1 hx2 hx3 o4 hs2)
theorem bX11_nextOf_36 {g : AG} {ad : Nat → Nat} {d : Nat} {Q : AO → SG → Prop} {rc rs : Nat} {σ : SG} {x1 x2 x3 x4 x5 : Int}  (hx1 : iR x1) (hx2 : iR x2) (hx3 : iR x3) (hx4 : iR x4) (hx5 : iR x5) (hS : SR σ) (H : iR ((294 * x4) + 294) ∧ ((((294 * x4) + 294) ≤ x5 → iR (x4 + 1) ∧ (iR x1 → iR x2 → iR x3 → iR (x4 + 1) → SR σ → Wb g ad d mX11_nextOf Q 7 [some (.ref (ad 102)), some (vi x1), some (vi x2), some (vi x3), some (vi (x4 + 1)), none, none] [] σ rc rs)) ∧ (¬ ((294 * x4) + 294) ≤ x5 → (0 ≤ x5 ∧ x5 < 18816) ∧ (((ia σ 118 x5) = 0 → iR (x5 + 1) ∧ (iR x1 → iR x2 → iR x3 → iR x4 → iR (x5 + 1) → SR σ → Wb g ad d mX11_nextOf Q 36 [some (.ref (ad 102)), some (vi x1), some (vi x2), some (vi x3), some (vi x4), some (vi (x5 + 1)), none] [] σ rc rs)) ∧ (¬ (ia σ 118 x5) = 0 → (((ia σ 119 x5) = 0 → Cl g ad d mX11_scoreOf 0 0 [(.ref (ad 102)), (vi x5)] σ (Ki fun r5 s5 => ((x2 = ((-1)) → iR (x5 + 1) ∧ (iR x1 → iR x5 → iR r5 → iR x4 → iR (x5 + 1) → SR s5 → Wb g ad d mX11_nextOf Q 36 [some (.ref (ad 102)), some (vi x1), some (vi x5), some (vi r5), some (vi x4), some (vi (x5 + 1)), none] [] s5 rc rs)) ∧ (¬ x2 = ((-1)) → ((x3 < r5 → iR (x5 + 1) ∧ (iR x1 → iR x2 → iR x3 → iR x4 → iR (x5 + 1) → SR s5 → Wb g ad d mX11_nextOf Q 36 [some (.ref (ad 102)), some (vi x1), some (vi x2), some (vi x3), some (vi x4), some (vi (x5 + 1)), none] [] s5 rc rs)) ∧ (¬ x3 < r5 → ((¬ r5 = x3 → iR (x5 + 1) ∧ (iR x1 → iR x5 → iR r5 → iR x4 → iR (x5 + 1) → SR s5 → Wb g ad d mX11_nextOf Q 36 [some (.ref (ad 102)), some (vi x1), some (vi x5), some (vi r5), some (vi x4), some (vi (x5 + 1)), none] [] s5 rc rs)) ∧ (r5 = x3 → (0 ≤ x2 ∧ x2 < 18816) ∧ (((ia s5 121 x5) ≤ (ia s5 121 x2) → iR (x5 + 1) ∧ (iR x1 → iR x5 → iR r5 → iR x4 → iR (x5 + 1) → SR s5 → Wb g ad d mX11_nextOf Q 36 [some (.ref (ad 102)), some (vi x1), some (vi x5), some (vi r5), some (vi x4), some (vi (x5 + 1)), none] [] s5 rc rs)) ∧ (¬ (ia s5 121 x5) ≤ (ia s5 121 x2) → iR (x5 + 1) ∧ (iR x1 → iR x2 → iR x3 → iR x4 → iR (x5 + 1) → SR s5 → Wb g ad d mX11_nextOf Q 36 [some (.ref (ad 102)), some (vi x1), some (vi x2), some (vi x3), some (vi x4), some (vi (x5 + 1)), none] [] s5 rc rs))))))))))) ∧ (¬ (ia σ 119 x5) = 0 → iR (x5 + 1) ∧ (iR x1 → iR x2 → iR x3 → iR x4 → iR (x5 + 1) → SR σ → Wb g ad d mX11_nextOf Q 36 [some (.ref (ad 102)), some (vi x1), some (vi x2), some (vi x3), some (vi x4), some (vi (x5 + 1)), none] [] σ rc rs)))))))) : Wb g ad d mX11_nextOf Q 36 [some (.ref (ad 102)), some (vi x1), some (vi x2), some (vi x3), some (vi x4), some (vi x5), none] [] σ rc rs := by
  refine sb_iload (pc' := 38) rfl rfl dX11_nextOf_36 ?_
  refine sb_sipush (pc' := 41) rfl (z := 294) (by decide) dX11_nextOf_38 ?_
  refine sb_iload (pc' := 43) rfl rfl dX11_nextOf_41 ?_
  refine sb_imul (pc' := 44) rfl dX11_nextOf_43 ?_
  refine sb_sipush (pc' := 47) rfl (z := 294) (by decide) dX11_nextOf_44 ?_
  refine sb_iadd (pc' := 48) rfl dX11_nextOf_47 ?_
  obtain ⟨o1, H⟩ := H
  refine sb_icmp_ge (pc' := 51) (tgt := 130) rfl (by decide) hx5 o1 dX11_nextOf_48 ?_ ?_
  · intro cc; have H := H.1 cc
    refine sb_iinc (pc' := 133) rfl rfl (L' := [some (.ref (ad 102)), some (vi x1), some (vi x2), some (vi x3), some (vi (x4 + 1)), some (vi x5), none]) rfl (by decide) dX11_nextOf_130 ?_
    refine sb_goto (tgt := 7) (by decide) dX11_nextOf_133 ?_
    obtain ⟨o2, H⟩ := H
    refine Wb.forget [true, true, true, true, true, false, false] ?_
    exact (H hx1 hx2 hx3 o2 hS)
  · intro cc; have H := H.2 cc
    refine sb_aload_n (pc' := 52) rfl rfl dX11_nextOf_51 ?_
    refine sb_getC (pc' := 55) rfl fc_102_34 wd_1584 dX11_nextOf_52 ?_
    refine sb_iload (pc' := 57) rfl rfl dX11_nextOf_55 ?_
    obtain ⟨o3, H⟩ := H
    refine sb_zald (pc' := 58) rfl aZ_118 o3.1 o3.2 dX11_nextOf_57 ?_
    refine sb_if_eq (pc' := 61) (tgt := 124) rfl (by decide) (SR_ia hS _ _) dX11_nextOf_58 ?_ ?_
    · intro cc; have H := H.1 cc
      refine sb_iinc (pc' := 127) rfl rfl (L' := [some (.ref (ad 102)), some (vi x1), some (vi x2), some (vi x3), some (vi x4), some (vi (x5 + 1)), none]) rfl (by decide) dX11_nextOf_124 ?_
      refine sb_goto (tgt := 36) (by decide) dX11_nextOf_127 ?_
      obtain ⟨o4, H⟩ := H
      exact (H hx1 hx2 hx3 hx4 o4 hS)
    · intro cc; have H := H.2 cc
      refine sb_aload_n (pc' := 62) rfl rfl dX11_nextOf_61 ?_
      refine sb_getC (pc' := 65) rfl fc_102_35 wd_1585 dX11_nextOf_62 ?_
      refine sb_iload (pc' := 67) rfl rfl dX11_nextOf_65 ?_
      refine sb_zald (pc' := 68) rfl aZ_119 o3.1 o3.2 dX11_nextOf_67 ?_
      refine sb_if_eq (pc' := 71) (tgt := 74) rfl (by decide) (SR_ia hS _ _) dX11_nextOf_68 ?_ ?_
      · intro cc; have H := H.1 cc
        refine sb_aload_n (pc' := 75) rfl rfl dX11_nextOf_74 ?_
        refine sb_iload (pc' := 77) rfl rfl dX11_nextOf_75 ?_
        obtain ⟨d5, hd5, H⟩ := H
        refine sb_callV (pc' := 80) rfl rfl (rc := rc) (rs := rs) (mc' := 0) (ms' := 0) (As := [(vi x5)]) (st := []) of_102 rfl rfl (Nat.le_of_ble_eq_true rfl) hd5 kX11_scoreOf ⟨wd_2032, wd_2034, wd_149⟩ dX11_nextOf_77 (Eb.mono H ?_)
        rintro o s5 ⟨r5, rfl, hr5, hs5, H⟩
        show Wb g ad d mX11_nextOf Q 80 [some (.ref (ad 102)), some (vi x1), some (vi x2), some (vi x3), some (vi x4), some (vi x5), none] [(vi r5)] s5 rc rs
        refine sb_istore (pc' := 82) rfl (L' := [some (.ref (ad 102)), some (vi x1), some (vi x2), some (vi x3), some (vi x4), some (vi x5), some (vi r5)]) rfl (by decide) dX11_nextOf_80 ?_
        refine sb_iload_n (pc' := 83) rfl rfl dX11_nextOf_82 ?_
        refine sb_iconst (pc' := 84) rfl dX11_nextOf_83 ?_
        refine sb_icmp_eq (pc' := 87) (tgt := 118) rfl (by decide) hx2 (iR_lit rfl) dX11_nextOf_84 ?_ ?_
        · intro cc; have H := H.1 cc
          refine sb_iload (pc' := 120) rfl rfl dX11_nextOf_118 ?_
          refine sb_istore_n (pc' := 121) rfl (L' := [some (.ref (ad 102)), some (vi x1), some (vi x5), some (vi x3), some (vi x4), some (vi x5), some (vi r5)]) rfl (by decide) dX11_nextOf_120 ?_
          refine sb_iload (pc' := 123) rfl rfl dX11_nextOf_121 ?_
          refine sb_istore_n (pc' := 124) rfl (L' := [some (.ref (ad 102)), some (vi x1), some (vi x5), some (vi r5), some (vi x4), some (vi x5), some (vi r5)]) rfl (by decide) dX11_nextOf_123 ?_
          refine sb_iinc (pc' := 127) rfl rfl (L' := [some (.ref (ad 102)), some (vi x1), some (vi x5), some (vi r5), some (vi x4), some (vi (x5 + 1)), some (vi r5)]) rfl (by decide) dX11_nextOf_124 ?_
          refine sb_goto (tgt := 36) (by decide) dX11_nextOf_127 ?_
          obtain ⟨o6, H⟩ := H
          refine Wb.forget [true, true, true, true, true, true, false] ?_
          exact (H hx1 hx5 hr5 hx4 o6 hs5)
        · intro cc; have H := H.2 cc
          refine sb_iload (pc' := 89) rfl rfl dX11_nextOf_87 ?_
          refine sb_iload_n (pc' := 90) rfl rfl dX11_nextOf_89 ?_
          refine sb_icmp_gt (pc' := 93) (tgt := 124) rfl (by decide) hr5 hx3 dX11_nextOf_90 ?_ ?_
          · intro cc; have H := H.1 cc
            refine sb_iinc (pc' := 127) rfl rfl (L' := [some (.ref (ad 102)), some (vi x1), some (vi x2), some (vi x3), some (vi x4), some (vi (x5 + 1)), some (vi r5)]) rfl (by decide) dX11_nextOf_124 ?_
            refine sb_goto (tgt := 36) (by decide) dX11_nextOf_127 ?_
            obtain ⟨o7, H⟩ := H
            refine Wb.forget [true, true, true, true, true, true, false] ?_
            exact (H hx1 hx2 hx3 hx4 o7 hs5)
          · intro cc; have H := H.2 cc
            refine sb_iload (pc' := 95) rfl rfl dX11_nextOf_93 ?_
            refine sb_iload_n (pc' := 96) rfl rfl dX11_nextOf_95 ?_
            refine sb_icmp_ne (pc' := 99) (tgt := 118) rfl (by decide) hr5 hx3 dX11_nextOf_96 ?_ ?_
            · intro cc; have H := H.1 cc
              refine sb_iload (pc' := 120) rfl rfl dX11_nextOf_118 ?_
              refine sb_istore_n (pc' := 121) rfl (L' := [some (.ref (ad 102)), some (vi x1), some (vi x5), some (vi x3), some (vi x4), some (vi x5), some (vi r5)]) rfl (by decide) dX11_nextOf_120 ?_
              refine sb_iload (pc' := 123) rfl rfl dX11_nextOf_121 ?_
              refine sb_istore_n (pc' := 124) rfl (L' := [some (.ref (ad 102)), some (vi x1), some (vi x5), some (vi r5), some (vi x4), some (vi x5), some (vi r5)]) rfl (by decide) dX11_nextOf_123 ?_
              refine sb_iinc (pc' := 127) rfl rfl (L' := [some (.ref (ad 102)), some (vi x1), some (vi x5), some (vi r5), some (vi x4), some (vi (x5 + 1)), some (vi r5)]) rfl (by decide) dX11_nextOf_124 ?_
              refine sb_goto (tgt := 36) (by decide) dX11_nextOf_127 ?_
              obtain ⟨o8, H⟩ := H
              refine Wb.forget [true, true, true, true, true, true, false] ?_
              exact (H hx1 hx5 hr5 hx4 o8 hs5)
            · intro cc; have H := H.2 cc
              refine sb_aload_n (pc' := 100) rfl rfl dX11_nextOf_99 ?_
              refine sb_getC (pc' := 103) rfl fc_102_37 wd_1587 dX11_nextOf_100 ?_
              refine sb_iload (pc' := 105) rfl rfl dX11_nextOf_103 ?_
              refine sb_iald (pc' := 106) rfl aI_121 o3.1 o3.2 dX11_nextOf_105 ?_
              refine sb_aload_n (pc' := 107) rfl rfl dX11_nextOf_106 ?_
              refine sb_getC (pc' := 110) rfl fc_102_37 wd_1587 dX11_nextOf_107 ?_
              refine sb_iload_n (pc' := 111) rfl rfl dX11_nextOf_110 ?_
              obtain ⟨o9, H⟩ := H
              refine sb_iald (pc' := 112) rfl aI_121 o9.1 o9.2 dX11_nextOf_111 ?_
              refine sb_icmp_le (pc' := 115) (tgt := 118) rfl (by decide) (SR_ia hs5 _ _) (SR_ia hs5 _ _) dX11_nextOf_112 ?_ ?_
              · intro cc; have H := H.1 cc
                refine sb_iload (pc' := 120) rfl rfl dX11_nextOf_118 ?_
                refine sb_istore_n (pc' := 121) rfl (L' := [some (.ref (ad 102)), some (vi x1), some (vi x5), some (vi x3), some (vi x4), some (vi x5), some (vi r5)]) rfl (by decide) dX11_nextOf_120 ?_
                refine sb_iload (pc' := 123) rfl rfl dX11_nextOf_121 ?_
                refine sb_istore_n (pc' := 124) rfl (L' := [some (.ref (ad 102)), some (vi x1), some (vi x5), some (vi r5), some (vi x4), some (vi x5), some (vi r5)]) rfl (by decide) dX11_nextOf_123 ?_
                refine sb_iinc (pc' := 127) rfl rfl (L' := [some (.ref (ad 102)), some (vi x1), some (vi x5), some (vi r5), some (vi x4), some (vi (x5 + 1)), some (vi r5)]) rfl (by decide) dX11_nextOf_124 ?_
                refine sb_goto (tgt := 36) (by decide) dX11_nextOf_127 ?_
                obtain ⟨o10, H⟩ := H
                refine Wb.forget [true, true, true, true, true, true, false] ?_
                exact (H hx1 hx5 hr5 hx4 o10 hs5)
              · intro cc; have H := H.2 cc
                refine sb_goto (tgt := 124) (by decide) dX11_nextOf_115 ?_
                refine sb_iinc (pc' := 127) rfl rfl (L' := [some (.ref (ad 102)), some (vi x1), some (vi x2), some (vi x3), some (vi x4), some (vi (x5 + 1)), some (vi r5)]) rfl (by decide) dX11_nextOf_124 ?_
                refine sb_goto (tgt := 36) (by decide) dX11_nextOf_127 ?_
                obtain ⟨o11, H⟩ := H
                refine Wb.forget [true, true, true, true, true, true, false] ?_
                exact (H hx1 hx2 hx3 hx4 o11 hs5)
      · intro cc; have H := H.2 cc
        refine sb_goto (tgt := 124) (by decide) dX11_nextOf_71 ?_
        refine sb_iinc (pc' := 127) rfl rfl (L' := [some (.ref (ad 102)), some (vi x1), some (vi x2), some (vi x3), some (vi x4), some (vi (x5 + 1)), none]) rfl (by decide) dX11_nextOf_124 ?_
        refine sb_goto (tgt := 36) (by decide) dX11_nextOf_127 ?_
        obtain ⟨o12, H⟩ := H
        exact (H hx1 hx2 hx3 hx4 o12 hS)
theorem bX11_counts_0 {g : AG} {ad : Nat → Nat} {d : Nat} {Q : AO → SG → Prop} {rc rs : Nat} {σ : SG} {x1 : Int}  (hx1 : iR x1) (hS : SR σ) (H : (0 ≤ x1 ∧ x1 < 7) ∧ (iR x1 → iR 0 → SR (setI (setI σ 125 x1 0) 126 x1 ((-1))) → Wb g ad d mX11_counts Q 16 [some (.ref (ad 102)), some (vi x1), some (vi 0), none, none] [] (setI (setI σ 125 x1 0) 126 x1 ((-1))) rc rs)) : Wb g ad d mX11_counts Q 0 [some (.ref (ad 102)), some (vi x1), none, none, none] [] σ rc rs := by
  refine sb_aload_n (pc' := 1) rfl rfl dX11_counts_0 ?_
  refine sb_getC (pc' := 4) rfl fc_102_41 wd_1591 dX11_counts_1 ?_
  refine sb_iload_n (pc' := 5) rfl rfl dX11_counts_4 ?_
  refine sb_iconst (pc' := 6) rfl dX11_counts_5 ?_
  obtain ⟨o1, H⟩ := H
  refine sb_iast (pc' := 7) rfl aI_125 o1.1 o1.2  dX11_counts_6 ?_
  refine sb_aload_n (pc' := 8) rfl rfl dX11_counts_7 ?_
  refine sb_getC (pc' := 11) rfl fc_102_42 wd_1592 dX11_counts_8 ?_
  refine sb_iload_n (pc' := 12) rfl rfl dX11_counts_11 ?_
  refine sb_iconst (pc' := 13) rfl dX11_counts_12 ?_
  refine sb_iast (pc' := 14) rfl aI_126 o1.1 o1.2  dX11_counts_13 ?_
  refine sb_iconst (pc' := 15) rfl dX11_counts_14 ?_
  refine sb_istore_n (pc' := 16) rfl (L' := [some (.ref (ad 102)), some (vi x1), some (vi 0), none, none]) rfl (by decide) dX11_counts_15 ?_
  exact (H hx1 (iR_lit rfl) (SR_setI (SR_setI hS (iR_lit rfl)) (iR_lit rfl)))
theorem bX11_counts_16 {g : AG} {ad : Nat → Nat} {d : Nat} {Q : AO → SG → Prop} {rc rs : Nat} {σ : SG} {x1 x2 : Int}  (hx1 : iR x1) (hx2 : iR x2) (hS : SR σ) (H : Cl g ad d mX11_full 0 0 [(.ref (ad 102))] σ (Ki fun r1 s1 => ((r1 < x2 → (SR s1 → Q (.inl none) s1)) ∧ (¬ r1 < x2 → Cl g ad d mX11_bits 0 0 [(vi x2)] s1 (Ki fun r2 s2 => ((r2 = x1 → iR (294 * x2) ∧ (iR x1 → iR x2 → iR (294 * x2) → SR s2 → Wb g ad d mX11_counts Q 41 [some (.ref (ad 102)), some (vi x1), some (vi x2), some (vi (294 * x2)), none] [] s2 rc rs)) ∧ (¬ r2 = x1 → iR (x2 + 1) ∧ (iR x1 → iR (x2 + 1) → SR s2 → Wb g ad d mX11_counts Q 16 [some (.ref (ad 102)), some (vi x1), some (vi (x2 + 1)), none, none] [] s2 rc rs)))))))) : Wb g ad d mX11_counts Q 16 [some (.ref (ad 102)), some (vi x1), some (vi x2), none, none] [] σ rc rs := by
  refine sb_iload_n (pc' := 17) rfl rfl dX11_counts_16 ?_
  refine sb_aload_n (pc' := 18) rfl rfl dX11_counts_17 ?_
  obtain ⟨d1, hd1, H⟩ := H
  refine sb_callV (pc' := 21) rfl rfl (rc := rc) (rs := rs) (mc' := 0) (ms' := 0) (As := []) (st := [(vi x2)]) of_102 rfl rfl (Nat.le_of_ble_eq_true rfl) hd1 kX11_full ⟨wd_1882, wd_1884, wd_131⟩ dX11_counts_18 (Eb.mono H ?_)
  rintro o s1 ⟨r1, rfl, hr1, hs1, H⟩
  show Wb g ad d mX11_counts Q 21 [some (.ref (ad 102)), some (vi x1), some (vi x2), none, none] [(vi r1), (vi x2)] s1 rc rs
  refine sb_icmp_gt (pc' := 24) (tgt := 124) rfl (by decide) hx2 hr1 dX11_counts_21 ?_ ?_
  · intro cc; have H := H.1 cc
    exact sb_vret rfl dX11_counts_124 (H hs1)
  · intro cc; have H := H.2 cc
    refine sb_iload_n (pc' := 25) rfl rfl dX11_counts_24 ?_
    obtain ⟨d2, hd2, H⟩ := H
    refine sb_callS (pc' := 28) rfl rfl (rc := rc) (rs := rs) (mc' := 0) (ms' := 0) (As := [(vi x2)]) (st := [])  rfl rfl (Nat.le_of_ble_eq_true rfl) hd2 kX11_bits ⟨wd_2029, wd_2030⟩ dX11_counts_25 (Eb.mono H ?_)
    rintro o s2 ⟨r2, rfl, hr2, hs2, H⟩
    show Wb g ad d mX11_counts Q 28 [some (.ref (ad 102)), some (vi x1), some (vi x2), none, none] [(vi r2)] s2 rc rs
    refine sb_iload_n (pc' := 29) rfl rfl dX11_counts_28 ?_
    refine sb_icmp_eq (pc' := 32) (tgt := 35) rfl (by decide) hr2 hx1 dX11_counts_29 ?_ ?_
    · intro cc; have H := H.1 cc
      refine sb_sipush (pc' := 38) rfl (z := 294) (by decide) dX11_counts_35 ?_
      refine sb_iload_n (pc' := 39) rfl rfl dX11_counts_38 ?_
      refine sb_imul (pc' := 40) rfl dX11_counts_39 ?_
      refine sb_istore_n (pc' := 41) rfl (L' := [some (.ref (ad 102)), some (vi x1), some (vi x2), some (vi (294 * x2)), none]) rfl (by decide) dX11_counts_40 ?_
      obtain ⟨o3, H⟩ := H
      exact (H hx1 hx2 o3 hs2)
    · intro cc; have H := H.2 cc
      refine sb_goto (tgt := 118) (by decide) dX11_counts_32 ?_
      refine sb_iinc (pc' := 121) rfl rfl (L' := [some (.ref (ad 102)), some (vi x1), some (vi (x2 + 1)), none, none]) rfl (by decide) dX11_counts_118 ?_
      refine sb_goto (tgt := 16) (by decide) dX11_counts_121 ?_
      obtain ⟨o4, H⟩ := H
      exact (H hx1 o4 hs2)
theorem bX11_counts_41 {g : AG} {ad : Nat → Nat} {d : Nat} {Q : AO → SG → Prop} {rc rs : Nat} {σ : SG} {x1 x2 x3 : Int}  (hx1 : iR x1) (hx2 : iR x2) (hx3 : iR x3) (hS : SR σ) (H : iR ((294 * x2) + 294) ∧ ((((294 * x2) + 294) ≤ x3 → iR (x2 + 1) ∧ (iR x1 → iR (x2 + 1) → SR σ → Wb g ad d mX11_counts Q 16 [some (.ref (ad 102)), some (vi x1), some (vi (x2 + 1)), none, none] [] σ rc rs)) ∧ (¬ ((294 * x2) + 294) ≤ x3 → (0 ≤ x3 ∧ x3 < 18816) ∧ ((¬ (ia σ 118 x3) = 0 → (0 ≤ x1 ∧ x1 < 7) ∧ iR ((ia σ 125 x1) + 1) ∧ Cl g ad d mX11_scoreOf 0 0 [(.ref (ad 102)), (vi x3)] (setI σ 125 x1 ((ia σ 125 x1) + 1)) (Ki fun r6 s6 => (((ia s6 126 x1) = ((-1)) → iR (x3 + 1) ∧ (iR x1 → iR x2 → iR (x3 + 1) → SR (setI s6 126 x1 r6) → Wb g ad d mX11_counts Q 41 [some (.ref (ad 102)), some (vi x1), some (vi x2), some (vi (x3 + 1)), none] [] (setI s6 126 x1 r6) rc rs)) ∧ (¬ (ia s6 126 x1) = ((-1)) → (((ia s6 126 x1) ≤ r6 → iR (x3 + 1) ∧ (iR x1 → iR x2 → iR (x3 + 1) → SR s6 → Wb g ad d mX11_counts Q 41 [some (.ref (ad 102)), some (vi x1), some (vi x2), some (vi (x3 + 1)), none] [] s6 rc rs)) ∧ (¬ (ia s6 126 x1) ≤ r6 → iR (x3 + 1) ∧ (iR x1 → iR x2 → iR (x3 + 1) → SR (setI s6 126 x1 r6) → Wb g ad d mX11_counts Q 41 [some (.ref (ad 102)), some (vi x1), some (vi x2), some (vi (x3 + 1)), none] [] (setI s6 126 x1 r6) rc rs))))))) ∧ ((ia σ 118 x3) = 0 → iR (x3 + 1) ∧ (iR x1 → iR x2 → iR (x3 + 1) → SR σ → Wb g ad d mX11_counts Q 41 [some (.ref (ad 102)), some (vi x1), some (vi x2), some (vi (x3 + 1)), none] [] σ rc rs)))))) : Wb g ad d mX11_counts Q 41 [some (.ref (ad 102)), some (vi x1), some (vi x2), some (vi x3), none] [] σ rc rs := by
  refine sb_iload_n (pc' := 42) rfl rfl dX11_counts_41 ?_
  refine sb_sipush (pc' := 45) rfl (z := 294) (by decide) dX11_counts_42 ?_
  refine sb_iload_n (pc' := 46) rfl rfl dX11_counts_45 ?_
  refine sb_imul (pc' := 47) rfl dX11_counts_46 ?_
  refine sb_sipush (pc' := 50) rfl (z := 294) (by decide) dX11_counts_47 ?_
  refine sb_iadd (pc' := 51) rfl dX11_counts_50 ?_
  obtain ⟨o1, H⟩ := H
  refine sb_icmp_ge (pc' := 54) (tgt := 118) rfl (by decide) hx3 o1 dX11_counts_51 ?_ ?_
  · intro cc; have H := H.1 cc
    refine sb_iinc (pc' := 121) rfl rfl (L' := [some (.ref (ad 102)), some (vi x1), some (vi (x2 + 1)), some (vi x3), none]) rfl (by decide) dX11_counts_118 ?_
    refine sb_goto (tgt := 16) (by decide) dX11_counts_121 ?_
    obtain ⟨o2, H⟩ := H
    refine Wb.forget [true, true, true, false, false] ?_
    exact (H hx1 o2 hS)
  · intro cc; have H := H.2 cc
    refine sb_aload_n (pc' := 55) rfl rfl dX11_counts_54 ?_
    refine sb_getC (pc' := 58) rfl fc_102_34 wd_1584 dX11_counts_55 ?_
    refine sb_iload_n (pc' := 59) rfl rfl dX11_counts_58 ?_
    obtain ⟨o3, H⟩ := H
    refine sb_zald (pc' := 60) rfl aZ_118 o3.1 o3.2 dX11_counts_59 ?_
    refine sb_if_ne (pc' := 63) (tgt := 66) rfl (by decide) (SR_ia hS _ _) dX11_counts_60 ?_ ?_
    · intro cc; have H := H.1 cc
      refine sb_aload_n (pc' := 67) rfl rfl dX11_counts_66 ?_
      refine sb_getC (pc' := 70) rfl fc_102_41 wd_1591 dX11_counts_67 ?_
      refine sb_iload_n (pc' := 71) rfl rfl dX11_counts_70 ?_
      refine sb_dup2 (pc' := 72) rfl rfl rfl dX11_counts_71 ?_
      obtain ⟨o4, H⟩ := H
      refine sb_iald (pc' := 73) rfl aI_125 o4.1 o4.2 dX11_counts_72 ?_
      refine sb_iconst (pc' := 74) rfl dX11_counts_73 ?_
      refine sb_iadd (pc' := 75) rfl dX11_counts_74 ?_
      obtain ⟨o5, H⟩ := H
      refine sb_iast (pc' := 76) rfl aI_125 o4.1 o4.2  dX11_counts_75 ?_
      refine sb_aload_n (pc' := 77) rfl rfl dX11_counts_76 ?_
      refine sb_iload_n (pc' := 78) rfl rfl dX11_counts_77 ?_
      obtain ⟨d6, hd6, H⟩ := H
      refine sb_callV (pc' := 81) rfl rfl (rc := rc) (rs := rs) (mc' := 0) (ms' := 0) (As := [(vi x3)]) (st := []) of_102 rfl rfl (Nat.le_of_ble_eq_true rfl) hd6 kX11_scoreOf ⟨wd_2032, wd_2034, wd_149⟩ dX11_counts_78 (Eb.mono H ?_)
      rintro o s6 ⟨r6, rfl, hr6, hs6, H⟩
      show Wb g ad d mX11_counts Q 81 [some (.ref (ad 102)), some (vi x1), some (vi x2), some (vi x3), none] [(vi r6)] s6 rc rs
      refine sb_istore (pc' := 83) rfl (L' := [some (.ref (ad 102)), some (vi x1), some (vi x2), some (vi x3), some (vi r6)]) rfl (by decide) dX11_counts_81 ?_
      refine sb_aload_n (pc' := 84) rfl rfl dX11_counts_83 ?_
      refine sb_getC (pc' := 87) rfl fc_102_42 wd_1592 dX11_counts_84 ?_
      refine sb_iload_n (pc' := 88) rfl rfl dX11_counts_87 ?_
      refine sb_iald (pc' := 89) rfl aI_126 o4.1 o4.2 dX11_counts_88 ?_
      refine sb_iconst (pc' := 90) rfl dX11_counts_89 ?_
      refine sb_icmp_eq (pc' := 93) (tgt := 104) rfl (by decide) (SR_ia hs6 _ _) (iR_lit rfl) dX11_counts_90 ?_ ?_
      · intro cc; have H := H.1 cc
        refine sb_aload_n (pc' := 105) rfl rfl dX11_counts_104 ?_
        refine sb_getC (pc' := 108) rfl fc_102_42 wd_1592 dX11_counts_105 ?_
        refine sb_iload_n (pc' := 109) rfl rfl dX11_counts_108 ?_
        refine sb_iload (pc' := 111) rfl rfl dX11_counts_109 ?_
        refine sb_iast (pc' := 112) rfl aI_126 o4.1 o4.2  dX11_counts_111 ?_
        refine sb_iinc (pc' := 115) rfl rfl (L' := [some (.ref (ad 102)), some (vi x1), some (vi x2), some (vi (x3 + 1)), some (vi r6)]) rfl (by decide) dX11_counts_112 ?_
        refine sb_goto (tgt := 41) (by decide) dX11_counts_115 ?_
        obtain ⟨o7, H⟩ := H
        refine Wb.forget [true, true, true, true, false] ?_
        exact (H hx1 hx2 o7 (SR_setI hs6 hr6))
      · intro cc; have H := H.2 cc
        refine sb_iload (pc' := 95) rfl rfl dX11_counts_93 ?_
        refine sb_aload_n (pc' := 96) rfl rfl dX11_counts_95 ?_
        refine sb_getC (pc' := 99) rfl fc_102_42 wd_1592 dX11_counts_96 ?_
        refine sb_iload_n (pc' := 100) rfl rfl dX11_counts_99 ?_
        refine sb_iald (pc' := 101) rfl aI_126 o4.1 o4.2 dX11_counts_100 ?_
        refine sb_icmp_ge (pc' := 104) (tgt := 112) rfl (by decide) hr6 (SR_ia hs6 _ _) dX11_counts_101 ?_ ?_
        · intro cc; have H := H.1 cc
          refine sb_iinc (pc' := 115) rfl rfl (L' := [some (.ref (ad 102)), some (vi x1), some (vi x2), some (vi (x3 + 1)), some (vi r6)]) rfl (by decide) dX11_counts_112 ?_
          refine sb_goto (tgt := 41) (by decide) dX11_counts_115 ?_
          obtain ⟨o8, H⟩ := H
          refine Wb.forget [true, true, true, true, false] ?_
          exact (H hx1 hx2 o8 hs6)
        · intro cc; have H := H.2 cc
          refine sb_aload_n (pc' := 105) rfl rfl dX11_counts_104 ?_
          refine sb_getC (pc' := 108) rfl fc_102_42 wd_1592 dX11_counts_105 ?_
          refine sb_iload_n (pc' := 109) rfl rfl dX11_counts_108 ?_
          refine sb_iload (pc' := 111) rfl rfl dX11_counts_109 ?_
          refine sb_iast (pc' := 112) rfl aI_126 o4.1 o4.2  dX11_counts_111 ?_
          refine sb_iinc (pc' := 115) rfl rfl (L' := [some (.ref (ad 102)), some (vi x1), some (vi x2), some (vi (x3 + 1)), some (vi r6)]) rfl (by decide) dX11_counts_112 ?_
          refine sb_goto (tgt := 41) (by decide) dX11_counts_115 ?_
          obtain ⟨o9, H⟩ := H
          refine Wb.forget [true, true, true, true, false] ?_
          exact (H hx1 hx2 o9 (SR_setI hs6 hr6))
    · intro cc; have H := H.2 cc
      refine sb_goto (tgt := 112) (by decide) dX11_counts_63 ?_
      refine sb_iinc (pc' := 115) rfl rfl (L' := [some (.ref (ad 102)), some (vi x1), some (vi x2), some (vi (x3 + 1)), none]) rfl (by decide) dX11_counts_112 ?_
      refine sb_goto (tgt := 41) (by decide) dX11_counts_115 ?_
      obtain ⟨o10, H⟩ := H
      exact (H hx1 hx2 o10 hS)
theorem bX11_stacks_0 {g : AG} {ad : Nat → Nat} {d : Nat} {Q : AO → SG → Prop} {rc rs : Nat} {σ : SG}    (hS : SR σ) (H : Cl g ad d mX11_laysStretches 0 0 [(.ref (ad 102))] σ (Kv fun s1 => (iR 0 → SR s1 → Wb g ad d mX11_stacks Q 6 [some (.ref (ad 102)), some (vi 0), none, none] [] s1 rc rs))) : Wb g ad d mX11_stacks Q 0 [some (.ref (ad 102)), none, none, none] [] σ rc rs := by
  refine sb_aload_n (pc' := 1) rfl rfl dX11_stacks_0 ?_
  obtain ⟨d1, hd1, H⟩ := H
  refine sb_callV (pc' := 4) rfl rfl (rc := rc) (rs := rs) (mc' := 0) (ms' := 0) (As := []) (st := []) of_102 rfl rfl (Nat.le_of_ble_eq_true rfl) hd1 kX11_laysStretches ⟨wd_2005, wd_2007, wd_144⟩ dX11_stacks_1 (Eb.mono H ?_)
  rintro o s1 ⟨rfl, hs1, H⟩
  show Wb g ad d mX11_stacks Q 4 [some (.ref (ad 102)), none, none, none] [] s1 rc rs
  refine sb_iconst (pc' := 5) rfl dX11_stacks_4 ?_
  refine sb_istore_n (pc' := 6) rfl (L' := [some (.ref (ad 102)), some (vi 0), none, none]) rfl (by decide) dX11_stacks_5 ?_
  exact (H (iR_lit rfl) hs1)
theorem bX11_stacks_6 {g : AG} {ad : Nat → Nat} {d : Nat} {Q : AO → SG → Prop} {rc rs : Nat} {σ : SG} {x1 : Int}  (hx1 : iR x1) (hS : SR σ) (H : ((18816 ≤ x1 → Cl g ad d mX11_key 0 0 [(vi 0), (vi 0), (vi ((-1)))] (setS (setS (setS σ 102 43 ((-1))) 102 44 0) 102 45 0) (Ki fun r1 s1 => Cl g ad d mX11_lies 0 0 [(.ref (ad 102)), (vi r1), (vi 0), (vi ((-1))), (vi ((-1))), (vi ((-1)))] s1 (Kv fun s2 => (iR 0 → SR s2 → Wb g ad d mX11_stacks Q 64 [some (.ref (ad 102)), some (vi 0), none, none] [] s2 rc rs)))) ∧ (¬ 18816 ≤ x1 → (0 ≤ x1 ∧ x1 < 18816) ∧ iR (x1 + 1) ∧ (iR (x1 + 1) → SR (setI (setI σ 118 x1 0) 119 x1 0) → Wb g ad d mX11_stacks Q 6 [some (.ref (ad 102)), some (vi (x1 + 1)), none, none] [] (setI (setI σ 118 x1 0) 119 x1 0) rc rs)))) : Wb g ad d mX11_stacks Q 6 [some (.ref (ad 102)), some (vi x1), none, none] [] σ rc rs := by
  refine sb_iload_n (pc' := 7) rfl rfl dX11_stacks_6 ?_
  refine sb_sipush (pc' := 10) rfl (z := 18816) (by decide) dX11_stacks_7 ?_
  refine sb_icmp_ge (pc' := 13) (tgt := 33) rfl (by decide) hx1 (iR_lit rfl) dX11_stacks_10 ?_ ?_
  · intro cc; have H := H.1 cc
    refine sb_aload_n (pc' := 34) rfl rfl dX11_stacks_33 ?_
    refine sb_iconst (pc' := 35) rfl dX11_stacks_34 ?_
    refine sb_putI (pc' := 38) rfl fi_102_43 (Or.inl rfl) wd_1593 dX11_stacks_35 ?_
    refine sb_aload_n (pc' := 39) rfl rfl dX11_stacks_38 ?_
    refine sb_iconst (pc' := 40) rfl dX11_stacks_39 ?_
    refine sb_putI (pc' := 43) rfl fi_102_44 (Or.inl rfl) wd_1594 dX11_stacks_40 ?_
    refine sb_aload_n (pc' := 44) rfl rfl dX11_stacks_43 ?_
    refine sb_iconst (pc' := 45) rfl dX11_stacks_44 ?_
    refine sb_putI (pc' := 48) rfl fi_102_45 (Or.inl rfl) wd_1595 dX11_stacks_45 ?_
    refine sb_aload_n (pc' := 49) rfl rfl dX11_stacks_48 ?_
    refine sb_iconst (pc' := 50) rfl dX11_stacks_49 ?_
    refine sb_iconst (pc' := 51) rfl dX11_stacks_50 ?_
    refine sb_iconst (pc' := 52) rfl dX11_stacks_51 ?_
    obtain ⟨d1, hd1, H⟩ := H
    refine sb_callS (pc' := 55) rfl rfl (rc := rc) (rs := rs) (mc' := 0) (ms' := 0) (As := [(vi 0), (vi 0), (vi ((-1)))]) (st := [(.ref (ad 102))])  rfl rfl (Nat.le_of_ble_eq_true rfl) hd1 kX11_key ⟨wd_1890, wd_1891⟩ dX11_stacks_52 (Eb.mono H ?_)
    rintro o s1 ⟨r1, rfl, hr1, hs1, H⟩
    show Wb g ad d mX11_stacks Q 55 [some (.ref (ad 102)), some (vi x1), none, none] [(vi r1), (.ref (ad 102))] s1 rc rs
    refine sb_iconst (pc' := 56) rfl dX11_stacks_55 ?_
    refine sb_iconst (pc' := 57) rfl dX11_stacks_56 ?_
    refine sb_iconst (pc' := 58) rfl dX11_stacks_57 ?_
    refine sb_iconst (pc' := 59) rfl dX11_stacks_58 ?_
    obtain ⟨d2, hd2, H⟩ := H
    refine sb_callV (pc' := 62) rfl rfl (rc := rc) (rs := rs) (mc' := 0) (ms' := 0) (As := [(vi r1), (vi 0), (vi ((-1))), (vi ((-1))), (vi ((-1)))]) (st := []) of_102 rfl rfl (Nat.le_of_ble_eq_true rfl) hd2 kX11_lies ⟨wd_2021, wd_2023, wd_147⟩ dX11_stacks_59 (Eb.mono H ?_)
    rintro o s2 ⟨rfl, hs2, H⟩
    show Wb g ad d mX11_stacks Q 62 [some (.ref (ad 102)), some (vi x1), none, none] [] s2 rc rs
    refine sb_iconst (pc' := 63) rfl dX11_stacks_62 ?_
    refine sb_istore_n (pc' := 64) rfl (L' := [some (.ref (ad 102)), some (vi 0), none, none]) rfl (by decide) dX11_stacks_63 ?_
    exact (H (iR_lit rfl) hs2)
  · intro cc; have H := H.2 cc
    refine sb_aload_n (pc' := 14) rfl rfl dX11_stacks_13 ?_
    refine sb_getC (pc' := 17) rfl fc_102_34 wd_1584 dX11_stacks_14 ?_
    refine sb_iload_n (pc' := 18) rfl rfl dX11_stacks_17 ?_
    refine sb_iconst (pc' := 19) rfl dX11_stacks_18 ?_
    obtain ⟨o3, H⟩ := H
    refine sb_zast (pc' := 20) rfl aZ_118 o3.1 o3.2 (Or.inl rfl) dX11_stacks_19 ?_
    refine sb_aload_n (pc' := 21) rfl rfl dX11_stacks_20 ?_
    refine sb_getC (pc' := 24) rfl fc_102_35 wd_1585 dX11_stacks_21 ?_
    refine sb_iload_n (pc' := 25) rfl rfl dX11_stacks_24 ?_
    refine sb_iconst (pc' := 26) rfl dX11_stacks_25 ?_
    refine sb_zast (pc' := 27) rfl aZ_119 o3.1 o3.2 (Or.inl rfl) dX11_stacks_26 ?_
    refine sb_iinc (pc' := 30) rfl rfl (L' := [some (.ref (ad 102)), some (vi (x1 + 1)), none, none]) rfl (by decide) dX11_stacks_27 ?_
    refine sb_goto (tgt := 6) (by decide) dX11_stacks_30 ?_
    obtain ⟨o4, H⟩ := H
    exact (H o4 (SR_setI (SR_setI hS (iR_lit rfl)) (iR_lit rfl)))
theorem bX11_stacks_64 {g : AG} {ad : Nat → Nat} {d : Nat} {Q : AO → SG → Prop} {rc rs : Nat} {σ : SG} {x1 : Int}  (hx1 : iR x1) (hS : SR σ) (H : (((ia σ 103 3) < x1 → Cl g ad d mX11_finds 0 0 [(.ref (ad 102))] σ (Kv fun s1 => (SR s1 → Q (.inl none) s1))) ∧ (¬ (ia σ 103 3) < x1 → Cl g ad d mX11_counts 0 0 [(.ref (ad 102)), (vi x1)] σ (Kv fun s2 => ((¬ x1 = (ia s2 103 3) → Cl g ad d mX11_nextOf 0 0 [(.ref (ad 102)), (vi x1)] s2 (Ki fun r3 s3 => (iR x1 → iR 0 → iR r3 → SR s3 → Wb g ad d mX11_stacks Q 100 [some (.ref (ad 102)), some (vi x1), some (vi 0), some (vi r3)] [] s3 rc rs))) ∧ (x1 = (ia s2 103 3) → iR (x1 + 1) ∧ (iR (x1 + 1) → SR s2 → Wb g ad d mX11_stacks Q 64 [some (.ref (ad 102)), some (vi (x1 + 1)), none, none] [] s2 rc rs))))))) : Wb g ad d mX11_stacks Q 64 [some (.ref (ad 102)), some (vi x1), none, none] [] σ rc rs := by
  refine sb_iload_n (pc' := 65) rfl rfl dX11_stacks_64 ?_
  refine sb_aload_n (pc' := 66) rfl rfl dX11_stacks_65 ?_
  refine sb_getC (pc' := 69) rfl fc_102_1 wd_1551 dX11_stacks_66 ?_
  refine sb_iconst (pc' := 70) rfl dX11_stacks_69 ?_
  refine sb_iald (pc' := 71) rfl aI_103 (by decide) (by decide) dX11_stacks_70 ?_
  refine sb_icmp_gt (pc' := 74) (tgt := 163) rfl (by decide) hx1 (SR_ia hS _ _) dX11_stacks_71 ?_ ?_
  · intro cc; have H := H.1 cc
    refine sb_aload_n (pc' := 164) rfl rfl dX11_stacks_163 ?_
    obtain ⟨d1, hd1, H⟩ := H
    refine sb_callV (pc' := 167) rfl rfl (rc := rc) (rs := rs) (mc' := 0) (ms' := 0) (As := []) (st := []) of_102 rfl rfl (Nat.le_of_ble_eq_true rfl) hd1 kX11_finds ⟨wd_2063, wd_2065, wd_156⟩ dX11_stacks_164 (Eb.mono H ?_)
    rintro o s1 ⟨rfl, hs1, H⟩
    show Wb g ad d mX11_stacks Q 167 [some (.ref (ad 102)), some (vi x1), none, none] [] s1 rc rs
    exact sb_vret rfl dX11_stacks_167 (H hs1)
  · intro cc; have H := H.2 cc
    refine sb_aload_n (pc' := 75) rfl rfl dX11_stacks_74 ?_
    refine sb_iload_n (pc' := 76) rfl rfl dX11_stacks_75 ?_
    obtain ⟨d2, hd2, H⟩ := H
    refine sb_callV (pc' := 79) rfl rfl (rc := rc) (rs := rs) (mc' := 0) (ms' := 0) (As := [(vi x1)]) (st := []) of_102 rfl rfl (Nat.le_of_ble_eq_true rfl) hd2 kX11_counts ⟨wd_2025, wd_2027, wd_148⟩ dX11_stacks_76 (Eb.mono H ?_)
    rintro o s2 ⟨rfl, hs2, H⟩
    show Wb g ad d mX11_stacks Q 79 [some (.ref (ad 102)), some (vi x1), none, none] [] s2 rc rs
    refine sb_iload_n (pc' := 80) rfl rfl dX11_stacks_79 ?_
    refine sb_aload_n (pc' := 81) rfl rfl dX11_stacks_80 ?_
    refine sb_getC (pc' := 84) rfl fc_102_1 wd_1551 dX11_stacks_81 ?_
    refine sb_iconst (pc' := 85) rfl dX11_stacks_84 ?_
    refine sb_iald (pc' := 86) rfl aI_103 (by decide) (by decide) dX11_stacks_85 ?_
    refine sb_icmp_ne (pc' := 89) (tgt := 92) rfl (by decide) hx1 (SR_ia hs2 _ _) dX11_stacks_86 ?_ ?_
    · intro cc; have H := H.1 cc
      refine sb_iconst (pc' := 93) rfl dX11_stacks_92 ?_
      refine sb_istore_n (pc' := 94) rfl (L' := [some (.ref (ad 102)), some (vi x1), some (vi 0), none]) rfl (by decide) dX11_stacks_93 ?_
      refine sb_aload_n (pc' := 95) rfl rfl dX11_stacks_94 ?_
      refine sb_iload_n (pc' := 96) rfl rfl dX11_stacks_95 ?_
      obtain ⟨d3, hd3, H⟩ := H
      refine sb_callV (pc' := 99) rfl rfl (rc := rc) (rs := rs) (mc' := 0) (ms' := 0) (As := [(vi x1)]) (st := []) of_102 rfl rfl (Nat.le_of_ble_eq_true rfl) hd3 kX11_nextOf ⟨wd_2047, wd_2049, wd_152⟩ dX11_stacks_96 (Eb.mono H ?_)
      rintro o s3 ⟨r3, rfl, hr3, hs3, H⟩
      show Wb g ad d mX11_stacks Q 99 [some (.ref (ad 102)), some (vi x1), some (vi 0), none] [(vi r3)] s3 rc rs
      refine sb_istore_n (pc' := 100) rfl (L' := [some (.ref (ad 102)), some (vi x1), some (vi 0), some (vi r3)]) rfl (by decide) dX11_stacks_99 ?_
      exact (H hx1 (iR_lit rfl) hr3 hs3)
    · intro cc; have H := H.2 cc
      refine sb_goto (tgt := 157) (by decide) dX11_stacks_89 ?_
      refine sb_iinc (pc' := 160) rfl rfl (L' := [some (.ref (ad 102)), some (vi (x1 + 1)), none, none]) rfl (by decide) dX11_stacks_157 ?_
      refine sb_goto (tgt := 64) (by decide) dX11_stacks_160 ?_
      obtain ⟨o4, H⟩ := H
      exact (H o4 hs2)
theorem bX11_stacks_100 {g : AG} {ad : Nat → Nat} {d : Nat} {Q : AO → SG → Prop} {rc rs : Nat} {σ : SG} {x1 x2 x3 : Int}  (hx1 : iR x1) (hx2 : iR x2) (hx3 : iR x3) (hS : SR σ) (H : ((x3 = ((-1)) → (0 ≤ x1 ∧ x1 < 7) ∧ iR ((sc σ 102 45) + ((ia σ 125 x1) - x2)) ∧ iR (x1 + 1) ∧ (iR (x1 + 1) → SR (setS σ 102 45 ((sc σ 102 45) + ((ia σ 125 x1) - x2))) → Wb g ad d mX11_stacks Q 64 [some (.ref (ad 102)), some (vi (x1 + 1)), none, none] [] (setS σ 102 45 ((sc σ 102 45) + ((ia σ 125 x1) - x2))) rc rs)) ∧ (¬ x3 = ((-1)) → (((ia σ 103 8) ≤ x2 → (0 ≤ x1 ∧ x1 < 7) ∧ iR ((sc σ 102 45) + ((ia σ 125 x1) - x2)) ∧ iR (x1 + 1) ∧ (iR (x1 + 1) → SR (setS σ 102 45 ((sc σ 102 45) + ((ia σ 125 x1) - x2))) → Wb g ad d mX11_stacks Q 64 [some (.ref (ad 102)), some (vi (x1 + 1)), none, none] [] (setS σ 102 45 ((sc σ 102 45) + ((ia σ 125 x1) - x2))) rc rs)) ∧ (¬ (ia σ 103 8) ≤ x2 → (0 ≤ x3 ∧ x3 < 18816) ∧ Cl g ad d mX11_goesOn 0 0 [(.ref (ad 102)), (vi x3)] (setI σ 119 x3 1) (Kv fun s8 => Cl g ad d mX11_nextOf 0 0 [(.ref (ad 102)), (vi x1)] s8 (Ki fun r9 s9 => iR (x2 + 1) ∧ (iR x1 → iR (x2 + 1) → iR r9 → SR s9 → Wb g ad d mX11_stacks Q 100 [some (.ref (ad 102)), some (vi x1), some (vi (x2 + 1)), some (vi r9)] [] s9 rc rs)))))))) : Wb g ad d mX11_stacks Q 100 [some (.ref (ad 102)), some (vi x1), some (vi x2), some (vi x3)] [] σ rc rs := by
  refine sb_iload_n (pc' := 101) rfl rfl dX11_stacks_100 ?_
  refine sb_iconst (pc' := 102) rfl dX11_stacks_101 ?_
  refine sb_icmp_eq (pc' := 105) (tgt := 140) rfl (by decide) hx3 (iR_lit rfl) dX11_stacks_102 ?_ ?_
  · intro cc; have H := H.1 cc
    refine sb_aload_n (pc' := 141) rfl rfl dX11_stacks_140 ?_
    refine sb_dup (pc' := 142) rfl rfl dX11_stacks_141 ?_
    refine sb_getI (pc' := 145) rfl fi_102_45 wd_1595 dX11_stacks_142 ?_
    refine sb_aload_n (pc' := 146) rfl rfl dX11_stacks_145 ?_
    refine sb_getC (pc' := 149) rfl fc_102_41 wd_1591 dX11_stacks_146 ?_
    refine sb_iload_n (pc' := 150) rfl rfl dX11_stacks_149 ?_
    obtain ⟨o1, H⟩ := H
    refine sb_iald (pc' := 151) rfl aI_125 o1.1 o1.2 dX11_stacks_150 ?_
    refine sb_iload_n (pc' := 152) rfl rfl dX11_stacks_151 ?_
    refine sb_isub (pc' := 153) rfl dX11_stacks_152 ?_
    refine sb_iadd (pc' := 154) rfl dX11_stacks_153 ?_
    obtain ⟨o2, H⟩ := H
    refine sb_putI (pc' := 157) rfl fi_102_45 (Or.inl rfl) wd_1595 dX11_stacks_154 ?_
    refine sb_iinc (pc' := 160) rfl rfl (L' := [some (.ref (ad 102)), some (vi (x1 + 1)), some (vi x2), some (vi x3)]) rfl (by decide) dX11_stacks_157 ?_
    refine sb_goto (tgt := 64) (by decide) dX11_stacks_160 ?_
    obtain ⟨o3, H⟩ := H
    refine Wb.forget [true, true, false, false] ?_
    exact (H o3 (SR_setS hS o2))
  · intro cc; have H := H.2 cc
    refine sb_iload_n (pc' := 106) rfl rfl dX11_stacks_105 ?_
    refine sb_aload_n (pc' := 107) rfl rfl dX11_stacks_106 ?_
    refine sb_getC (pc' := 110) rfl fc_102_1 wd_1551 dX11_stacks_107 ?_
    refine sb_bipush (pc' := 112) rfl (z := 8) (by decide) dX11_stacks_110 ?_
    refine sb_iald (pc' := 113) rfl aI_103 (by decide) (by decide) dX11_stacks_112 ?_
    refine sb_icmp_ge (pc' := 116) (tgt := 140) rfl (by decide) hx2 (SR_ia hS _ _) dX11_stacks_113 ?_ ?_
    · intro cc; have H := H.1 cc
      refine sb_aload_n (pc' := 141) rfl rfl dX11_stacks_140 ?_
      refine sb_dup (pc' := 142) rfl rfl dX11_stacks_141 ?_
      refine sb_getI (pc' := 145) rfl fi_102_45 wd_1595 dX11_stacks_142 ?_
      refine sb_aload_n (pc' := 146) rfl rfl dX11_stacks_145 ?_
      refine sb_getC (pc' := 149) rfl fc_102_41 wd_1591 dX11_stacks_146 ?_
      refine sb_iload_n (pc' := 150) rfl rfl dX11_stacks_149 ?_
      obtain ⟨o4, H⟩ := H
      refine sb_iald (pc' := 151) rfl aI_125 o4.1 o4.2 dX11_stacks_150 ?_
      refine sb_iload_n (pc' := 152) rfl rfl dX11_stacks_151 ?_
      refine sb_isub (pc' := 153) rfl dX11_stacks_152 ?_
      refine sb_iadd (pc' := 154) rfl dX11_stacks_153 ?_
      obtain ⟨o5, H⟩ := H
      refine sb_putI (pc' := 157) rfl fi_102_45 (Or.inl rfl) wd_1595 dX11_stacks_154 ?_
      refine sb_iinc (pc' := 160) rfl rfl (L' := [some (.ref (ad 102)), some (vi (x1 + 1)), some (vi x2), some (vi x3)]) rfl (by decide) dX11_stacks_157 ?_
      refine sb_goto (tgt := 64) (by decide) dX11_stacks_160 ?_
      obtain ⟨o6, H⟩ := H
      refine Wb.forget [true, true, false, false] ?_
      exact (H o6 (SR_setS hS o5))
    · intro cc; have H := H.2 cc
      refine sb_aload_n (pc' := 117) rfl rfl dX11_stacks_116 ?_
      refine sb_getC (pc' := 120) rfl fc_102_35 wd_1585 dX11_stacks_117 ?_
      refine sb_iload_n (pc' := 121) rfl rfl dX11_stacks_120 ?_
      refine sb_iconst (pc' := 122) rfl dX11_stacks_121 ?_
      obtain ⟨o7, H⟩ := H
      refine sb_zast (pc' := 123) rfl aZ_119 o7.1 o7.2 (Or.inr rfl) dX11_stacks_122 ?_
      refine sb_iinc (pc' := 126) rfl rfl (L' := [some (.ref (ad 102)), some (vi x1), some (vi (x2 + 1)), some (vi x3)]) rfl (by decide) dX11_stacks_123 ?_
      refine sb_aload_n (pc' := 127) rfl rfl dX11_stacks_126 ?_
      refine sb_iload_n (pc' := 128) rfl rfl dX11_stacks_127 ?_
      obtain ⟨d8, hd8, H⟩ := H
      refine sb_callV (pc' := 131) rfl rfl (rc := rc) (rs := rs) (mc' := 0) (ms' := 0) (As := [(vi x3)]) (st := []) of_102 rfl rfl (Nat.le_of_ble_eq_true rfl) hd8 kX11_goesOn ⟨wd_2051, wd_2053, wd_153⟩ dX11_stacks_128 (Eb.mono H ?_)
      rintro o s8 ⟨rfl, hs8, H⟩
      show Wb g ad d mX11_stacks Q 131 [some (.ref (ad 102)), some (vi x1), some (vi (x2 + 1)), some (vi x3)] [] s8 rc rs
      refine sb_aload_n (pc' := 132) rfl rfl dX11_stacks_131 ?_
      refine sb_iload_n (pc' := 133) rfl rfl dX11_stacks_132 ?_
      obtain ⟨d9, hd9, H⟩ := H
      refine sb_callV (pc' := 136) rfl rfl (rc := rc) (rs := rs) (mc' := 0) (ms' := 0) (As := [(vi x1)]) (st := []) of_102 rfl rfl (Nat.le_of_ble_eq_true rfl) hd9 kX11_nextOf ⟨wd_2047, wd_2049, wd_152⟩ dX11_stacks_133 (Eb.mono H ?_)
      rintro o s9 ⟨r9, rfl, hr9, hs9, H⟩
      show Wb g ad d mX11_stacks Q 136 [some (.ref (ad 102)), some (vi x1), some (vi (x2 + 1)), some (vi x3)] [(vi r9)] s9 rc rs
      refine sb_istore_n (pc' := 137) rfl (L' := [some (.ref (ad 102)), some (vi x1), some (vi (x2 + 1)), some (vi r9)]) rfl (by decide) dX11_stacks_136 ?_
      refine sb_goto (tgt := 100) (by decide) dX11_stacks_137 ?_
      obtain ⟨o10, H⟩ := H
      exact (H hx1 o10 hr9 hs9)
theorem bX11_finds_0 {g : AG} {ad : Nat → Nat} {d : Nat} {Q : AO → SG → Prop} {rc rs : Nat} {σ : SG}    (hS : SR σ) (H : Cl g ad d mX11_full 0 0 [(.ref (ad 102))] (setS (setS σ 102 46 ((-1))) 102 47 ((-1))) (Ki fun r1 s1 => iR (294 * r1) ∧ (iR (294 * r1) → SR s1 → Wb g ad d mX11_finds Q 19 [some (.ref (ad 102)), some (vi (294 * r1)), none] [] s1 rc rs))) : Wb g ad d mX11_finds Q 0 [some (.ref (ad 102)), none, none] [] σ rc rs := by
  refine sb_aload_n (pc' := 1) rfl rfl dX11_finds_0 ?_
  refine sb_iconst (pc' := 2) rfl dX11_finds_1 ?_
  refine sb_putI (pc' := 5) rfl fi_102_46 (Or.inl rfl) wd_1596 dX11_finds_2 ?_
  refine sb_aload_n (pc' := 6) rfl rfl dX11_finds_5 ?_
  refine sb_iconst (pc' := 7) rfl dX11_finds_6 ?_
  refine sb_putI (pc' := 10) rfl fi_102_47 (Or.inl rfl) wd_1597 dX11_finds_7 ?_
  refine sb_sipush (pc' := 13) rfl (z := 294) (by decide) dX11_finds_10 ?_
  refine sb_aload_n (pc' := 14) rfl rfl dX11_finds_13 ?_
  obtain ⟨d1, hd1, H⟩ := H
  refine sb_callV (pc' := 17) rfl rfl (rc := rc) (rs := rs) (mc' := 0) (ms' := 0) (As := []) (st := [(vi 294)]) of_102 rfl rfl (Nat.le_of_ble_eq_true rfl) hd1 kX11_full ⟨wd_1882, wd_1884, wd_131⟩ dX11_finds_14 (Eb.mono H ?_)
  rintro o s1 ⟨r1, rfl, hr1, hs1, H⟩
  show Wb g ad d mX11_finds Q 17 [some (.ref (ad 102)), none, none] [(vi r1), (vi 294)] s1 rc rs
  refine sb_imul (pc' := 18) rfl dX11_finds_17 ?_
  refine sb_istore_n (pc' := 19) rfl (L' := [some (.ref (ad 102)), some (vi (294 * r1)), none]) rfl (by decide) dX11_finds_18 ?_
  obtain ⟨o2, H⟩ := H
  exact (H o2 hs1)
theorem bX11_finds_19 {g : AG} {ad : Nat → Nat} {d : Nat} {Q : AO → SG → Prop} {rc rs : Nat} {σ : SG} {x1 : Int}  (hx1 : iR x1) (hS : SR σ) (H : Cl g ad d mX11_full 0 0 [(.ref (ad 102))] σ (Ki fun r1 s1 => iR ((294 * r1) + 294) ∧ ((((294 * r1) + 294) ≤ x1 → (SR s1 → Q (.inl none) s1)) ∧ (¬ ((294 * r1) + 294) ≤ x1 → (0 ≤ x1 ∧ x1 < 18816) ∧ ((¬ (ia s1 118 x1) = 0 → Cl g ad d mX11_lastOf 0 0 [(.ref (ad 102)), (vi x1)] s1 (Ki fun r4 s4 => Cl g ad d mX11_after0 0 0 [(.ref (ad 102)), (vi r4), (vi ((-1)))] s4 (Ki fun r5 s5 => (((sc s5 102 46) = ((-1)) → iR ((ia s1 120 x1) + r5) ∧ iR (x1 + 1) ∧ (iR (x1 + 1) → SR (setS (setS s5 102 46 x1) 102 47 ((ia s1 120 x1) + r5)) → Wb g ad d mX11_finds Q 19 [some (.ref (ad 102)), some (vi (x1 + 1)), none] [] (setS (setS s5 102 46 x1) 102 47 ((ia s1 120 x1) + r5)) rc rs)) ∧ (¬ (sc s5 102 46) = ((-1)) → iR ((ia s1 120 x1) + r5) ∧ (((sc s5 102 47) < ((ia s1 120 x1) + r5) → iR (x1 + 1) ∧ (iR (x1 + 1) → SR s5 → Wb g ad d mX11_finds Q 19 [some (.ref (ad 102)), some (vi (x1 + 1)), none] [] s5 rc rs)) ∧ (¬ (sc s5 102 47) < ((ia s1 120 x1) + r5) → ((¬ ((ia s1 120 x1) + r5) = (sc s5 102 47) → iR (x1 + 1) ∧ (iR (x1 + 1) → SR (setS (setS s5 102 46 x1) 102 47 ((ia s1 120 x1) + r5)) → Wb g ad d mX11_finds Q 19 [some (.ref (ad 102)), some (vi (x1 + 1)), none] [] (setS (setS s5 102 46 x1) 102 47 ((ia s1 120 x1) + r5)) rc rs)) ∧ (((ia s1 120 x1) + r5) = (sc s5 102 47) → (0 ≤ sc s5 102 46 ∧ sc s5 102 46 < 18816) ∧ (((ia s5 121 x1) ≤ (ia s5 121 (sc s5 102 46)) → iR (x1 + 1) ∧ (iR (x1 + 1) → SR (setS (setS s5 102 46 x1) 102 47 ((ia s1 120 x1) + r5)) → Wb g ad d mX11_finds Q 19 [some (.ref (ad 102)), some (vi (x1 + 1)), none] [] (setS (setS s5 102 46 x1) 102 47 ((ia s1 120 x1) + r5)) rc rs)) ∧ (¬ (ia s5 121 x1) ≤ (ia s5 121 (sc s5 102 46)) → iR (x1 + 1) ∧ (iR (x1 + 1) → SR s5 → Wb g ad d mX11_finds Q 19 [some (.ref (ad 102)), some (vi (x1 + 1)), none] [] s5 rc rs)))))))))))) ∧ ((ia s1 118 x1) = 0 → iR (x1 + 1) ∧ (iR (x1 + 1) → SR s1 → Wb g ad d mX11_finds Q 19 [some (.ref (ad 102)), some (vi (x1 + 1)), none] [] s1 rc rs))))))) : Wb g ad d mX11_finds Q 19 [some (.ref (ad 102)), some (vi x1), none] [] σ rc rs := by
  refine sb_iload_n (pc' := 20) rfl rfl dX11_finds_19 ?_
  refine sb_sipush (pc' := 23) rfl (z := 294) (by decide) dX11_finds_20 ?_
  refine sb_aload_n (pc' := 24) rfl rfl dX11_finds_23 ?_
  obtain ⟨d1, hd1, H⟩ := H
  refine sb_callV (pc' := 27) rfl rfl (rc := rc) (rs := rs) (mc' := 0) (ms' := 0) (As := []) (st := [(vi 294), (vi x1)]) of_102 rfl rfl (Nat.le_of_ble_eq_true rfl) hd1 kX11_full ⟨wd_1882, wd_1884, wd_131⟩ dX11_finds_24 (Eb.mono H ?_)
  rintro o s1 ⟨r1, rfl, hr1, hs1, H⟩
  show Wb g ad d mX11_finds Q 27 [some (.ref (ad 102)), some (vi x1), none] [(vi r1), (vi 294), (vi x1)] s1 rc rs
  refine sb_imul (pc' := 28) rfl dX11_finds_27 ?_
  refine sb_sipush (pc' := 31) rfl (z := 294) (by decide) dX11_finds_28 ?_
  refine sb_iadd (pc' := 32) rfl dX11_finds_31 ?_
  obtain ⟨o2, H⟩ := H
  refine sb_icmp_ge (pc' := 35) (tgt := 126) rfl (by decide) hx1 o2 dX11_finds_32 ?_ ?_
  · intro cc; have H := H.1 cc
    exact sb_vret rfl dX11_finds_126 (H hs1)
  · intro cc; have H := H.2 cc
    refine sb_aload_n (pc' := 36) rfl rfl dX11_finds_35 ?_
    refine sb_getC (pc' := 39) rfl fc_102_34 wd_1584 dX11_finds_36 ?_
    refine sb_iload_n (pc' := 40) rfl rfl dX11_finds_39 ?_
    obtain ⟨o3, H⟩ := H
    refine sb_zald (pc' := 41) rfl aZ_118 o3.1 o3.2 dX11_finds_40 ?_
    refine sb_if_ne (pc' := 44) (tgt := 47) rfl (by decide) (SR_ia hs1 _ _) dX11_finds_41 ?_ ?_
    · intro cc; have H := H.1 cc
      refine sb_aload_n (pc' := 48) rfl rfl dX11_finds_47 ?_
      refine sb_getC (pc' := 51) rfl fc_102_36 wd_1586 dX11_finds_48 ?_
      refine sb_iload_n (pc' := 52) rfl rfl dX11_finds_51 ?_
      refine sb_iald (pc' := 53) rfl aI_120 o3.1 o3.2 dX11_finds_52 ?_
      refine sb_aload_n (pc' := 54) rfl rfl dX11_finds_53 ?_
      refine sb_aload_n (pc' := 55) rfl rfl dX11_finds_54 ?_
      refine sb_iload_n (pc' := 56) rfl rfl dX11_finds_55 ?_
      obtain ⟨d4, hd4, H⟩ := H
      refine sb_callV (pc' := 59) rfl rfl (rc := rc) (rs := rs) (mc' := 0) (ms' := 0) (As := [(vi x1)]) (st := [(.ref (ad 102)), (vi (ia s1 120 x1))]) of_102 rfl rfl (Nat.le_of_ble_eq_true rfl) hd4 kX11_lastOf ⟨wd_2059, wd_2061, wd_155⟩ dX11_finds_56 (Eb.mono H ?_)
      rintro o s4 ⟨r4, rfl, hr4, hs4, H⟩
      show Wb g ad d mX11_finds Q 59 [some (.ref (ad 102)), some (vi x1), none] [(vi r4), (.ref (ad 102)), (vi (ia s1 120 x1))] s4 rc rs
      refine sb_iconst (pc' := 60) rfl dX11_finds_59 ?_
      obtain ⟨d5, hd5, H⟩ := H
      refine sb_callV (pc' := 63) rfl rfl (rc := rc) (rs := rs) (mc' := 0) (ms' := 0) (As := [(vi r4), (vi ((-1)))]) (st := [(vi (ia s1 120 x1))]) of_102 rfl rfl (Nat.le_of_ble_eq_true rfl) hd5 kX11_after0 ⟨wd_1886, wd_1888, wd_132⟩ dX11_finds_60 (Eb.mono H ?_)
      rintro o s5 ⟨r5, rfl, hr5, hs5, H⟩
      show Wb g ad d mX11_finds Q 63 [some (.ref (ad 102)), some (vi x1), none] [(vi r5), (vi (ia s1 120 x1))] s5 rc rs
      refine sb_iadd (pc' := 64) rfl dX11_finds_63 ?_
      refine sb_istore_n (pc' := 65) rfl (L' := [some (.ref (ad 102)), some (vi x1), some (vi ((ia s1 120 x1) + r5))]) rfl (by decide) dX11_finds_64 ?_
      refine sb_aload_n (pc' := 66) rfl rfl dX11_finds_65 ?_
      refine sb_getI (pc' := 69) rfl fi_102_46 wd_1596 dX11_finds_66 ?_
      refine sb_iconst (pc' := 70) rfl dX11_finds_69 ?_
      refine sb_icmp_eq (pc' := 73) (tgt := 110) rfl (by decide) (SR_sc hs5 _ _) (iR_lit rfl) dX11_finds_70 ?_ ?_
      · intro cc; have H := H.1 cc
        refine sb_aload_n (pc' := 111) rfl rfl dX11_finds_110 ?_
        refine sb_iload_n (pc' := 112) rfl rfl dX11_finds_111 ?_
        refine sb_putI (pc' := 115) rfl fi_102_46 (Or.inl rfl) wd_1596 dX11_finds_112 ?_
        refine sb_aload_n (pc' := 116) rfl rfl dX11_finds_115 ?_
        refine sb_iload_n (pc' := 117) rfl rfl dX11_finds_116 ?_
        obtain ⟨o6, H⟩ := H
        refine sb_putI (pc' := 120) rfl fi_102_47 (Or.inl rfl) wd_1597 dX11_finds_117 ?_
        refine sb_iinc (pc' := 123) rfl rfl (L' := [some (.ref (ad 102)), some (vi (x1 + 1)), some (vi ((ia s1 120 x1) + r5))]) rfl (by decide) dX11_finds_120 ?_
        refine sb_goto (tgt := 19) (by decide) dX11_finds_123 ?_
        obtain ⟨o7, H⟩ := H
        refine Wb.forget [true, true, false] ?_
        exact (H o7 (SR_setS (SR_setS hs5 hx1) o6))
      · intro cc; have H := H.2 cc
        refine sb_iload_n (pc' := 74) rfl rfl dX11_finds_73 ?_
        refine sb_aload_n (pc' := 75) rfl rfl dX11_finds_74 ?_
        refine sb_getI (pc' := 78) rfl fi_102_47 wd_1597 dX11_finds_75 ?_
        obtain ⟨o8, H⟩ := H
        refine sb_icmp_gt (pc' := 81) (tgt := 120) rfl (by decide) o8 (SR_sc hs5 _ _) dX11_finds_78 ?_ ?_
        · intro cc; have H := H.1 cc
          refine sb_iinc (pc' := 123) rfl rfl (L' := [some (.ref (ad 102)), some (vi (x1 + 1)), some (vi ((ia s1 120 x1) + r5))]) rfl (by decide) dX11_finds_120 ?_
          refine sb_goto (tgt := 19) (by decide) dX11_finds_123 ?_
          obtain ⟨o9, H⟩ := H
          refine Wb.forget [true, true, false] ?_
          exact (H o9 hs5)
        · intro cc; have H := H.2 cc
          refine sb_iload_n (pc' := 82) rfl rfl dX11_finds_81 ?_
          refine sb_aload_n (pc' := 83) rfl rfl dX11_finds_82 ?_
          refine sb_getI (pc' := 86) rfl fi_102_47 wd_1597 dX11_finds_83 ?_
          refine sb_icmp_ne (pc' := 89) (tgt := 110) rfl (by decide) o8 (SR_sc hs5 _ _) dX11_finds_86 ?_ ?_
          · intro cc; have H := H.1 cc
            refine sb_aload_n (pc' := 111) rfl rfl dX11_finds_110 ?_
            refine sb_iload_n (pc' := 112) rfl rfl dX11_finds_111 ?_
            refine sb_putI (pc' := 115) rfl fi_102_46 (Or.inl rfl) wd_1596 dX11_finds_112 ?_
            refine sb_aload_n (pc' := 116) rfl rfl dX11_finds_115 ?_
            refine sb_iload_n (pc' := 117) rfl rfl dX11_finds_116 ?_
            refine sb_putI (pc' := 120) rfl fi_102_47 (Or.inl rfl) wd_1597 dX11_finds_117 ?_
            refine sb_iinc (pc' := 123) rfl rfl (L' := [some (.ref (ad 102)), some (vi (x1 + 1)), some (vi ((ia s1 120 x1) + r5))]) rfl (by decide) dX11_finds_120 ?_
            refine sb_goto (tgt := 19) (by decide) dX11_finds_123 ?_
            obtain ⟨o10, H⟩ := H
            refine Wb.forget [true, true, false] ?_
            exact (H o10 (SR_setS (SR_setS hs5 hx1) o8))
          · intro cc; have H := H.2 cc
            refine sb_aload_n (pc' := 90) rfl rfl dX11_finds_89 ?_
            refine sb_getC (pc' := 93) rfl fc_102_37 wd_1587 dX11_finds_90 ?_
            refine sb_iload_n (pc' := 94) rfl rfl dX11_finds_93 ?_
            refine sb_iald (pc' := 95) rfl aI_121 o3.1 o3.2 dX11_finds_94 ?_
            refine sb_aload_n (pc' := 96) rfl rfl dX11_finds_95 ?_
            refine sb_getC (pc' := 99) rfl fc_102_37 wd_1587 dX11_finds_96 ?_
            refine sb_aload_n (pc' := 100) rfl rfl dX11_finds_99 ?_
            refine sb_getI (pc' := 103) rfl fi_102_46 wd_1596 dX11_finds_100 ?_
            obtain ⟨o11, H⟩ := H
            refine sb_iald (pc' := 104) rfl aI_121 o11.1 o11.2 dX11_finds_103 ?_
            refine sb_icmp_le (pc' := 107) (tgt := 110) rfl (by decide) (SR_ia hs5 _ _) (SR_ia hs5 _ _) dX11_finds_104 ?_ ?_
            · intro cc; have H := H.1 cc
              refine sb_aload_n (pc' := 111) rfl rfl dX11_finds_110 ?_
              refine sb_iload_n (pc' := 112) rfl rfl dX11_finds_111 ?_
              refine sb_putI (pc' := 115) rfl fi_102_46 (Or.inl rfl) wd_1596 dX11_finds_112 ?_
              refine sb_aload_n (pc' := 116) rfl rfl dX11_finds_115 ?_
              refine sb_iload_n (pc' := 117) rfl rfl dX11_finds_116 ?_
              refine sb_putI (pc' := 120) rfl fi_102_47 (Or.inl rfl) wd_1597 dX11_finds_117 ?_
              refine sb_iinc (pc' := 123) rfl rfl (L' := [some (.ref (ad 102)), some (vi (x1 + 1)), some (vi ((ia s1 120 x1) + r5))]) rfl (by decide) dX11_finds_120 ?_
              refine sb_goto (tgt := 19) (by decide) dX11_finds_123 ?_
              obtain ⟨o12, H⟩ := H
              refine Wb.forget [true, true, false] ?_
              exact (H o12 (SR_setS (SR_setS hs5 hx1) o8))
            · intro cc; have H := H.2 cc
              refine sb_goto (tgt := 120) (by decide) dX11_finds_107 ?_
              refine sb_iinc (pc' := 123) rfl rfl (L' := [some (.ref (ad 102)), some (vi (x1 + 1)), some (vi ((ia s1 120 x1) + r5))]) rfl (by decide) dX11_finds_120 ?_
              refine sb_goto (tgt := 19) (by decide) dX11_finds_123 ?_
              obtain ⟨o13, H⟩ := H
              refine Wb.forget [true, true, false] ?_
              exact (H o13 hs5)
    · intro cc; have H := H.2 cc
      refine sb_goto (tgt := 120) (by decide) dX11_finds_44 ?_
      refine sb_iinc (pc' := 123) rfl rfl (L' := [some (.ref (ad 102)), some (vi (x1 + 1)), none]) rfl (by decide) dX11_finds_120 ?_
      refine sb_goto (tgt := 19) (by decide) dX11_finds_123 ?_
      obtain ⟨o14, H⟩ := H
      exact (H o14 hs1)
theorem bX11_stepsOf_0 {g : AG} {ad : Nat → Nat} {d : Nat} {Q : AO → SG → Prop} {rc rs : Nat} {σ : SG} {x1 : Int}  (hx1 : iR x1) (hS : SR σ) (H : (iR x1 → iR 0 → iR x1 → SR σ → Wb g ad d mX11_stepsOf Q 4 [some (.ref (ad 102)), some (vi x1), some (vi 0), some (vi x1)] [] σ rc rs)) : Wb g ad d mX11_stepsOf Q 0 [some (.ref (ad 102)), some (vi x1), none, none] [] σ rc rs := by
  refine sb_iconst (pc' := 1) rfl dX11_stepsOf_0 ?_
  refine sb_istore_n (pc' := 2) rfl (L' := [some (.ref (ad 102)), some (vi x1), some (vi 0), none]) rfl (by decide) dX11_stepsOf_1 ?_
  refine sb_iload_n (pc' := 3) rfl rfl dX11_stepsOf_2 ?_
  refine sb_istore_n (pc' := 4) rfl (L' := [some (.ref (ad 102)), some (vi x1), some (vi 0), some (vi x1)]) rfl (by decide) dX11_stepsOf_3 ?_
  exact (H hx1 (iR_lit rfl) hx1 hS)
theorem bX11_stepsOf_4 {g : AG} {ad : Nat → Nat} {d : Nat} {Q : AO → SG → Prop} {rc rs : Nat} {σ : SG} {x1 x2 x3 : Int}  (hx1 : iR x1) (hx2 : iR x2) (hx3 : iR x3) (hS : SR σ) (H : (0 ≤ x3 ∧ x3 < 18816) ∧ (((ia σ 122 x3) = ((-1)) → (iR x2 → SR σ → Q (.inl (some (vi x2))) σ)) ∧ (¬ (ia σ 122 x3) = ((-1)) → iR (x2 + 1) ∧ (iR x1 → iR (x2 + 1) → iR (ia σ 122 x3) → SR σ → Wb g ad d mX11_stepsOf Q 4 [some (.ref (ad 102)), some (vi x1), some (vi (x2 + 1)), some (vi (ia σ 122 x3))] [] σ rc rs)))) : Wb g ad d mX11_stepsOf Q 4 [some (.ref (ad 102)), some (vi x1), some (vi x2), some (vi x3)] [] σ rc rs := by
  refine sb_aload_n (pc' := 5) rfl rfl dX11_stepsOf_4 ?_
  refine sb_getC (pc' := 8) rfl fc_102_38 wd_1588 dX11_stepsOf_5 ?_
  refine sb_iload_n (pc' := 9) rfl rfl dX11_stepsOf_8 ?_
  obtain ⟨o1, H⟩ := H
  refine sb_iald (pc' := 10) rfl aI_122 o1.1 o1.2 dX11_stepsOf_9 ?_
  refine sb_iconst (pc' := 11) rfl dX11_stepsOf_10 ?_
  refine sb_icmp_eq (pc' := 14) (tgt := 27) rfl (by decide) (SR_ia hS _ _) (iR_lit rfl) dX11_stepsOf_11 ?_ ?_
  · intro cc; have H := H.1 cc
    refine sb_iload_n (pc' := 28) rfl rfl dX11_stepsOf_27 ?_
    exact sb_iret rfl rfl dX11_stepsOf_28 (H hx2 hS)
  · intro cc; have H := H.2 cc
    refine sb_iinc (pc' := 17) rfl rfl (L' := [some (.ref (ad 102)), some (vi x1), some (vi (x2 + 1)), some (vi x3)]) rfl (by decide) dX11_stepsOf_14 ?_
    refine sb_aload_n (pc' := 18) rfl rfl dX11_stepsOf_17 ?_
    refine sb_getC (pc' := 21) rfl fc_102_38 wd_1588 dX11_stepsOf_18 ?_
    refine sb_iload_n (pc' := 22) rfl rfl dX11_stepsOf_21 ?_
    refine sb_iald (pc' := 23) rfl aI_122 o1.1 o1.2 dX11_stepsOf_22 ?_
    refine sb_istore_n (pc' := 24) rfl (L' := [some (.ref (ad 102)), some (vi x1), some (vi (x2 + 1)), some (vi (ia σ 122 x3))]) rfl (by decide) dX11_stepsOf_23 ?_
    refine sb_goto (tgt := 4) (by decide) dX11_stepsOf_24 ?_
    obtain ⟨o2, H⟩ := H
    exact (H hx1 o2 (SR_ia hS _ _) hS)
theorem bX11_found_0 {g : AG} {ad : Nat → Nat} {d : Nat} {Q : AO → SG → Prop} {rc rs : Nat} {σ : SG} {x1 : Int}  (hx1 : iR x1) (hS : SR σ) (H : Cl g ad d mX11_isIn 0 0 [(vi x1), (vi 0), (vi 4)] σ (Ki fun r1 s1 => ((r1 = 0 → (((sc (setS s1 102 0 1) 102 0) ≤ 0 → Cl g ad d mX11_stacks 0 0 [(.ref (ad 102))] (setS s1 102 0 1) (Kv fun s2 => (((x1 < 0 ∨ 3 < x1) → (iR (sc s2 102 45) → SR s2 → Q (.inl (some (vi (sc s2 102 45)))) s2)) ∧ (x1 = 0 → (iR (sc s2 102 47) → SR s2 → Q (.inl (some (vi (sc s2 102 47)))) s2)) ∧ (x1 = 1 → ((¬ (sc s2 102 46) = ((-1)) → Cl g ad d mX11_stepsOf 0 0 [(.ref (ad 102)), (vi (sc s2 102 46))] s2 (Ki fun r3 s3 => (iR r3 → SR s3 → Q (.inl (some (vi r3))) s3))) ∧ ((sc s2 102 46) = ((-1)) → (iR ((-1)) → SR s2 → Q (.inl (some (vi ((-1))))) s2)))) ∧ (x1 = 2 → (iR (sc s2 102 43) → SR s2 → Q (.inl (some (vi (sc s2 102 43)))) s2)) ∧ (x1 = 3 → (iR (sc s2 102 44) → SR s2 → Q (.inl (some (vi (sc s2 102 44)))) s2))))) ∧ (¬ (sc (setS s1 102 0 1) 102 0) ≤ 0 → (iR 0 → SR (setS s1 102 0 1) → Q (.inl (some (vi 0))) (setS s1 102 0 1))))) ∧ (¬ r1 = 0 → (((sc (setS s1 102 0 0) 102 0) ≤ 0 → Cl g ad d mX11_stacks 0 0 [(.ref (ad 102))] (setS s1 102 0 0) (Kv fun s4 => (((x1 < 0 ∨ 3 < x1) → (iR (sc s4 102 45) → SR s4 → Q (.inl (some (vi (sc s4 102 45)))) s4)) ∧ (x1 = 0 → (iR (sc s4 102 47) → SR s4 → Q (.inl (some (vi (sc s4 102 47)))) s4)) ∧ (x1 = 1 → ((¬ (sc s4 102 46) = ((-1)) → Cl g ad d mX11_stepsOf 0 0 [(.ref (ad 102)), (vi (sc s4 102 46))] s4 (Ki fun r5 s5 => (iR r5 → SR s5 → Q (.inl (some (vi r5))) s5))) ∧ ((sc s4 102 46) = ((-1)) → (iR ((-1)) → SR s4 → Q (.inl (some (vi ((-1))))) s4)))) ∧ (x1 = 2 → (iR (sc s4 102 43) → SR s4 → Q (.inl (some (vi (sc s4 102 43)))) s4)) ∧ (x1 = 3 → (iR (sc s4 102 44) → SR s4 → Q (.inl (some (vi (sc s4 102 44)))) s4))))) ∧ (¬ (sc (setS s1 102 0 0) 102 0) ≤ 0 → (iR 0 → SR (setS s1 102 0 0) → Q (.inl (some (vi 0))) (setS s1 102 0 0)))))))) : Wb g ad d mX11_found Q 0 [some (.ref (ad 102)), some (vi x1)] [] σ rc rs := by
  refine sb_aload_n (pc' := 1) rfl rfl dX11_found_0 ?_
  refine sb_iload_n (pc' := 2) rfl rfl dX11_found_1 ?_
  refine sb_iconst (pc' := 3) rfl dX11_found_2 ?_
  refine sb_iconst (pc' := 4) rfl dX11_found_3 ?_
  obtain ⟨d1, hd1, H⟩ := H
  refine sb_callS (pc' := 7) rfl rfl (rc := rc) (rs := rs) (mc' := 0) (ms' := 0) (As := [(vi x1), (vi 0), (vi 4)]) (st := [(.ref (ad 102))])  rfl rfl (Nat.le_of_ble_eq_true rfl) hd1 kX11_isIn ⟨wd_1719, wd_1720⟩ dX11_found_4 (Eb.mono H ?_)
  rintro o s1 ⟨r1, rfl, hr1, hs1, H⟩
  show Wb g ad d mX11_found Q 7 [some (.ref (ad 102)), some (vi x1)] [(vi r1), (.ref (ad 102))] s1 rc rs
  refine sb_if_eq (pc' := 10) (tgt := 14) rfl (by decide) hr1 dX11_found_7 ?_ ?_
  · intro cc; have H := H.1 cc
    refine sb_iconst (pc' := 15) rfl dX11_found_14 ?_
    refine sb_putI (pc' := 18) rfl fi_102_0 (Or.inl rfl) wd_1550 dX11_found_15 ?_
    refine sb_aload_n (pc' := 19) rfl rfl dX11_found_18 ?_
    refine sb_getI (pc' := 22) rfl fi_102_0 wd_1550 dX11_found_19 ?_
    refine sb_if_le (pc' := 25) (tgt := 27) rfl (by decide) (SR_sc (SR_setS hs1 (iR_lit rfl)) _ _) dX11_found_22 ?_ ?_
    · intro cc; have H := H.1 cc
      refine sb_aload_n (pc' := 28) rfl rfl dX11_found_27 ?_
      obtain ⟨d2, hd2, H⟩ := H
      refine sb_callV (pc' := 31) rfl rfl (rc := rc) (rs := rs) (mc' := 0) (ms' := 0) (As := []) (st := []) of_102 rfl rfl (Nat.le_of_ble_eq_true rfl) hd2 kX11_stacks ⟨wd_2017, wd_2019, wd_146⟩ dX11_found_28 (Eb.mono H ?_)
      rintro o s2 ⟨rfl, hs2, H⟩
      show Wb g ad d mX11_found Q 31 [some (.ref (ad 102)), some (vi x1)] [] s2 rc rs
      refine sb_iload_n (pc' := 32) rfl rfl dX11_found_31 ?_
      by_cases cc : x1 < 0 ∨ 3 < x1
      · have H := H.1 cc
        refine sb_swOut (tgt := 100) hx1 cc (by decide) dX11_found_32 ?_
        refine sb_aload_n (pc' := 101) rfl rfl dX11_found_100 ?_
        refine sb_getI (pc' := 104) rfl fi_102_45 wd_1595 dX11_found_101 ?_
        exact sb_iret rfl rfl dX11_found_104 (H (SR_sc hs2 _ _) hs2)
      · have H := H.2
        rcases (show x1 = 0 ∨ x1 = 1 ∨ x1 = 2 ∨ x1 = 3 by omega) with cc | cc | cc | cc
        · have H := H.1 cc
          refine sb_swIn (tgt := 64) (off := 32) hx1 (by omega) (by omega) (by rw [cc]; rfl) (by decide) dX11_found_32 ?_
          refine sb_aload_n (pc' := 65) rfl rfl dX11_found_64 ?_
          refine sb_getI (pc' := 68) rfl fi_102_47 wd_1597 dX11_found_65 ?_
          exact sb_iret rfl rfl dX11_found_68 (H (SR_sc hs2 _ _) hs2)
        · have H := H.2.1 cc
          refine sb_swIn (tgt := 69) (off := 37) hx1 (by omega) (by omega) (by rw [cc]; rfl) (by decide) dX11_found_32 ?_
          refine sb_aload_n (pc' := 70) rfl rfl dX11_found_69 ?_
          refine sb_getI (pc' := 73) rfl fi_102_46 wd_1596 dX11_found_70 ?_
          refine sb_iconst (pc' := 74) rfl dX11_found_73 ?_
          refine sb_icmp_ne (pc' := 77) (tgt := 81) rfl (by decide) (SR_sc hs2 _ _) (iR_lit rfl) dX11_found_74 ?_ ?_
          · intro cc; have H := H.1 cc
            refine sb_aload_n (pc' := 82) rfl rfl dX11_found_81 ?_
            refine sb_aload_n (pc' := 83) rfl rfl dX11_found_82 ?_
            refine sb_getI (pc' := 86) rfl fi_102_46 wd_1596 dX11_found_83 ?_
            obtain ⟨d3, hd3, H⟩ := H
            refine sb_callV (pc' := 89) rfl rfl (rc := rc) (rs := rs) (mc' := 0) (ms' := 0) (As := [(vi (sc s2 102 46))]) (st := []) of_102 rfl rfl (Nat.le_of_ble_eq_true rfl) hd3 kX11_stepsOf ⟨wd_2067, wd_2069, wd_157⟩ dX11_found_86 (Eb.mono H ?_)
            rintro o s3 ⟨r3, rfl, hr3, hs3, H⟩
            show Wb g ad d mX11_found Q 89 [some (.ref (ad 102)), some (vi x1)] [(vi r3)] s3 rc rs
            exact sb_iret rfl rfl dX11_found_89 (H hr3 hs3)
          · intro cc; have H := H.2 cc
            refine sb_iconst (pc' := 78) rfl dX11_found_77 ?_
            refine sb_goto (tgt := 89) (by decide) dX11_found_78 ?_
            exact sb_iret rfl rfl dX11_found_89 (H (iR_lit rfl) hs2)
        · have H := H.2.2.1 cc
          refine sb_swIn (tgt := 90) (off := 58) hx1 (by omega) (by omega) (by rw [cc]; rfl) (by decide) dX11_found_32 ?_
          refine sb_aload_n (pc' := 91) rfl rfl dX11_found_90 ?_
          refine sb_getI (pc' := 94) rfl fi_102_43 wd_1593 dX11_found_91 ?_
          exact sb_iret rfl rfl dX11_found_94 (H (SR_sc hs2 _ _) hs2)
        · have H := H.2.2.2 cc
          refine sb_swIn (tgt := 95) (off := 63) hx1 (by omega) (by omega) (by rw [cc]; rfl) (by decide) dX11_found_32 ?_
          refine sb_aload_n (pc' := 96) rfl rfl dX11_found_95 ?_
          refine sb_getI (pc' := 99) rfl fi_102_44 wd_1594 dX11_found_96 ?_
          exact sb_iret rfl rfl dX11_found_99 (H (SR_sc hs2 _ _) hs2)
    · intro cc; have H := H.2 cc
      refine sb_iconst (pc' := 26) rfl dX11_found_25 ?_
      exact sb_iret rfl rfl dX11_found_26 (H (iR_lit rfl) (SR_setS hs1 (iR_lit rfl)))
  · intro cc; have H := H.2 cc
    refine sb_iconst (pc' := 11) rfl dX11_found_10 ?_
    refine sb_goto (tgt := 15) (by decide) dX11_found_11 ?_
    refine sb_putI (pc' := 18) rfl fi_102_0 (Or.inl rfl) wd_1550 dX11_found_15 ?_
    refine sb_aload_n (pc' := 19) rfl rfl dX11_found_18 ?_
    refine sb_getI (pc' := 22) rfl fi_102_0 wd_1550 dX11_found_19 ?_
    refine sb_if_le (pc' := 25) (tgt := 27) rfl (by decide) (SR_sc (SR_setS hs1 (iR_lit rfl)) _ _) dX11_found_22 ?_ ?_
    · intro cc; have H := H.1 cc
      refine sb_aload_n (pc' := 28) rfl rfl dX11_found_27 ?_
      obtain ⟨d4, hd4, H⟩ := H
      refine sb_callV (pc' := 31) rfl rfl (rc := rc) (rs := rs) (mc' := 0) (ms' := 0) (As := []) (st := []) of_102 rfl rfl (Nat.le_of_ble_eq_true rfl) hd4 kX11_stacks ⟨wd_2017, wd_2019, wd_146⟩ dX11_found_28 (Eb.mono H ?_)
      rintro o s4 ⟨rfl, hs4, H⟩
      show Wb g ad d mX11_found Q 31 [some (.ref (ad 102)), some (vi x1)] [] s4 rc rs
      refine sb_iload_n (pc' := 32) rfl rfl dX11_found_31 ?_
      by_cases cc : x1 < 0 ∨ 3 < x1
      · have H := H.1 cc
        refine sb_swOut (tgt := 100) hx1 cc (by decide) dX11_found_32 ?_
        refine sb_aload_n (pc' := 101) rfl rfl dX11_found_100 ?_
        refine sb_getI (pc' := 104) rfl fi_102_45 wd_1595 dX11_found_101 ?_
        exact sb_iret rfl rfl dX11_found_104 (H (SR_sc hs4 _ _) hs4)
      · have H := H.2
        rcases (show x1 = 0 ∨ x1 = 1 ∨ x1 = 2 ∨ x1 = 3 by omega) with cc | cc | cc | cc
        · have H := H.1 cc
          refine sb_swIn (tgt := 64) (off := 32) hx1 (by omega) (by omega) (by rw [cc]; rfl) (by decide) dX11_found_32 ?_
          refine sb_aload_n (pc' := 65) rfl rfl dX11_found_64 ?_
          refine sb_getI (pc' := 68) rfl fi_102_47 wd_1597 dX11_found_65 ?_
          exact sb_iret rfl rfl dX11_found_68 (H (SR_sc hs4 _ _) hs4)
        · have H := H.2.1 cc
          refine sb_swIn (tgt := 69) (off := 37) hx1 (by omega) (by omega) (by rw [cc]; rfl) (by decide) dX11_found_32 ?_
          refine sb_aload_n (pc' := 70) rfl rfl dX11_found_69 ?_
          refine sb_getI (pc' := 73) rfl fi_102_46 wd_1596 dX11_found_70 ?_
          refine sb_iconst (pc' := 74) rfl dX11_found_73 ?_
          refine sb_icmp_ne (pc' := 77) (tgt := 81) rfl (by decide) (SR_sc hs4 _ _) (iR_lit rfl) dX11_found_74 ?_ ?_
          · intro cc; have H := H.1 cc
            refine sb_aload_n (pc' := 82) rfl rfl dX11_found_81 ?_
            refine sb_aload_n (pc' := 83) rfl rfl dX11_found_82 ?_
            refine sb_getI (pc' := 86) rfl fi_102_46 wd_1596 dX11_found_83 ?_
            obtain ⟨d5, hd5, H⟩ := H
            refine sb_callV (pc' := 89) rfl rfl (rc := rc) (rs := rs) (mc' := 0) (ms' := 0) (As := [(vi (sc s4 102 46))]) (st := []) of_102 rfl rfl (Nat.le_of_ble_eq_true rfl) hd5 kX11_stepsOf ⟨wd_2067, wd_2069, wd_157⟩ dX11_found_86 (Eb.mono H ?_)
            rintro o s5 ⟨r5, rfl, hr5, hs5, H⟩
            show Wb g ad d mX11_found Q 89 [some (.ref (ad 102)), some (vi x1)] [(vi r5)] s5 rc rs
            exact sb_iret rfl rfl dX11_found_89 (H hr5 hs5)
          · intro cc; have H := H.2 cc
            refine sb_iconst (pc' := 78) rfl dX11_found_77 ?_
            refine sb_goto (tgt := 89) (by decide) dX11_found_78 ?_
            exact sb_iret rfl rfl dX11_found_89 (H (iR_lit rfl) hs4)
        · have H := H.2.2.1 cc
          refine sb_swIn (tgt := 90) (off := 58) hx1 (by omega) (by omega) (by rw [cc]; rfl) (by decide) dX11_found_32 ?_
          refine sb_aload_n (pc' := 91) rfl rfl dX11_found_90 ?_
          refine sb_getI (pc' := 94) rfl fi_102_43 wd_1593 dX11_found_91 ?_
          exact sb_iret rfl rfl dX11_found_94 (H (SR_sc hs4 _ _) hs4)
        · have H := H.2.2.2 cc
          refine sb_swIn (tgt := 95) (off := 63) hx1 (by omega) (by omega) (by rw [cc]; rfl) (by decide) dX11_found_32 ?_
          refine sb_aload_n (pc' := 96) rfl rfl dX11_found_95 ?_
          refine sb_getI (pc' := 99) rfl fi_102_44 wd_1594 dX11_found_96 ?_
          exact sb_iret rfl rfl dX11_found_99 (H (SR_sc hs4 _ _) hs4)
    · intro cc; have H := H.2 cc
      refine sb_iconst (pc' := 26) rfl dX11_found_25 ?_
      exact sb_iret rfl rfl dX11_found_26 (H (iR_lit rfl) (SR_setS hs1 (iR_lit rfl)))
theorem bX11_halves_0 {g : AG} {ad : Nat → Nat} {d : Nat} {Q : AO → SG → Prop} {rc rs : Nat} {σ : SG} {x1 x2 : Int}  (hx1 : iR x1) (hx2 : iR x2) (hS : SR σ) (H : Cl g ad d mX11_isIn 0 0 [(vi x2), (vi 0), (vi 1)] σ (Ki fun r1 s1 => ((r1 = 0 → (((sc (setS s1 102 0 1) 102 0) ≤ 0 → Cl g ad d mX11_stacks 0 0 [(.ref (ad 102))] (setS s1 102 0 1) (Kv fun s2 => (((sc s2 102 46) = ((-1)) → (iR ((-1)) → SR s2 → Q (.inl (some (vi ((-1))))) s2)) ∧ (¬ (sc s2 102 46) = ((-1)) → Cl g ad d mX11_stepsOf 0 0 [(.ref (ad 102)), (vi (sc s2 102 46))] s2 (Ki fun r3 s3 => Cl g ad d mX11_isIn 0 0 [(vi x1), (vi 0), (vi (r3 - 1))] s3 (Ki fun r4 s4 => ((¬ r4 = 0 → Cl g ad d mX11_stepsOf 0 0 [(.ref (ad 102)), (vi (sc s4 102 46))] s4 (Ki fun r5 s5 => iR (r5 - 1) ∧ (iR x1 → iR x2 → iR (sc s4 102 46) → iR (r5 - 1) → SR s5 → Wb g ad d mX11_halves Q 76 [some (.ref (ad 102)), some (vi x1), some (vi x2), some (vi (sc s4 102 46)), some (vi (r5 - 1))] [] s5 rc rs))) ∧ (r4 = 0 → (iR ((-1)) → SR s4 → Q (.inl (some (vi ((-1))))) s4))))))))) ∧ (¬ (sc (setS s1 102 0 1) 102 0) ≤ 0 → (iR 0 → SR (setS s1 102 0 1) → Q (.inl (some (vi 0))) (setS s1 102 0 1))))) ∧ (¬ r1 = 0 → (((sc (setS s1 102 0 0) 102 0) ≤ 0 → Cl g ad d mX11_stacks 0 0 [(.ref (ad 102))] (setS s1 102 0 0) (Kv fun s7 => (((sc s7 102 46) = ((-1)) → (iR ((-1)) → SR s7 → Q (.inl (some (vi ((-1))))) s7)) ∧ (¬ (sc s7 102 46) = ((-1)) → Cl g ad d mX11_stepsOf 0 0 [(.ref (ad 102)), (vi (sc s7 102 46))] s7 (Ki fun r8 s8 => Cl g ad d mX11_isIn 0 0 [(vi x1), (vi 0), (vi (r8 - 1))] s8 (Ki fun r9 s9 => ((¬ r9 = 0 → Cl g ad d mX11_stepsOf 0 0 [(.ref (ad 102)), (vi (sc s9 102 46))] s9 (Ki fun r10 s10 => iR (r10 - 1) ∧ (iR x1 → iR x2 → iR (sc s9 102 46) → iR (r10 - 1) → SR s10 → Wb g ad d mX11_halves Q 76 [some (.ref (ad 102)), some (vi x1), some (vi x2), some (vi (sc s9 102 46)), some (vi (r10 - 1))] [] s10 rc rs))) ∧ (r9 = 0 → (iR ((-1)) → SR s9 → Q (.inl (some (vi ((-1))))) s9))))))))) ∧ (¬ (sc (setS s1 102 0 0) 102 0) ≤ 0 → (iR 0 → SR (setS s1 102 0 0) → Q (.inl (some (vi 0))) (setS s1 102 0 0)))))))) : Wb g ad d mX11_halves Q 0 [some (.ref (ad 102)), some (vi x1), some (vi x2), none, none] [] σ rc rs := by
  refine sb_aload_n (pc' := 1) rfl rfl dX11_halves_0 ?_
  refine sb_iload_n (pc' := 2) rfl rfl dX11_halves_1 ?_
  refine sb_iconst (pc' := 3) rfl dX11_halves_2 ?_
  refine sb_iconst (pc' := 4) rfl dX11_halves_3 ?_
  obtain ⟨d1, hd1, H⟩ := H
  refine sb_callS (pc' := 7) rfl rfl (rc := rc) (rs := rs) (mc' := 0) (ms' := 0) (As := [(vi x2), (vi 0), (vi 1)]) (st := [(.ref (ad 102))])  rfl rfl (Nat.le_of_ble_eq_true rfl) hd1 kX11_isIn ⟨wd_1719, wd_1720⟩ dX11_halves_4 (Eb.mono H ?_)
  rintro o s1 ⟨r1, rfl, hr1, hs1, H⟩
  show Wb g ad d mX11_halves Q 7 [some (.ref (ad 102)), some (vi x1), some (vi x2), none, none] [(vi r1), (.ref (ad 102))] s1 rc rs
  refine sb_if_eq (pc' := 10) (tgt := 14) rfl (by decide) hr1 dX11_halves_7 ?_ ?_
  · intro cc; have H := H.1 cc
    refine sb_iconst (pc' := 15) rfl dX11_halves_14 ?_
    refine sb_putI (pc' := 18) rfl fi_102_0 (Or.inl rfl) wd_1550 dX11_halves_15 ?_
    refine sb_aload_n (pc' := 19) rfl rfl dX11_halves_18 ?_
    refine sb_getI (pc' := 22) rfl fi_102_0 wd_1550 dX11_halves_19 ?_
    refine sb_if_le (pc' := 25) (tgt := 27) rfl (by decide) (SR_sc (SR_setS hs1 (iR_lit rfl)) _ _) dX11_halves_22 ?_ ?_
    · intro cc; have H := H.1 cc
      refine sb_aload_n (pc' := 28) rfl rfl dX11_halves_27 ?_
      obtain ⟨d2, hd2, H⟩ := H
      refine sb_callV (pc' := 31) rfl rfl (rc := rc) (rs := rs) (mc' := 0) (ms' := 0) (As := []) (st := []) of_102 rfl rfl (Nat.le_of_ble_eq_true rfl) hd2 kX11_stacks ⟨wd_2017, wd_2019, wd_146⟩ dX11_halves_28 (Eb.mono H ?_)
      rintro o s2 ⟨rfl, hs2, H⟩
      show Wb g ad d mX11_halves Q 31 [some (.ref (ad 102)), some (vi x1), some (vi x2), none, none] [] s2 rc rs
      refine sb_aload_n (pc' := 32) rfl rfl dX11_halves_31 ?_
      refine sb_getI (pc' := 35) rfl fi_102_46 wd_1596 dX11_halves_32 ?_
      refine sb_iconst (pc' := 36) rfl dX11_halves_35 ?_
      refine sb_icmp_eq (pc' := 39) (tgt := 57) rfl (by decide) (SR_sc hs2 _ _) (iR_lit rfl) dX11_halves_36 ?_ ?_
      · intro cc; have H := H.1 cc
        refine sb_iconst (pc' := 58) rfl dX11_halves_57 ?_
        exact sb_iret rfl rfl dX11_halves_58 (H (iR_lit rfl) hs2)
      · intro cc; have H := H.2 cc
        refine sb_iload_n (pc' := 40) rfl rfl dX11_halves_39 ?_
        refine sb_iconst (pc' := 41) rfl dX11_halves_40 ?_
        refine sb_aload_n (pc' := 42) rfl rfl dX11_halves_41 ?_
        refine sb_aload_n (pc' := 43) rfl rfl dX11_halves_42 ?_
        refine sb_getI (pc' := 46) rfl fi_102_46 wd_1596 dX11_halves_43 ?_
        obtain ⟨d3, hd3, H⟩ := H
        refine sb_callV (pc' := 49) rfl rfl (rc := rc) (rs := rs) (mc' := 0) (ms' := 0) (As := [(vi (sc s2 102 46))]) (st := [(vi 0), (vi x1)]) of_102 rfl rfl (Nat.le_of_ble_eq_true rfl) hd3 kX11_stepsOf ⟨wd_2067, wd_2069, wd_157⟩ dX11_halves_46 (Eb.mono H ?_)
        rintro o s3 ⟨r3, rfl, hr3, hs3, H⟩
        show Wb g ad d mX11_halves Q 49 [some (.ref (ad 102)), some (vi x1), some (vi x2), none, none] [(vi r3), (vi 0), (vi x1)] s3 rc rs
        refine sb_iconst (pc' := 50) rfl dX11_halves_49 ?_
        refine sb_isub (pc' := 51) rfl dX11_halves_50 ?_
        obtain ⟨d4, hd4, H⟩ := H
        refine sb_callS (pc' := 54) rfl rfl (rc := rc) (rs := rs) (mc' := 0) (ms' := 0) (As := [(vi x1), (vi 0), (vi (r3 - 1))]) (st := [])  rfl rfl (Nat.le_of_ble_eq_true rfl) hd4 kX11_isIn ⟨wd_1719, wd_1720⟩ dX11_halves_51 (Eb.mono H ?_)
        rintro o s4 ⟨r4, rfl, hr4, hs4, H⟩
        show Wb g ad d mX11_halves Q 54 [some (.ref (ad 102)), some (vi x1), some (vi x2), none, none] [(vi r4)] s4 rc rs
        refine sb_if_ne (pc' := 57) (tgt := 59) rfl (by decide) hr4 dX11_halves_54 ?_ ?_
        · intro cc; have H := H.1 cc
          refine sb_aload_n (pc' := 60) rfl rfl dX11_halves_59 ?_
          refine sb_getI (pc' := 63) rfl fi_102_46 wd_1596 dX11_halves_60 ?_
          refine sb_istore_n (pc' := 64) rfl (L' := [some (.ref (ad 102)), some (vi x1), some (vi x2), some (vi (sc s4 102 46)), none]) rfl (by decide) dX11_halves_63 ?_
          refine sb_aload_n (pc' := 65) rfl rfl dX11_halves_64 ?_
          refine sb_aload_n (pc' := 66) rfl rfl dX11_halves_65 ?_
          refine sb_getI (pc' := 69) rfl fi_102_46 wd_1596 dX11_halves_66 ?_
          obtain ⟨d5, hd5, H⟩ := H
          refine sb_callV (pc' := 72) rfl rfl (rc := rc) (rs := rs) (mc' := 0) (ms' := 0) (As := [(vi (sc s4 102 46))]) (st := []) of_102 rfl rfl (Nat.le_of_ble_eq_true rfl) hd5 kX11_stepsOf ⟨wd_2067, wd_2069, wd_157⟩ dX11_halves_69 (Eb.mono H ?_)
          rintro o s5 ⟨r5, rfl, hr5, hs5, H⟩
          show Wb g ad d mX11_halves Q 72 [some (.ref (ad 102)), some (vi x1), some (vi x2), some (vi (sc s4 102 46)), none] [(vi r5)] s5 rc rs
          refine sb_iconst (pc' := 73) rfl dX11_halves_72 ?_
          refine sb_isub (pc' := 74) rfl dX11_halves_73 ?_
          refine sb_istore (pc' := 76) rfl (L' := [some (.ref (ad 102)), some (vi x1), some (vi x2), some (vi (sc s4 102 46)), some (vi (r5 - 1))]) rfl (by decide) dX11_halves_74 ?_
          obtain ⟨o6, H⟩ := H
          exact (H hx1 hx2 (SR_sc hs4 _ _) o6 hs5)
        · intro cc; have H := H.2 cc
          refine sb_iconst (pc' := 58) rfl dX11_halves_57 ?_
          exact sb_iret rfl rfl dX11_halves_58 (H (iR_lit rfl) hs4)
    · intro cc; have H := H.2 cc
      refine sb_iconst (pc' := 26) rfl dX11_halves_25 ?_
      exact sb_iret rfl rfl dX11_halves_26 (H (iR_lit rfl) (SR_setS hs1 (iR_lit rfl)))
  · intro cc; have H := H.2 cc
    refine sb_iconst (pc' := 11) rfl dX11_halves_10 ?_
    refine sb_goto (tgt := 15) (by decide) dX11_halves_11 ?_
    refine sb_putI (pc' := 18) rfl fi_102_0 (Or.inl rfl) wd_1550 dX11_halves_15 ?_
    refine sb_aload_n (pc' := 19) rfl rfl dX11_halves_18 ?_
    refine sb_getI (pc' := 22) rfl fi_102_0 wd_1550 dX11_halves_19 ?_
    refine sb_if_le (pc' := 25) (tgt := 27) rfl (by decide) (SR_sc (SR_setS hs1 (iR_lit rfl)) _ _) dX11_halves_22 ?_ ?_
    · intro cc; have H := H.1 cc
      refine sb_aload_n (pc' := 28) rfl rfl dX11_halves_27 ?_
      obtain ⟨d7, hd7, H⟩ := H
      refine sb_callV (pc' := 31) rfl rfl (rc := rc) (rs := rs) (mc' := 0) (ms' := 0) (As := []) (st := []) of_102 rfl rfl (Nat.le_of_ble_eq_true rfl) hd7 kX11_stacks ⟨wd_2017, wd_2019, wd_146⟩ dX11_halves_28 (Eb.mono H ?_)
      rintro o s7 ⟨rfl, hs7, H⟩
      show Wb g ad d mX11_halves Q 31 [some (.ref (ad 102)), some (vi x1), some (vi x2), none, none] [] s7 rc rs
      refine sb_aload_n (pc' := 32) rfl rfl dX11_halves_31 ?_
      refine sb_getI (pc' := 35) rfl fi_102_46 wd_1596 dX11_halves_32 ?_
      refine sb_iconst (pc' := 36) rfl dX11_halves_35 ?_
      refine sb_icmp_eq (pc' := 39) (tgt := 57) rfl (by decide) (SR_sc hs7 _ _) (iR_lit rfl) dX11_halves_36 ?_ ?_
      · intro cc; have H := H.1 cc
        refine sb_iconst (pc' := 58) rfl dX11_halves_57 ?_
        exact sb_iret rfl rfl dX11_halves_58 (H (iR_lit rfl) hs7)
      · intro cc; have H := H.2 cc
        refine sb_iload_n (pc' := 40) rfl rfl dX11_halves_39 ?_
        refine sb_iconst (pc' := 41) rfl dX11_halves_40 ?_
        refine sb_aload_n (pc' := 42) rfl rfl dX11_halves_41 ?_
        refine sb_aload_n (pc' := 43) rfl rfl dX11_halves_42 ?_
        refine sb_getI (pc' := 46) rfl fi_102_46 wd_1596 dX11_halves_43 ?_
        obtain ⟨d8, hd8, H⟩ := H
        refine sb_callV (pc' := 49) rfl rfl (rc := rc) (rs := rs) (mc' := 0) (ms' := 0) (As := [(vi (sc s7 102 46))]) (st := [(vi 0), (vi x1)]) of_102 rfl rfl (Nat.le_of_ble_eq_true rfl) hd8 kX11_stepsOf ⟨wd_2067, wd_2069, wd_157⟩ dX11_halves_46 (Eb.mono H ?_)
        rintro o s8 ⟨r8, rfl, hr8, hs8, H⟩
        show Wb g ad d mX11_halves Q 49 [some (.ref (ad 102)), some (vi x1), some (vi x2), none, none] [(vi r8), (vi 0), (vi x1)] s8 rc rs
        refine sb_iconst (pc' := 50) rfl dX11_halves_49 ?_
        refine sb_isub (pc' := 51) rfl dX11_halves_50 ?_
        obtain ⟨d9, hd9, H⟩ := H
        refine sb_callS (pc' := 54) rfl rfl (rc := rc) (rs := rs) (mc' := 0) (ms' := 0) (As := [(vi x1), (vi 0), (vi (r8 - 1))]) (st := [])  rfl rfl (Nat.le_of_ble_eq_true rfl) hd9 kX11_isIn ⟨wd_1719, wd_1720⟩ dX11_halves_51 (Eb.mono H ?_)
        rintro o s9 ⟨r9, rfl, hr9, hs9, H⟩
        show Wb g ad d mX11_halves Q 54 [some (.ref (ad 102)), some (vi x1), some (vi x2), none, none] [(vi r9)] s9 rc rs
        refine sb_if_ne (pc' := 57) (tgt := 59) rfl (by decide) hr9 dX11_halves_54 ?_ ?_
        · intro cc; have H := H.1 cc
          refine sb_aload_n (pc' := 60) rfl rfl dX11_halves_59 ?_
          refine sb_getI (pc' := 63) rfl fi_102_46 wd_1596 dX11_halves_60 ?_
          refine sb_istore_n (pc' := 64) rfl (L' := [some (.ref (ad 102)), some (vi x1), some (vi x2), some (vi (sc s9 102 46)), none]) rfl (by decide) dX11_halves_63 ?_
          refine sb_aload_n (pc' := 65) rfl rfl dX11_halves_64 ?_
          refine sb_aload_n (pc' := 66) rfl rfl dX11_halves_65 ?_
          refine sb_getI (pc' := 69) rfl fi_102_46 wd_1596 dX11_halves_66 ?_
          obtain ⟨d10, hd10, H⟩ := H
          refine sb_callV (pc' := 72) rfl rfl (rc := rc) (rs := rs) (mc' := 0) (ms' := 0) (As := [(vi (sc s9 102 46))]) (st := []) of_102 rfl rfl (Nat.le_of_ble_eq_true rfl) hd10 kX11_stepsOf ⟨wd_2067, wd_2069, wd_157⟩ dX11_halves_69 (Eb.mono H ?_)
          rintro o s10 ⟨r10, rfl, hr10, hs10, H⟩
          show Wb g ad d mX11_halves Q 72 [some (.ref (ad 102)), some (vi x1), some (vi x2), some (vi (sc s9 102 46)), none] [(vi r10)] s10 rc rs
          refine sb_iconst (pc' := 73) rfl dX11_halves_72 ?_
          refine sb_isub (pc' := 74) rfl dX11_halves_73 ?_
          refine sb_istore (pc' := 76) rfl (L' := [some (.ref (ad 102)), some (vi x1), some (vi x2), some (vi (sc s9 102 46)), some (vi (r10 - 1))]) rfl (by decide) dX11_halves_74 ?_
          obtain ⟨o11, H⟩ := H
          exact (H hx1 hx2 (SR_sc hs9 _ _) o11 hs10)
        · intro cc; have H := H.2 cc
          refine sb_iconst (pc' := 58) rfl dX11_halves_57 ?_
          exact sb_iret rfl rfl dX11_halves_58 (H (iR_lit rfl) hs9)
    · intro cc; have H := H.2 cc
      refine sb_iconst (pc' := 26) rfl dX11_halves_25 ?_
      exact sb_iret rfl rfl dX11_halves_26 (H (iR_lit rfl) (SR_setS hs1 (iR_lit rfl)))
theorem bX11_halves_76 {g : AG} {ad : Nat → Nat} {d : Nat} {Q : AO → SG → Prop} {rc rs : Nat} {σ : SG} {x1 x2 x3 x4 : Int}  (hx1 : iR x1) (hx2 : iR x2) (hx3 : iR x3) (hx4 : iR x4) (hS : SR σ) (H : ((x4 ≤ x1 → ((¬ x2 = 0 → (0 ≤ x3 ∧ x3 < 18816) ∧ (iR (ia σ 124 x3) → SR σ → Q (.inl (some (vi (ia σ 124 x3)))) σ)) ∧ (x2 = 0 → (0 ≤ x3 ∧ x3 < 18816) ∧ (iR (ia σ 123 x3) → SR σ → Q (.inl (some (vi (ia σ 123 x3)))) σ)))) ∧ (¬ x4 ≤ x1 → (0 ≤ x3 ∧ x3 < 18816) ∧ iR (x4 + (-1)) ∧ (iR x1 → iR x2 → iR (ia σ 122 x3) → iR (x4 + (-1)) → SR σ → Wb g ad d mX11_halves Q 76 [some (.ref (ad 102)), some (vi x1), some (vi x2), some (vi (ia σ 122 x3)), some (vi (x4 + (-1)))] [] σ rc rs)))) : Wb g ad d mX11_halves Q 76 [some (.ref (ad 102)), some (vi x1), some (vi x2), some (vi x3), some (vi x4)] [] σ rc rs := by
  refine sb_iload (pc' := 78) rfl rfl dX11_halves_76 ?_
  refine sb_iload_n (pc' := 79) rfl rfl dX11_halves_78 ?_
  refine sb_icmp_le (pc' := 82) (tgt := 95) rfl (by decide) hx4 hx1 dX11_halves_79 ?_ ?_
  · intro cc; have H := H.1 cc
    refine sb_iload_n (pc' := 96) rfl rfl dX11_halves_95 ?_
    refine sb_if_ne (pc' := 99) (tgt := 108) rfl (by decide) hx2 dX11_halves_96 ?_ ?_
    · intro cc; have H := H.1 cc
      refine sb_aload_n (pc' := 109) rfl rfl dX11_halves_108 ?_
      refine sb_getC (pc' := 112) rfl fc_102_40 wd_1590 dX11_halves_109 ?_
      refine sb_iload_n (pc' := 113) rfl rfl dX11_halves_112 ?_
      obtain ⟨o1, H⟩ := H
      refine sb_iald (pc' := 114) rfl aI_124 o1.1 o1.2 dX11_halves_113 ?_
      exact sb_iret rfl rfl dX11_halves_114 (H (SR_ia hS _ _) hS)
    · intro cc; have H := H.2 cc
      refine sb_aload_n (pc' := 100) rfl rfl dX11_halves_99 ?_
      refine sb_getC (pc' := 103) rfl fc_102_39 wd_1589 dX11_halves_100 ?_
      refine sb_iload_n (pc' := 104) rfl rfl dX11_halves_103 ?_
      obtain ⟨o2, H⟩ := H
      refine sb_iald (pc' := 105) rfl aI_123 o2.1 o2.2 dX11_halves_104 ?_
      refine sb_goto (tgt := 114) (by decide) dX11_halves_105 ?_
      exact sb_iret rfl rfl dX11_halves_114 (H (SR_ia hS _ _) hS)
  · intro cc; have H := H.2 cc
    refine sb_aload_n (pc' := 83) rfl rfl dX11_halves_82 ?_
    refine sb_getC (pc' := 86) rfl fc_102_38 wd_1588 dX11_halves_83 ?_
    refine sb_iload_n (pc' := 87) rfl rfl dX11_halves_86 ?_
    obtain ⟨o3, H⟩ := H
    refine sb_iald (pc' := 88) rfl aI_122 o3.1 o3.2 dX11_halves_87 ?_
    refine sb_istore_n (pc' := 89) rfl (L' := [some (.ref (ad 102)), some (vi x1), some (vi x2), some (vi (ia σ 122 x3)), some (vi x4)]) rfl (by decide) dX11_halves_88 ?_
    refine sb_iinc (pc' := 92) rfl rfl (L' := [some (.ref (ad 102)), some (vi x1), some (vi x2), some (vi (ia σ 122 x3)), some (vi (x4 + (-1)))]) rfl (by decide) dX11_halves_89 ?_
    refine sb_goto (tgt := 76) (by decide) dX11_halves_92 ?_
    obtain ⟨o4, H⟩ := H
    exact (H hx1 hx2 (SR_ia hS _ _) o4 hS)
theorem bX11_stack_0 {g : AG} {ad : Nat → Nat} {d : Nat} {Q : AO → SG → Prop} {rc rs : Nat} {σ : SG} {x1 x2 : Int}  (hx1 : iR x1) (hx2 : iR x2) (hS : SR σ) (H : Cl g ad d mX11_isIn 0 0 [(vi x1), (vi 0), (vi (ia σ 103 3))] σ (Ki fun r1 s1 => ((¬ r1 = 0 → Cl g ad d mX11_isIn 0 0 [(vi x2), (vi 0), (vi 1)] s1 (Ki fun r2 s2 => ((¬ r2 = 0 → (((sc (setS s2 102 0 0) 102 0) ≤ 0 → Cl g ad d mX11_stacks 0 0 [(.ref (ad 102))] (setS s2 102 0 0) (Kv fun s3 => ((¬ x2 = 0 → (0 ≤ x1 ∧ x1 < 7) ∧ (iR (ia s3 126 x1) → SR s3 → Q (.inl (some (vi (ia s3 126 x1)))) s3)) ∧ (x2 = 0 → (0 ≤ x1 ∧ x1 < 7) ∧ (iR (ia s3 125 x1) → SR s3 → Q (.inl (some (vi (ia s3 125 x1)))) s3))))) ∧ (¬ (sc (setS s2 102 0 0) 102 0) ≤ 0 → (iR 0 → SR (setS s2 102 0 0) → Q (.inl (some (vi 0))) (setS s2 102 0 0))))) ∧ (r2 = 0 → (((sc (setS s2 102 0 2) 102 0) ≤ 0 → Cl g ad d mX11_stacks 0 0 [(.ref (ad 102))] (setS s2 102 0 2) (Kv fun s6 => ((¬ x2 = 0 → (0 ≤ x1 ∧ x1 < 7) ∧ (iR (ia s6 126 x1) → SR s6 → Q (.inl (some (vi (ia s6 126 x1)))) s6)) ∧ (x2 = 0 → (0 ≤ x1 ∧ x1 < 7) ∧ (iR (ia s6 125 x1) → SR s6 → Q (.inl (some (vi (ia s6 125 x1)))) s6))))) ∧ (¬ (sc (setS s2 102 0 2) 102 0) ≤ 0 → (iR 0 → SR (setS s2 102 0 2) → Q (.inl (some (vi 0))) (setS s2 102 0 2)))))))) ∧ (r1 = 0 → (((sc (setS s1 102 0 1) 102 0) ≤ 0 → Cl g ad d mX11_stacks 0 0 [(.ref (ad 102))] (setS s1 102 0 1) (Kv fun s9 => ((¬ x2 = 0 → (0 ≤ x1 ∧ x1 < 7) ∧ (iR (ia s9 126 x1) → SR s9 → Q (.inl (some (vi (ia s9 126 x1)))) s9)) ∧ (x2 = 0 → (0 ≤ x1 ∧ x1 < 7) ∧ (iR (ia s9 125 x1) → SR s9 → Q (.inl (some (vi (ia s9 125 x1)))) s9))))) ∧ (¬ (sc (setS s1 102 0 1) 102 0) ≤ 0 → (iR 0 → SR (setS s1 102 0 1) → Q (.inl (some (vi 0))) (setS s1 102 0 1)))))))) : Wb g ad d mX11_stack Q 0 [some (.ref (ad 102)), some (vi x1), some (vi x2)] [] σ rc rs := by
  refine sb_aload_n (pc' := 1) rfl rfl dX11_stack_0 ?_
  refine sb_iload_n (pc' := 2) rfl rfl dX11_stack_1 ?_
  refine sb_iconst (pc' := 3) rfl dX11_stack_2 ?_
  refine sb_aload_n (pc' := 4) rfl rfl dX11_stack_3 ?_
  refine sb_getC (pc' := 7) rfl fc_102_1 wd_1551 dX11_stack_4 ?_
  refine sb_iconst (pc' := 8) rfl dX11_stack_7 ?_
  refine sb_iald (pc' := 9) rfl aI_103 (by decide) (by decide) dX11_stack_8 ?_
  obtain ⟨d1, hd1, H⟩ := H
  refine sb_callS (pc' := 12) rfl rfl (rc := rc) (rs := rs) (mc' := 0) (ms' := 0) (As := [(vi x1), (vi 0), (vi (ia σ 103 3))]) (st := [(.ref (ad 102))])  rfl rfl (Nat.le_of_ble_eq_true rfl) hd1 kX11_isIn ⟨wd_1719, wd_1720⟩ dX11_stack_9 (Eb.mono H ?_)
  rintro o s1 ⟨r1, rfl, hr1, hs1, H⟩
  show Wb g ad d mX11_stack Q 12 [some (.ref (ad 102)), some (vi x1), some (vi x2)] [(vi r1), (.ref (ad 102))] s1 rc rs
  refine sb_if_ne (pc' := 15) (tgt := 19) rfl (by decide) hr1 dX11_stack_12 ?_ ?_
  · intro cc; have H := H.1 cc
    refine sb_iload_n (pc' := 20) rfl rfl dX11_stack_19 ?_
    refine sb_iconst (pc' := 21) rfl dX11_stack_20 ?_
    refine sb_iconst (pc' := 22) rfl dX11_stack_21 ?_
    obtain ⟨d2, hd2, H⟩ := H
    refine sb_callS (pc' := 25) rfl rfl (rc := rc) (rs := rs) (mc' := 0) (ms' := 0) (As := [(vi x2), (vi 0), (vi 1)]) (st := [(.ref (ad 102))])  rfl rfl (Nat.le_of_ble_eq_true rfl) hd2 kX11_isIn ⟨wd_1719, wd_1720⟩ dX11_stack_22 (Eb.mono H ?_)
    rintro o s2 ⟨r2, rfl, hr2, hs2, H⟩
    show Wb g ad d mX11_stack Q 25 [some (.ref (ad 102)), some (vi x1), some (vi x2)] [(vi r2), (.ref (ad 102))] s2 rc rs
    refine sb_if_ne (pc' := 28) (tgt := 32) rfl (by decide) hr2 dX11_stack_25 ?_ ?_
    · intro cc; have H := H.1 cc
      refine sb_iconst (pc' := 33) rfl dX11_stack_32 ?_
      refine sb_putI (pc' := 36) rfl fi_102_0 (Or.inl rfl) wd_1550 dX11_stack_33 ?_
      refine sb_aload_n (pc' := 37) rfl rfl dX11_stack_36 ?_
      refine sb_getI (pc' := 40) rfl fi_102_0 wd_1550 dX11_stack_37 ?_
      refine sb_if_le (pc' := 43) (tgt := 45) rfl (by decide) (SR_sc (SR_setS hs2 (iR_lit rfl)) _ _) dX11_stack_40 ?_ ?_
      · intro cc; have H := H.1 cc
        refine sb_aload_n (pc' := 46) rfl rfl dX11_stack_45 ?_
        obtain ⟨d3, hd3, H⟩ := H
        refine sb_callV (pc' := 49) rfl rfl (rc := rc) (rs := rs) (mc' := 0) (ms' := 0) (As := []) (st := []) of_102 rfl rfl (Nat.le_of_ble_eq_true rfl) hd3 kX11_stacks ⟨wd_2017, wd_2019, wd_146⟩ dX11_stack_46 (Eb.mono H ?_)
        rintro o s3 ⟨rfl, hs3, H⟩
        show Wb g ad d mX11_stack Q 49 [some (.ref (ad 102)), some (vi x1), some (vi x2)] [] s3 rc rs
        refine sb_iload_n (pc' := 50) rfl rfl dX11_stack_49 ?_
        refine sb_if_ne (pc' := 53) (tgt := 62) rfl (by decide) hx2 dX11_stack_50 ?_ ?_
        · intro cc; have H := H.1 cc
          refine sb_aload_n (pc' := 63) rfl rfl dX11_stack_62 ?_
          refine sb_getC (pc' := 66) rfl fc_102_42 wd_1592 dX11_stack_63 ?_
          refine sb_iload_n (pc' := 67) rfl rfl dX11_stack_66 ?_
          obtain ⟨o4, H⟩ := H
          refine sb_iald (pc' := 68) rfl aI_126 o4.1 o4.2 dX11_stack_67 ?_
          exact sb_iret rfl rfl dX11_stack_68 (H (SR_ia hs3 _ _) hs3)
        · intro cc; have H := H.2 cc
          refine sb_aload_n (pc' := 54) rfl rfl dX11_stack_53 ?_
          refine sb_getC (pc' := 57) rfl fc_102_41 wd_1591 dX11_stack_54 ?_
          refine sb_iload_n (pc' := 58) rfl rfl dX11_stack_57 ?_
          obtain ⟨o5, H⟩ := H
          refine sb_iald (pc' := 59) rfl aI_125 o5.1 o5.2 dX11_stack_58 ?_
          refine sb_goto (tgt := 68) (by decide) dX11_stack_59 ?_
          exact sb_iret rfl rfl dX11_stack_68 (H (SR_ia hs3 _ _) hs3)
      · intro cc; have H := H.2 cc
        refine sb_iconst (pc' := 44) rfl dX11_stack_43 ?_
        exact sb_iret rfl rfl dX11_stack_44 (H (iR_lit rfl) (SR_setS hs2 (iR_lit rfl)))
    · intro cc; have H := H.2 cc
      refine sb_iconst (pc' := 29) rfl dX11_stack_28 ?_
      refine sb_goto (tgt := 33) (by decide) dX11_stack_29 ?_
      refine sb_putI (pc' := 36) rfl fi_102_0 (Or.inl rfl) wd_1550 dX11_stack_33 ?_
      refine sb_aload_n (pc' := 37) rfl rfl dX11_stack_36 ?_
      refine sb_getI (pc' := 40) rfl fi_102_0 wd_1550 dX11_stack_37 ?_
      refine sb_if_le (pc' := 43) (tgt := 45) rfl (by decide) (SR_sc (SR_setS hs2 (iR_lit rfl)) _ _) dX11_stack_40 ?_ ?_
      · intro cc; have H := H.1 cc
        refine sb_aload_n (pc' := 46) rfl rfl dX11_stack_45 ?_
        obtain ⟨d6, hd6, H⟩ := H
        refine sb_callV (pc' := 49) rfl rfl (rc := rc) (rs := rs) (mc' := 0) (ms' := 0) (As := []) (st := []) of_102 rfl rfl (Nat.le_of_ble_eq_true rfl) hd6 kX11_stacks ⟨wd_2017, wd_2019, wd_146⟩ dX11_stack_46 (Eb.mono H ?_)
        rintro o s6 ⟨rfl, hs6, H⟩
        show Wb g ad d mX11_stack Q 49 [some (.ref (ad 102)), some (vi x1), some (vi x2)] [] s6 rc rs
        refine sb_iload_n (pc' := 50) rfl rfl dX11_stack_49 ?_
        refine sb_if_ne (pc' := 53) (tgt := 62) rfl (by decide) hx2 dX11_stack_50 ?_ ?_
        · intro cc; have H := H.1 cc
          refine sb_aload_n (pc' := 63) rfl rfl dX11_stack_62 ?_
          refine sb_getC (pc' := 66) rfl fc_102_42 wd_1592 dX11_stack_63 ?_
          refine sb_iload_n (pc' := 67) rfl rfl dX11_stack_66 ?_
          obtain ⟨o7, H⟩ := H
          refine sb_iald (pc' := 68) rfl aI_126 o7.1 o7.2 dX11_stack_67 ?_
          exact sb_iret rfl rfl dX11_stack_68 (H (SR_ia hs6 _ _) hs6)
        · intro cc; have H := H.2 cc
          refine sb_aload_n (pc' := 54) rfl rfl dX11_stack_53 ?_
          refine sb_getC (pc' := 57) rfl fc_102_41 wd_1591 dX11_stack_54 ?_
          refine sb_iload_n (pc' := 58) rfl rfl dX11_stack_57 ?_
          obtain ⟨o8, H⟩ := H
          refine sb_iald (pc' := 59) rfl aI_125 o8.1 o8.2 dX11_stack_58 ?_
          refine sb_goto (tgt := 68) (by decide) dX11_stack_59 ?_
          exact sb_iret rfl rfl dX11_stack_68 (H (SR_ia hs6 _ _) hs6)
      · intro cc; have H := H.2 cc
        refine sb_iconst (pc' := 44) rfl dX11_stack_43 ?_
        exact sb_iret rfl rfl dX11_stack_44 (H (iR_lit rfl) (SR_setS hs2 (iR_lit rfl)))
  · intro cc; have H := H.2 cc
    refine sb_iconst (pc' := 16) rfl dX11_stack_15 ?_
    refine sb_goto (tgt := 33) (by decide) dX11_stack_16 ?_
    refine sb_putI (pc' := 36) rfl fi_102_0 (Or.inl rfl) wd_1550 dX11_stack_33 ?_
    refine sb_aload_n (pc' := 37) rfl rfl dX11_stack_36 ?_
    refine sb_getI (pc' := 40) rfl fi_102_0 wd_1550 dX11_stack_37 ?_
    refine sb_if_le (pc' := 43) (tgt := 45) rfl (by decide) (SR_sc (SR_setS hs1 (iR_lit rfl)) _ _) dX11_stack_40 ?_ ?_
    · intro cc; have H := H.1 cc
      refine sb_aload_n (pc' := 46) rfl rfl dX11_stack_45 ?_
      obtain ⟨d9, hd9, H⟩ := H
      refine sb_callV (pc' := 49) rfl rfl (rc := rc) (rs := rs) (mc' := 0) (ms' := 0) (As := []) (st := []) of_102 rfl rfl (Nat.le_of_ble_eq_true rfl) hd9 kX11_stacks ⟨wd_2017, wd_2019, wd_146⟩ dX11_stack_46 (Eb.mono H ?_)
      rintro o s9 ⟨rfl, hs9, H⟩
      show Wb g ad d mX11_stack Q 49 [some (.ref (ad 102)), some (vi x1), some (vi x2)] [] s9 rc rs
      refine sb_iload_n (pc' := 50) rfl rfl dX11_stack_49 ?_
      refine sb_if_ne (pc' := 53) (tgt := 62) rfl (by decide) hx2 dX11_stack_50 ?_ ?_
      · intro cc; have H := H.1 cc
        refine sb_aload_n (pc' := 63) rfl rfl dX11_stack_62 ?_
        refine sb_getC (pc' := 66) rfl fc_102_42 wd_1592 dX11_stack_63 ?_
        refine sb_iload_n (pc' := 67) rfl rfl dX11_stack_66 ?_
        obtain ⟨o10, H⟩ := H
        refine sb_iald (pc' := 68) rfl aI_126 o10.1 o10.2 dX11_stack_67 ?_
        exact sb_iret rfl rfl dX11_stack_68 (H (SR_ia hs9 _ _) hs9)
      · intro cc; have H := H.2 cc
        refine sb_aload_n (pc' := 54) rfl rfl dX11_stack_53 ?_
        refine sb_getC (pc' := 57) rfl fc_102_41 wd_1591 dX11_stack_54 ?_
        refine sb_iload_n (pc' := 58) rfl rfl dX11_stack_57 ?_
        obtain ⟨o11, H⟩ := H
        refine sb_iald (pc' := 59) rfl aI_125 o11.1 o11.2 dX11_stack_58 ?_
        refine sb_goto (tgt := 68) (by decide) dX11_stack_59 ?_
        exact sb_iret rfl rfl dX11_stack_68 (H (SR_ia hs9 _ _) hs9)
    · intro cc; have H := H.2 cc
      refine sb_iconst (pc' := 44) rfl dX11_stack_43 ?_
      exact sb_iret rfl rfl dX11_stack_44 (H (iR_lit rfl) (SR_setS hs1 (iR_lit rfl)))
theorem bX11_isTold_0 {g : AG} {ad : Nat → Nat} {d : Nat} {Q : AO → SG → Prop} {rc rs : Nat} {σ : SG}    (hS : SR σ) (H : Cl g ad d mX11_begins 0 0 [(.ref (ad 102))] σ (Kv fun s1 => Cl g ad d mX11_wordsInto 0 0 [(.ref (ad 102)), (.ref (ad 109)), (vi 0), (vi 18), (vi 0)] s1 (Ki fun r2 s2 => ((¬ (sc (setS s2 102 14 r2) 102 9) = ((-1)) → Cl g ad d mX11_isRight 0 0 [(.ref (ad 102))] (setS s2 102 14 r2) (Ki fun r3 s3 => (r3 = 0 ∨ r3 = 1) ∧ (iR r3 → SR s3 → Q (.inl (some (vi r3))) s3))) ∧ ((sc (setS s2 102 14 r2) 102 9) = ((-1)) → Cl g ad d mX11_here 0 0 [(.ref (ad 102))] (setS s2 102 14 r2) (Ki fun r5 s5 => (((sc s5 102 7) ≤ r5 → Cl g ad d mX11_isRight 0 0 [(.ref (ad 102))] s5 (Ki fun r6 s6 => (r6 = 0 ∨ r6 = 1) ∧ (iR r6 → SR s6 → Q (.inl (some (vi r6))) s6))) ∧ (¬ (sc s5 102 7) ≤ r5 → Cl g ad d mX11_wrong 0 0 [(.ref (ad 102)), (vi (sc s5 102 8))] s5 (Kv fun s8 => Cl g ad d mX11_isRight 0 0 [(.ref (ad 102))] s8 (Ki fun r9 s9 => (r9 = 0 ∨ r9 = 1) ∧ (iR r9 → SR s9 → Q (.inl (some (vi r9))) s9))))))))))) : Wb g ad d mX11_isTold Q 0 [some (.ref (ad 102))] [] σ rc rs := by
  refine sb_aload_n (pc' := 1) rfl rfl dX11_isTold_0 ?_
  obtain ⟨d1, hd1, H⟩ := H
  refine sb_callV (pc' := 4) rfl rfl (rc := rc) (rs := rs) (mc' := 0) (ms' := 0) (As := []) (st := []) of_102 rfl rfl (Nat.le_of_ble_eq_true rfl) hd1 kX11_begins ⟨wd_1726, wd_1728, wd_98⟩ dX11_isTold_1 (Eb.mono H ?_)
  rintro o s1 ⟨rfl, hs1, H⟩
  show Wb g ad d mX11_isTold Q 4 [some (.ref (ad 102))] [] s1 rc rs
  refine sb_aload_n (pc' := 5) rfl rfl dX11_isTold_4 ?_
  refine sb_aload_n (pc' := 6) rfl rfl dX11_isTold_5 ?_
  refine sb_aload_n (pc' := 7) rfl rfl dX11_isTold_6 ?_
  refine sb_getC (pc' := 10) rfl fc_102_13 wd_1563 dX11_isTold_7 ?_
  refine sb_iconst (pc' := 11) rfl dX11_isTold_10 ?_
  refine sb_bipush (pc' := 13) rfl (z := 18) (by decide) dX11_isTold_11 ?_
  refine sb_iconst (pc' := 14) rfl dX11_isTold_13 ?_
  obtain ⟨d2, hd2, H⟩ := H
  refine sb_callV (pc' := 17) rfl rfl (rc := rc) (rs := rs) (mc' := 0) (ms' := 0) (As := [(.ref (ad 109)), (vi 0), (vi 18), (vi 0)]) (st := [(.ref (ad 102))]) of_102 rfl rfl (Nat.le_of_ble_eq_true rfl) hd2 kX11_wordsInto ⟨wd_1746, wd_1748, wd_103⟩ dX11_isTold_14 (Eb.mono H ?_)
  rintro o s2 ⟨r2, rfl, hr2, hs2, H⟩
  show Wb g ad d mX11_isTold Q 17 [some (.ref (ad 102))] [(vi r2), (.ref (ad 102))] s2 rc rs
  refine sb_putI (pc' := 20) rfl fi_102_14 (Or.inl rfl) wd_1564 dX11_isTold_17 ?_
  refine sb_aload_n (pc' := 21) rfl rfl dX11_isTold_20 ?_
  refine sb_getI (pc' := 24) rfl fi_102_9 wd_1559 dX11_isTold_21 ?_
  refine sb_iconst (pc' := 25) rfl dX11_isTold_24 ?_
  refine sb_icmp_ne (pc' := 28) (tgt := 47) rfl (by decide) (SR_sc (SR_setS hs2 hr2) _ _) (iR_lit rfl) dX11_isTold_25 ?_ ?_
  · intro cc; have H := H.1 cc
    refine sb_aload_n (pc' := 48) rfl rfl dX11_isTold_47 ?_
    obtain ⟨d3, hd3, H⟩ := H
    refine sb_callV (pc' := 51) rfl rfl (rc := rc) (rs := rs) (mc' := 0) (ms' := 0) (As := []) (st := []) of_102 rfl rfl (Nat.le_of_ble_eq_true rfl) hd3 kX11_isRight ⟨wd_1790, wd_1792, wd_114⟩ dX11_isTold_48 (Eb.mono H ?_)
    rintro o s3 ⟨r3, rfl, hr3, hs3, H⟩
    show Wb g ad d mX11_isTold Q 51 [some (.ref (ad 102))] [(vi r3)] s3 rc rs
    obtain ⟨o4, H⟩ := H
    exact sb_iret rfl (nar_z2 o4) dX11_isTold_51 (H hr3 hs3)
  · intro cc; have H := H.2 cc
    refine sb_aload_n (pc' := 29) rfl rfl dX11_isTold_28 ?_
    obtain ⟨d5, hd5, H⟩ := H
    refine sb_callV (pc' := 32) rfl rfl (rc := rc) (rs := rs) (mc' := 0) (ms' := 0) (As := []) (st := []) of_102 rfl rfl (Nat.le_of_ble_eq_true rfl) hd5 kX11_here ⟨wd_1734, wd_1736, wd_100⟩ dX11_isTold_29 (Eb.mono H ?_)
    rintro o s5 ⟨r5, rfl, hr5, hs5, H⟩
    show Wb g ad d mX11_isTold Q 32 [some (.ref (ad 102))] [(vi r5)] s5 rc rs
    refine sb_aload_n (pc' := 33) rfl rfl dX11_isTold_32 ?_
    refine sb_getI (pc' := 36) rfl fi_102_7 wd_1557 dX11_isTold_33 ?_
    refine sb_icmp_ge (pc' := 39) (tgt := 47) rfl (by decide) hr5 (SR_sc hs5 _ _) dX11_isTold_36 ?_ ?_
    · intro cc; have H := H.1 cc
      refine sb_aload_n (pc' := 48) rfl rfl dX11_isTold_47 ?_
      obtain ⟨d6, hd6, H⟩ := H
      refine sb_callV (pc' := 51) rfl rfl (rc := rc) (rs := rs) (mc' := 0) (ms' := 0) (As := []) (st := []) of_102 rfl rfl (Nat.le_of_ble_eq_true rfl) hd6 kX11_isRight ⟨wd_1790, wd_1792, wd_114⟩ dX11_isTold_48 (Eb.mono H ?_)
      rintro o s6 ⟨r6, rfl, hr6, hs6, H⟩
      show Wb g ad d mX11_isTold Q 51 [some (.ref (ad 102))] [(vi r6)] s6 rc rs
      obtain ⟨o7, H⟩ := H
      exact sb_iret rfl (nar_z2 o7) dX11_isTold_51 (H hr6 hs6)
    · intro cc; have H := H.2 cc
      refine sb_aload_n (pc' := 40) rfl rfl dX11_isTold_39 ?_
      refine sb_aload_n (pc' := 41) rfl rfl dX11_isTold_40 ?_
      refine sb_getI (pc' := 44) rfl fi_102_8 wd_1558 dX11_isTold_41 ?_
      obtain ⟨d8, hd8, H⟩ := H
      refine sb_callV (pc' := 47) rfl rfl (rc := rc) (rs := rs) (mc' := 0) (ms' := 0) (As := [(vi (sc s5 102 8))]) (st := []) of_102 rfl rfl (Nat.le_of_ble_eq_true rfl) hd8 kX11_wrong ⟨wd_1738, wd_1740, wd_101⟩ dX11_isTold_44 (Eb.mono H ?_)
      rintro o s8 ⟨rfl, hs8, H⟩
      show Wb g ad d mX11_isTold Q 47 [some (.ref (ad 102))] [] s8 rc rs
      refine sb_aload_n (pc' := 48) rfl rfl dX11_isTold_47 ?_
      obtain ⟨d9, hd9, H⟩ := H
      refine sb_callV (pc' := 51) rfl rfl (rc := rc) (rs := rs) (mc' := 0) (ms' := 0) (As := []) (st := []) of_102 rfl rfl (Nat.le_of_ble_eq_true rfl) hd9 kX11_isRight ⟨wd_1790, wd_1792, wd_114⟩ dX11_isTold_48 (Eb.mono H ?_)
      rintro o s9 ⟨r9, rfl, hr9, hs9, H⟩
      show Wb g ad d mX11_isTold Q 51 [some (.ref (ad 102))] [(vi r9)] s9 rc rs
      obtain ⟨o10, H⟩ := H
      exact sb_iret rfl (nar_z2 o10) dX11_isTold_51 (H hr9 hs9)
theorem bX11_isSpoken_0 {g : AG} {ad : Nat → Nat} {d : Nat} {Q : AO → SG → Prop} {rc rs : Nat} {σ : SG} {x1 x2 x3 : Int}  (hx1 : iR x1) (hx2 : iR x2) (hx3 : iR x3) (hS : SR σ) (H : Cl g ad d mX11_targetMany 0 0 [(.ref (ad 102)), (vi x1)] σ (Ki fun r1 s1 => iR (x3 + r1) ∧ (((x3 + r1) ≤ (sc s1 102 14) → (iR x1 → iR x2 → iR x3 → iR 0 → SR s1 → Wb g ad d mX11_isSpoken Q 19 [some (.ref (ad 102)), some (vi x1), some (vi x2), some (vi x3), some (vi 0)] [] s1 rc rs)) ∧ (¬ (x3 + r1) ≤ (sc s1 102 14) → (iR 0 → SR s1 → Q (.inl (some (vi 0))) s1))))) : Wb g ad d mX11_isSpoken Q 0 [some (.ref (ad 102)), some (vi x1), some (vi x2), some (vi x3), none] [] σ rc rs := by
  refine sb_iload_n (pc' := 1) rfl rfl dX11_isSpoken_0 ?_
  refine sb_aload_n (pc' := 2) rfl rfl dX11_isSpoken_1 ?_
  refine sb_iload_n (pc' := 3) rfl rfl dX11_isSpoken_2 ?_
  obtain ⟨d1, hd1, H⟩ := H
  refine sb_callV (pc' := 6) rfl rfl (rc := rc) (rs := rs) (mc' := 0) (ms' := 0) (As := [(vi x1)]) (st := [(vi x3)]) of_102 rfl rfl (Nat.le_of_ble_eq_true rfl) hd1 kX11_targetMany ⟨wd_1913, wd_1915, wd_137⟩ dX11_isSpoken_3 (Eb.mono H ?_)
  rintro o s1 ⟨r1, rfl, hr1, hs1, H⟩
  show Wb g ad d mX11_isSpoken Q 6 [some (.ref (ad 102)), some (vi x1), some (vi x2), some (vi x3), none] [(vi r1), (vi x3)] s1 rc rs
  refine sb_iadd (pc' := 7) rfl dX11_isSpoken_6 ?_
  refine sb_aload_n (pc' := 8) rfl rfl dX11_isSpoken_7 ?_
  refine sb_getI (pc' := 11) rfl fi_102_14 wd_1564 dX11_isSpoken_8 ?_
  obtain ⟨o2, H⟩ := H
  refine sb_icmp_le (pc' := 14) (tgt := 16) rfl (by decide) o2 (SR_sc hs1 _ _) dX11_isSpoken_11 ?_ ?_
  · intro cc; have H := H.1 cc
    refine sb_iconst (pc' := 17) rfl dX11_isSpoken_16 ?_
    refine sb_istore (pc' := 19) rfl (L' := [some (.ref (ad 102)), some (vi x1), some (vi x2), some (vi x3), some (vi 0)]) rfl (by decide) dX11_isSpoken_17 ?_
    exact (H hx1 hx2 hx3 (iR_lit rfl) hs1)
  · intro cc; have H := H.2 cc
    refine sb_iconst (pc' := 15) rfl dX11_isSpoken_14 ?_
    exact sb_iret rfl (nar_z2 (Or.inl rfl)) dX11_isSpoken_15 (H (iR_lit rfl) hs1)
theorem bX11_isSpoken_19 {g : AG} {ad : Nat → Nat} {d : Nat} {Q : AO → SG → Prop} {rc rs : Nat} {σ : SG} {x1 x2 x3 x4 : Int}  (hx1 : iR x1) (hx2 : iR x2) (hx3 : iR x3) (hx4 : iR x4) (hS : SR σ) (H : Cl g ad d mX11_targetMany 0 0 [(.ref (ad 102)), (vi x1)] σ (Ki fun r1 s1 => ((r1 ≤ x4 → (iR 1 → SR s1 → Q (.inl (some (vi 1))) s1)) ∧ (¬ r1 ≤ x4 → (0 ≤ x3 + x4 ∧ x3 + x4 < 18) ∧ Cl g ad d mX11_targetOf 0 0 [(.ref (ad 102)), (vi x1), (vi x2), (vi x4)] s1 (Ki fun r3 s3 => (((ia s1 109 (x3 + x4)) = r3 → iR (x4 + 1) ∧ (iR x1 → iR x2 → iR x3 → iR (x4 + 1) → SR s3 → Wb g ad d mX11_isSpoken Q 19 [some (.ref (ad 102)), some (vi x1), some (vi x2), some (vi x3), some (vi (x4 + 1))] [] s3 rc rs)) ∧ (¬ (ia s1 109 (x3 + x4)) = r3 → (iR 0 → SR s3 → Q (.inl (some (vi 0))) s3)))))))) : Wb g ad d mX11_isSpoken Q 19 [some (.ref (ad 102)), some (vi x1), some (vi x2), some (vi x3), some (vi x4)] [] σ rc rs := by
  refine sb_iload (pc' := 21) rfl rfl dX11_isSpoken_19 ?_
  refine sb_aload_n (pc' := 22) rfl rfl dX11_isSpoken_21 ?_
  refine sb_iload_n (pc' := 23) rfl rfl dX11_isSpoken_22 ?_
  obtain ⟨d1, hd1, H⟩ := H
  refine sb_callV (pc' := 26) rfl rfl (rc := rc) (rs := rs) (mc' := 0) (ms' := 0) (As := [(vi x1)]) (st := [(vi x4)]) of_102 rfl rfl (Nat.le_of_ble_eq_true rfl) hd1 kX11_targetMany ⟨wd_1913, wd_1915, wd_137⟩ dX11_isSpoken_23 (Eb.mono H ?_)
  rintro o s1 ⟨r1, rfl, hr1, hs1, H⟩
  show Wb g ad d mX11_isSpoken Q 26 [some (.ref (ad 102)), some (vi x1), some (vi x2), some (vi x3), some (vi x4)] [(vi r1), (vi x4)] s1 rc rs
  refine sb_icmp_ge (pc' := 29) (tgt := 57) rfl (by decide) hx4 hr1 dX11_isSpoken_26 ?_ ?_
  · intro cc; have H := H.1 cc
    refine sb_iconst (pc' := 58) rfl dX11_isSpoken_57 ?_
    exact sb_iret rfl (nar_z2 (Or.inr rfl)) dX11_isSpoken_58 (H (iR_lit rfl) hs1)
  · intro cc; have H := H.2 cc
    refine sb_aload_n (pc' := 30) rfl rfl dX11_isSpoken_29 ?_
    refine sb_getC (pc' := 33) rfl fc_102_13 wd_1563 dX11_isSpoken_30 ?_
    refine sb_iload_n (pc' := 34) rfl rfl dX11_isSpoken_33 ?_
    refine sb_iload (pc' := 36) rfl rfl dX11_isSpoken_34 ?_
    refine sb_iadd (pc' := 37) rfl dX11_isSpoken_36 ?_
    obtain ⟨o2, H⟩ := H
    refine sb_iald (pc' := 38) rfl aI_109 o2.1 o2.2 dX11_isSpoken_37 ?_
    refine sb_aload_n (pc' := 39) rfl rfl dX11_isSpoken_38 ?_
    refine sb_iload_n (pc' := 40) rfl rfl dX11_isSpoken_39 ?_
    refine sb_iload_n (pc' := 41) rfl rfl dX11_isSpoken_40 ?_
    refine sb_iload (pc' := 43) rfl rfl dX11_isSpoken_41 ?_
    obtain ⟨d3, hd3, H⟩ := H
    refine sb_callV (pc' := 46) rfl rfl (rc := rc) (rs := rs) (mc' := 0) (ms' := 0) (As := [(vi x1), (vi x2), (vi x4)]) (st := [(vi (ia s1 109 (x3 + x4)))]) of_102 rfl rfl (Nat.le_of_ble_eq_true rfl) hd3 kX11_targetOf ⟨wd_1917, wd_1919, wd_138⟩ dX11_isSpoken_43 (Eb.mono H ?_)
    rintro o s3 ⟨r3, rfl, hr3, hs3, H⟩
    show Wb g ad d mX11_isSpoken Q 46 [some (.ref (ad 102)), some (vi x1), some (vi x2), some (vi x3), some (vi x4)] [(vi r3), (vi (ia s1 109 (x3 + x4)))] s3 rc rs
    refine sb_icmp_eq (pc' := 49) (tgt := 51) rfl (by decide) (SR_ia hs1 _ _) hr3 dX11_isSpoken_46 ?_ ?_
    · intro cc; have H := H.1 cc
      refine sb_iinc (pc' := 54) rfl rfl (L' := [some (.ref (ad 102)), some (vi x1), some (vi x2), some (vi x3), some (vi (x4 + 1))]) rfl (by decide) dX11_isSpoken_51 ?_
      refine sb_goto (tgt := 19) (by decide) dX11_isSpoken_54 ?_
      obtain ⟨o4, H⟩ := H
      exact (H hx1 hx2 hx3 o4 hs3)
    · intro cc; have H := H.2 cc
      refine sb_iconst (pc' := 50) rfl dX11_isSpoken_49 ?_
      exact sb_iret rfl (nar_z2 (Or.inl rfl)) dX11_isSpoken_50 (H (iR_lit rfl) hs3)
theorem bX11_forcedFrom_0 {g : AG} {ad : Nat → Nat} {d : Nat} {Q : AO → SG → Prop} {rc rs : Nat} {σ : SG} {x1 x2 x3 : Int}  (hx1 : iR x1) (hx2 : iR x2) (hx3 : iR x3) (hS : SR σ) (H : ((¬ x3 = 0 → (0 ≤ x3 - 1 ∧ x3 - 1 < 18) ∧ Cl g ad d mX11_full 0 0 [(.ref (ad 102))] σ (Ki fun r2 s2 => ((¬ x1 = r2 → (0 ≤ (((x1 * 7) + x2) * 19) + x3 ∧ (((x1 * 7) + x2) * 19) + x3 < 8512) ∧ (((ia s2 127 ((((x1 * 7) + x2) * 19) + x3)) = ((-1)) → iR ((((x1 * 7) + x2) * 19) + x3) ∧ (iR x1 → iR x2 → iR x3 → iR (ia σ 109 (x3 - 1)) → iR ((((x1 * 7) + x2) * 19) + x3) → iR 1000000000 → iR 0 → SR s2 → Wb g ad d mX11_forcedFrom Q 88 [some (.ref (ad 102)), some (vi x1), some (vi x2), some (vi x3), some (vi (ia σ 109 (x3 - 1))), some (vi ((((x1 * 7) + x2) * 19) + x3)), some (vi 1000000000), some (vi 0), none, none] [] s2 rc rs)) ∧ (¬ (ia s2 127 ((((x1 * 7) + x2) * 19) + x3)) = ((-1)) → (iR (ia s2 127 ((((x1 * 7) + x2) * 19) + x3)) → SR s2 → Q (.inl (some (vi (ia s2 127 ((((x1 * 7) + x2) * 19) + x3))))) s2)))) ∧ (x1 = r2 → ((¬ x3 = (sc s2 102 14) → (iR 1000000000 → SR s2 → Q (.inl (some (vi 1000000000))) s2)) ∧ (x3 = (sc s2 102 14) → Cl g ad d mX11_after0 0 0 [(.ref (ad 102)), (vi (ia σ 109 (x3 - 1))), (vi ((-1)))] s2 (Ki fun r5 s5 => (iR r5 → SR s5 → Q (.inl (some (vi r5))) s5)))))))) ∧ (x3 = 0 → Cl g ad d mX11_full 0 0 [(.ref (ad 102))] σ (Ki fun r6 s6 => ((¬ x1 = r6 → (0 ≤ (((x1 * 7) + x2) * 19) + x3 ∧ (((x1 * 7) + x2) * 19) + x3 < 8512) ∧ (((ia s6 127 ((((x1 * 7) + x2) * 19) + x3)) = ((-1)) → iR ((((x1 * 7) + x2) * 19) + x3) ∧ (iR x1 → iR x2 → iR x3 → iR ((-1)) → iR ((((x1 * 7) + x2) * 19) + x3) → iR 1000000000 → iR 0 → SR s6 → Wb g ad d mX11_forcedFrom Q 88 [some (.ref (ad 102)), some (vi x1), some (vi x2), some (vi x3), some (vi ((-1))), some (vi ((((x1 * 7) + x2) * 19) + x3)), some (vi 1000000000), some (vi 0), none, none] [] s6 rc rs)) ∧ (¬ (ia s6 127 ((((x1 * 7) + x2) * 19) + x3)) = ((-1)) → (iR (ia s6 127 ((((x1 * 7) + x2) * 19) + x3)) → SR s6 → Q (.inl (some (vi (ia s6 127 ((((x1 * 7) + x2) * 19) + x3))))) s6)))) ∧ (x1 = r6 → ((¬ x3 = (sc s6 102 14) → (iR 1000000000 → SR s6 → Q (.inl (some (vi 1000000000))) s6)) ∧ (x3 = (sc s6 102 14) → Cl g ad d mX11_after0 0 0 [(.ref (ad 102)), (vi ((-1))), (vi ((-1)))] s6 (Ki fun r9 s9 => (iR r9 → SR s9 → Q (.inl (some (vi r9))) s9)))))))))) : Wb g ad d mX11_forcedFrom Q 0 [some (.ref (ad 102)), some (vi x1), some (vi x2), some (vi x3), none, none, none, none, none, none] [] σ rc rs := by
  refine sb_iload_n (pc' := 1) rfl rfl dX11_forcedFrom_0 ?_
  refine sb_if_ne (pc' := 4) (tgt := 8) rfl (by decide) hx3 dX11_forcedFrom_1 ?_ ?_
  · intro cc; have H := H.1 cc
    refine sb_aload_n (pc' := 9) rfl rfl dX11_forcedFrom_8 ?_
    refine sb_getC (pc' := 12) rfl fc_102_13 wd_1563 dX11_forcedFrom_9 ?_
    refine sb_iload_n (pc' := 13) rfl rfl dX11_forcedFrom_12 ?_
    refine sb_iconst (pc' := 14) rfl dX11_forcedFrom_13 ?_
    refine sb_isub (pc' := 15) rfl dX11_forcedFrom_14 ?_
    obtain ⟨o1, H⟩ := H
    refine sb_iald (pc' := 16) rfl aI_109 o1.1 o1.2 dX11_forcedFrom_15 ?_
    refine sb_istore (pc' := 18) rfl (L' := [some (.ref (ad 102)), some (vi x1), some (vi x2), some (vi x3), some (vi (ia σ 109 (x3 - 1))), none, none, none, none, none]) rfl (by decide) dX11_forcedFrom_16 ?_
    refine sb_iload_n (pc' := 19) rfl rfl dX11_forcedFrom_18 ?_
    refine sb_aload_n (pc' := 20) rfl rfl dX11_forcedFrom_19 ?_
    obtain ⟨d2, hd2, H⟩ := H
    refine sb_callV (pc' := 23) rfl rfl (rc := rc) (rs := rs) (mc' := 0) (ms' := 0) (As := []) (st := [(vi x1)]) of_102 rfl rfl (Nat.le_of_ble_eq_true rfl) hd2 kX11_full ⟨wd_1882, wd_1884, wd_131⟩ dX11_forcedFrom_20 (Eb.mono H ?_)
    rintro o s2 ⟨r2, rfl, hr2, hs2, H⟩
    show Wb g ad d mX11_forcedFrom Q 23 [some (.ref (ad 102)), some (vi x1), some (vi x2), some (vi x3), some (vi (ia σ 109 (x3 - 1))), none, none, none, none, none] [(vi r2), (vi x1)] s2 rc rs
    refine sb_icmp_ne (pc' := 26) (tgt := 48) rfl (by decide) hx1 hr2 dX11_forcedFrom_23 ?_ ?_
    · intro cc; have H := H.1 cc
      refine sb_iload_n (pc' := 49) rfl rfl dX11_forcedFrom_48 ?_
      refine sb_bipush (pc' := 51) rfl (z := 7) (by decide) dX11_forcedFrom_49 ?_
      refine sb_imul (pc' := 52) rfl dX11_forcedFrom_51 ?_
      refine sb_iload_n (pc' := 53) rfl rfl dX11_forcedFrom_52 ?_
      refine sb_iadd (pc' := 54) rfl dX11_forcedFrom_53 ?_
      refine sb_bipush (pc' := 56) rfl (z := 19) (by decide) dX11_forcedFrom_54 ?_
      refine sb_imul (pc' := 57) rfl dX11_forcedFrom_56 ?_
      refine sb_iload_n (pc' := 58) rfl rfl dX11_forcedFrom_57 ?_
      refine sb_iadd (pc' := 59) rfl dX11_forcedFrom_58 ?_
      refine sb_istore (pc' := 61) rfl (L' := [some (.ref (ad 102)), some (vi x1), some (vi x2), some (vi x3), some (vi (ia σ 109 (x3 - 1))), some (vi ((((x1 * 7) + x2) * 19) + x3)), none, none, none, none]) rfl (by decide) dX11_forcedFrom_59 ?_
      refine sb_aload_n (pc' := 62) rfl rfl dX11_forcedFrom_61 ?_
      refine sb_getC (pc' := 65) rfl fc_102_48 wd_1598 dX11_forcedFrom_62 ?_
      refine sb_iload (pc' := 67) rfl rfl dX11_forcedFrom_65 ?_
      obtain ⟨o3, H⟩ := H
      refine sb_iald (pc' := 68) rfl aI_127 o3.1 o3.2 dX11_forcedFrom_67 ?_
      refine sb_iconst (pc' := 69) rfl dX11_forcedFrom_68 ?_
      refine sb_icmp_eq (pc' := 72) (tgt := 80) rfl (by decide) (SR_ia hs2 _ _) (iR_lit rfl) dX11_forcedFrom_69 ?_ ?_
      · intro cc; have H := H.1 cc
        refine sb_ldcw (pc' := 83) rfl (z := 1000000000) rfl wd_1893 dX11_forcedFrom_80 ?_
        refine sb_istore (pc' := 85) rfl (L' := [some (.ref (ad 102)), some (vi x1), some (vi x2), some (vi x3), some (vi (ia σ 109 (x3 - 1))), some (vi ((((x1 * 7) + x2) * 19) + x3)), some (vi 1000000000), none, none, none]) rfl (by decide) dX11_forcedFrom_83 ?_
        refine sb_iconst (pc' := 86) rfl dX11_forcedFrom_85 ?_
        refine sb_istore (pc' := 88) rfl (L' := [some (.ref (ad 102)), some (vi x1), some (vi x2), some (vi x3), some (vi (ia σ 109 (x3 - 1))), some (vi ((((x1 * 7) + x2) * 19) + x3)), some (vi 1000000000), some (vi 0), none, none]) rfl (by decide) dX11_forcedFrom_86 ?_
        obtain ⟨o4, H⟩ := H
        exact (H hx1 hx2 hx3 (SR_ia hS _ _) o4 (iR_lit rfl) (iR_lit rfl) hs2)
      · intro cc; have H := H.2 cc
        refine sb_aload_n (pc' := 73) rfl rfl dX11_forcedFrom_72 ?_
        refine sb_getC (pc' := 76) rfl fc_102_48 wd_1598 dX11_forcedFrom_73 ?_
        refine sb_iload (pc' := 78) rfl rfl dX11_forcedFrom_76 ?_
        refine sb_iald (pc' := 79) rfl aI_127 o3.1 o3.2 dX11_forcedFrom_78 ?_
        exact sb_iret rfl rfl dX11_forcedFrom_79 (H (SR_ia hs2 _ _) hs2)
    · intro cc; have H := H.2 cc
      refine sb_iload_n (pc' := 27) rfl rfl dX11_forcedFrom_26 ?_
      refine sb_aload_n (pc' := 28) rfl rfl dX11_forcedFrom_27 ?_
      refine sb_getI (pc' := 31) rfl fi_102_14 wd_1564 dX11_forcedFrom_28 ?_
      refine sb_icmp_ne (pc' := 34) (tgt := 44) rfl (by decide) hx3 (SR_sc hs2 _ _) dX11_forcedFrom_31 ?_ ?_
      · intro cc; have H := H.1 cc
        refine sb_ldcw (pc' := 47) rfl (z := 1000000000) rfl wd_1893 dX11_forcedFrom_44 ?_
        exact sb_iret rfl rfl dX11_forcedFrom_47 (H (iR_lit rfl) hs2)
      · intro cc; have H := H.2 cc
        refine sb_aload_n (pc' := 35) rfl rfl dX11_forcedFrom_34 ?_
        refine sb_iload (pc' := 37) rfl rfl dX11_forcedFrom_35 ?_
        refine sb_iconst (pc' := 38) rfl dX11_forcedFrom_37 ?_
        obtain ⟨d5, hd5, H⟩ := H
        refine sb_callV (pc' := 41) rfl rfl (rc := rc) (rs := rs) (mc' := 0) (ms' := 0) (As := [(vi (ia σ 109 (x3 - 1))), (vi ((-1)))]) (st := []) of_102 rfl rfl (Nat.le_of_ble_eq_true rfl) hd5 kX11_after0 ⟨wd_1886, wd_1888, wd_132⟩ dX11_forcedFrom_38 (Eb.mono H ?_)
        rintro o s5 ⟨r5, rfl, hr5, hs5, H⟩
        show Wb g ad d mX11_forcedFrom Q 41 [some (.ref (ad 102)), some (vi x1), some (vi x2), some (vi x3), some (vi (ia σ 109 (x3 - 1))), none, none, none, none, none] [(vi r5)] s5 rc rs
        refine sb_goto (tgt := 47) (by decide) dX11_forcedFrom_41 ?_
        exact sb_iret rfl rfl dX11_forcedFrom_47 (H hr5 hs5)
  · intro cc; have H := H.2 cc
    refine sb_iconst (pc' := 5) rfl dX11_forcedFrom_4 ?_
    refine sb_goto (tgt := 16) (by decide) dX11_forcedFrom_5 ?_
    refine sb_istore (pc' := 18) rfl (L' := [some (.ref (ad 102)), some (vi x1), some (vi x2), some (vi x3), some (vi ((-1))), none, none, none, none, none]) rfl (by decide) dX11_forcedFrom_16 ?_
    refine sb_iload_n (pc' := 19) rfl rfl dX11_forcedFrom_18 ?_
    refine sb_aload_n (pc' := 20) rfl rfl dX11_forcedFrom_19 ?_
    obtain ⟨d6, hd6, H⟩ := H
    refine sb_callV (pc' := 23) rfl rfl (rc := rc) (rs := rs) (mc' := 0) (ms' := 0) (As := []) (st := [(vi x1)]) of_102 rfl rfl (Nat.le_of_ble_eq_true rfl) hd6 kX11_full ⟨wd_1882, wd_1884, wd_131⟩ dX11_forcedFrom_20 (Eb.mono H ?_)
    rintro o s6 ⟨r6, rfl, hr6, hs6, H⟩
    show Wb g ad d mX11_forcedFrom Q 23 [some (.ref (ad 102)), some (vi x1), some (vi x2), some (vi x3), some (vi ((-1))), none, none, none, none, none] [(vi r6), (vi x1)] s6 rc rs
    refine sb_icmp_ne (pc' := 26) (tgt := 48) rfl (by decide) hx1 hr6 dX11_forcedFrom_23 ?_ ?_
    · intro cc; have H := H.1 cc
      refine sb_iload_n (pc' := 49) rfl rfl dX11_forcedFrom_48 ?_
      refine sb_bipush (pc' := 51) rfl (z := 7) (by decide) dX11_forcedFrom_49 ?_
      refine sb_imul (pc' := 52) rfl dX11_forcedFrom_51 ?_
      refine sb_iload_n (pc' := 53) rfl rfl dX11_forcedFrom_52 ?_
      refine sb_iadd (pc' := 54) rfl dX11_forcedFrom_53 ?_
      refine sb_bipush (pc' := 56) rfl (z := 19) (by decide) dX11_forcedFrom_54 ?_
      refine sb_imul (pc' := 57) rfl dX11_forcedFrom_56 ?_
      refine sb_iload_n (pc' := 58) rfl rfl dX11_forcedFrom_57 ?_
      refine sb_iadd (pc' := 59) rfl dX11_forcedFrom_58 ?_
      refine sb_istore (pc' := 61) rfl (L' := [some (.ref (ad 102)), some (vi x1), some (vi x2), some (vi x3), some (vi ((-1))), some (vi ((((x1 * 7) + x2) * 19) + x3)), none, none, none, none]) rfl (by decide) dX11_forcedFrom_59 ?_
      refine sb_aload_n (pc' := 62) rfl rfl dX11_forcedFrom_61 ?_
      refine sb_getC (pc' := 65) rfl fc_102_48 wd_1598 dX11_forcedFrom_62 ?_
      refine sb_iload (pc' := 67) rfl rfl dX11_forcedFrom_65 ?_
      obtain ⟨o7, H⟩ := H
      refine sb_iald (pc' := 68) rfl aI_127 o7.1 o7.2 dX11_forcedFrom_67 ?_
      refine sb_iconst (pc' := 69) rfl dX11_forcedFrom_68 ?_
      refine sb_icmp_eq (pc' := 72) (tgt := 80) rfl (by decide) (SR_ia hs6 _ _) (iR_lit rfl) dX11_forcedFrom_69 ?_ ?_
      · intro cc; have H := H.1 cc
        refine sb_ldcw (pc' := 83) rfl (z := 1000000000) rfl wd_1893 dX11_forcedFrom_80 ?_
        refine sb_istore (pc' := 85) rfl (L' := [some (.ref (ad 102)), some (vi x1), some (vi x2), some (vi x3), some (vi ((-1))), some (vi ((((x1 * 7) + x2) * 19) + x3)), some (vi 1000000000), none, none, none]) rfl (by decide) dX11_forcedFrom_83 ?_
        refine sb_iconst (pc' := 86) rfl dX11_forcedFrom_85 ?_
        refine sb_istore (pc' := 88) rfl (L' := [some (.ref (ad 102)), some (vi x1), some (vi x2), some (vi x3), some (vi ((-1))), some (vi ((((x1 * 7) + x2) * 19) + x3)), some (vi 1000000000), some (vi 0), none, none]) rfl (by decide) dX11_forcedFrom_86 ?_
        obtain ⟨o8, H⟩ := H
        exact (H hx1 hx2 hx3 (iR_lit rfl) o8 (iR_lit rfl) (iR_lit rfl) hs6)
      · intro cc; have H := H.2 cc
        refine sb_aload_n (pc' := 73) rfl rfl dX11_forcedFrom_72 ?_
        refine sb_getC (pc' := 76) rfl fc_102_48 wd_1598 dX11_forcedFrom_73 ?_
        refine sb_iload (pc' := 78) rfl rfl dX11_forcedFrom_76 ?_
        refine sb_iald (pc' := 79) rfl aI_127 o7.1 o7.2 dX11_forcedFrom_78 ?_
        exact sb_iret rfl rfl dX11_forcedFrom_79 (H (SR_ia hs6 _ _) hs6)
    · intro cc; have H := H.2 cc
      refine sb_iload_n (pc' := 27) rfl rfl dX11_forcedFrom_26 ?_
      refine sb_aload_n (pc' := 28) rfl rfl dX11_forcedFrom_27 ?_
      refine sb_getI (pc' := 31) rfl fi_102_14 wd_1564 dX11_forcedFrom_28 ?_
      refine sb_icmp_ne (pc' := 34) (tgt := 44) rfl (by decide) hx3 (SR_sc hs6 _ _) dX11_forcedFrom_31 ?_ ?_
      · intro cc; have H := H.1 cc
        refine sb_ldcw (pc' := 47) rfl (z := 1000000000) rfl wd_1893 dX11_forcedFrom_44 ?_
        exact sb_iret rfl rfl dX11_forcedFrom_47 (H (iR_lit rfl) hs6)
      · intro cc; have H := H.2 cc
        refine sb_aload_n (pc' := 35) rfl rfl dX11_forcedFrom_34 ?_
        refine sb_iload (pc' := 37) rfl rfl dX11_forcedFrom_35 ?_
        refine sb_iconst (pc' := 38) rfl dX11_forcedFrom_37 ?_
        obtain ⟨d9, hd9, H⟩ := H
        refine sb_callV (pc' := 41) rfl rfl (rc := rc) (rs := rs) (mc' := 0) (ms' := 0) (As := [(vi ((-1))), (vi ((-1)))]) (st := []) of_102 rfl rfl (Nat.le_of_ble_eq_true rfl) hd9 kX11_after0 ⟨wd_1886, wd_1888, wd_132⟩ dX11_forcedFrom_38 (Eb.mono H ?_)
        rintro o s9 ⟨r9, rfl, hr9, hs9, H⟩
        show Wb g ad d mX11_forcedFrom Q 41 [some (.ref (ad 102)), some (vi x1), some (vi x2), some (vi x3), some (vi ((-1))), none, none, none, none, none] [(vi r9)] s9 rc rs
        refine sb_goto (tgt := 47) (by decide) dX11_forcedFrom_41 ?_
        exact sb_iret rfl rfl dX11_forcedFrom_47 (H hr9 hs9)
theorem bX11_forcedFrom_88 {g : AG} {ad : Nat → Nat} {d : Nat} {Q : AO → SG → Prop} {rc rs : Nat} {σ : SG} {x1 x2 x3 x4 x5 x6 x7 : Int}  (hx1 : iR x1) (hx2 : iR x2) (hx3 : iR x3) (hx4 : iR x4) (hx5 : iR x5) (hx6 : iR x6) (hx7 : iR x7) (hS : SR σ) (H : (((ia σ 103 3) ≤ x7 → Cl g ad d mX11_lesser 0 0 [(vi x6), (vi 1000000000)] σ (Ki fun r1 s1 => (0 ≤ x5 ∧ x5 < 8512) ∧ (iR (ia (setI s1 127 x5 r1) 127 x5) → SR (setI s1 127 x5 r1) → Q (.inl (some (vi (ia (setI s1 127 x5 r1) 127 x5)))) (setI s1 127 x5 r1)))) ∧ (¬ (ia σ 103 3) ≤ x7 → Cl g ad d mX11_next 0 0 [(.ref (ad 102)), (vi ((-1)))] σ (Ki fun r3 s3 => (iR x1 → iR x2 → iR x3 → iR x4 → iR x5 → iR x6 → iR x7 → iR r3 → SR s3 → Wb g ad d mX11_forcedFrom Q 106 [some (.ref (ad 102)), some (vi x1), some (vi x2), some (vi x3), some (vi x4), some (vi x5), some (vi x6), some (vi x7), some (vi r3), none] [] s3 rc rs))))) : Wb g ad d mX11_forcedFrom Q 88 [some (.ref (ad 102)), some (vi x1), some (vi x2), some (vi x3), some (vi x4), some (vi x5), some (vi x6), some (vi x7), none, none] [] σ rc rs := by
  refine sb_iload (pc' := 90) rfl rfl dX11_forcedFrom_88 ?_
  refine sb_aload_n (pc' := 91) rfl rfl dX11_forcedFrom_90 ?_
  refine sb_getC (pc' := 94) rfl fc_102_1 wd_1551 dX11_forcedFrom_91 ?_
  refine sb_iconst (pc' := 95) rfl dX11_forcedFrom_94 ?_
  refine sb_iald (pc' := 96) rfl aI_103 (by decide) (by decide) dX11_forcedFrom_95 ?_
  refine sb_icmp_ge (pc' := 99) (tgt := 216) rfl (by decide) hx7 (SR_ia hS _ _) dX11_forcedFrom_96 ?_ ?_
  · intro cc; have H := H.1 cc
    refine sb_aload_n (pc' := 217) rfl rfl dX11_forcedFrom_216 ?_
    refine sb_getC (pc' := 220) rfl fc_102_48 wd_1598 dX11_forcedFrom_217 ?_
    refine sb_iload (pc' := 222) rfl rfl dX11_forcedFrom_220 ?_
    refine sb_iload (pc' := 224) rfl rfl dX11_forcedFrom_222 ?_
    refine sb_ldcw (pc' := 227) rfl (z := 1000000000) rfl wd_1893 dX11_forcedFrom_224 ?_
    obtain ⟨d1, hd1, H⟩ := H
    refine sb_callS (pc' := 230) rfl rfl (rc := rc) (rs := rs) (mc' := 0) (ms' := 0) (As := [(vi x6), (vi 1000000000)]) (st := [(vi x5), (.ref (ad 127))])  rfl rfl (Nat.le_of_ble_eq_true rfl) hd1 kX11_lesser ⟨wd_1921, wd_1922⟩ dX11_forcedFrom_227 (Eb.mono H ?_)
    rintro o s1 ⟨r1, rfl, hr1, hs1, H⟩
    show Wb g ad d mX11_forcedFrom Q 230 [some (.ref (ad 102)), some (vi x1), some (vi x2), some (vi x3), some (vi x4), some (vi x5), some (vi x6), some (vi x7), none, none] [(vi r1), (vi x5), (.ref (ad 127))] s1 rc rs
    obtain ⟨o2, H⟩ := H
    refine sb_iast (pc' := 231) rfl aI_127 o2.1 o2.2  dX11_forcedFrom_230 ?_
    refine sb_aload_n (pc' := 232) rfl rfl dX11_forcedFrom_231 ?_
    refine sb_getC (pc' := 235) rfl fc_102_48 wd_1598 dX11_forcedFrom_232 ?_
    refine sb_iload (pc' := 237) rfl rfl dX11_forcedFrom_235 ?_
    refine sb_iald (pc' := 238) rfl aI_127 o2.1 o2.2 dX11_forcedFrom_237 ?_
    exact sb_iret rfl rfl dX11_forcedFrom_238 (H (SR_ia (SR_setI hs1 hr1) _ _) (SR_setI hs1 hr1))
  · intro cc; have H := H.2 cc
    refine sb_aload_n (pc' := 100) rfl rfl dX11_forcedFrom_99 ?_
    refine sb_iconst (pc' := 101) rfl dX11_forcedFrom_100 ?_
    obtain ⟨d3, hd3, H⟩ := H
    refine sb_callV (pc' := 104) rfl rfl (rc := rc) (rs := rs) (mc' := 0) (ms' := 0) (As := [(vi ((-1)))]) (st := []) of_102 rfl rfl (Nat.le_of_ble_eq_true rfl) hd3 kX11_next ⟨wd_1894, wd_1896, wd_133⟩ dX11_forcedFrom_101 (Eb.mono H ?_)
    rintro o s3 ⟨r3, rfl, hr3, hs3, H⟩
    show Wb g ad d mX11_forcedFrom Q 104 [some (.ref (ad 102)), some (vi x1), some (vi x2), some (vi x3), some (vi x4), some (vi x5), some (vi x6), some (vi x7), none, none] [(vi r3)] s3 rc rs
    refine sb_istore (pc' := 106) rfl (L' := [some (.ref (ad 102)), some (vi x1), some (vi x2), some (vi x3), some (vi x4), some (vi x5), some (vi x6), some (vi x7), some (vi r3), none]) rfl (by decide) dX11_forcedFrom_104 ?_
    exact (H hx1 hx2 hx3 hx4 hx5 hx6 hx7 hr3 hs3)
theorem bX11_forcedFrom_106 {g : AG} {ad : Nat → Nat} {d : Nat} {Q : AO → SG → Prop} {rc rs : Nat} {σ : SG} {x1 x2 x3 x4 x5 x6 x7 x8 : Int}  (hx1 : iR x1) (hx2 : iR x2) (hx3 : iR x3) (hx4 : iR x4) (hx5 : iR x5) (hx6 : iR x6) (hx7 : iR x7) (hx8 : iR x8) (hS : SR σ) (H : ((99 < x8 → iR (x7 + 1) ∧ (iR x1 → iR x2 → iR x3 → iR x4 → iR x5 → iR x6 → iR (x7 + 1) → SR σ → Wb g ad d mX11_forcedFrom Q 88 [some (.ref (ad 102)), some (vi x1), some (vi x2), some (vi x3), some (vi x4), some (vi x5), some (vi x6), some (vi (x7 + 1)), none, none] [] σ rc rs)) ∧ (¬ 99 < x8 → Cl g ad d mX11_may 0 0 [(.ref (ad 102)), (vi x1), (vi x2), (vi x7), (vi x8)] σ (Ki fun r2 s2 => ((r2 = 0 → (iR x1 → iR x2 → iR x3 → iR x4 → iR x5 → iR x6 → iR x7 → iR x8 → SR s2 → Wb g ad d mX11_forcedFrom Q 199 [some (.ref (ad 102)), some (vi x1), some (vi x2), some (vi x3), some (vi x4), some (vi x5), some (vi x6), some (vi x7), some (vi x8), none] [] s2 rc rs)) ∧ (¬ r2 = 0 → Cl g ad d mX11_isSpoken 0 0 [(.ref (ad 102)), (vi x8), (vi x7), (vi x3)] s2 (Ki fun r3 s3 => ((¬ r3 = 0 → Cl g ad d mX11_weighs 0 0 [(.ref (ad 102)), (vi x2), (vi x4), (vi x7), (vi x8)] s3 (Kv fun s4 => Cl g ad d mX11_maskOf 0 0 [(.ref (ad 102)), (vi x8), (vi x7)] s4 (Ki fun r5 s5 => Cl g ad d mX11_covers 0 0 [(.ref (ad 102)), (vi x8)] s5 (Ki fun r6 s6 => Cl g ad d mX11_targetMany 0 0 [(.ref (ad 102)), (vi x8)] s6 (Ki fun r7 s7 => Cl g ad d mX11_forcedFrom 0 0 [(.ref (ad 102)), (vi (bOr x1 r5)), (vi (x7 + r6)), (vi (x3 + r7))] s7 (Ki fun r8 s8 => Cl g ad d mX11_lesser 0 0 [(vi x6), (vi ((sc s4 102 22) + r8))] s8 (Ki fun r9 s9 => (iR x1 → iR x2 → iR x3 → iR x4 → iR x5 → iR r9 → iR x7 → iR x8 → SR s9 → Wb g ad d mX11_forcedFrom Q 199 [some (.ref (ad 102)), some (vi x1), some (vi x2), some (vi x3), some (vi x4), some (vi x5), some (vi r9), some (vi x7), some (vi x8), none] [] s9 rc rs)))))))) ∧ (r3 = 0 → (iR x1 → iR x2 → iR x3 → iR x4 → iR x5 → iR x6 → iR x7 → iR x8 → SR s3 → Wb g ad d mX11_forcedFrom Q 199 [some (.ref (ad 102)), some (vi x1), some (vi x2), some (vi x3), some (vi x4), some (vi x5), some (vi x6), some (vi x7), some (vi x8), none] [] s3 rc rs)))))))))) : Wb g ad d mX11_forcedFrom Q 106 [some (.ref (ad 102)), some (vi x1), some (vi x2), some (vi x3), some (vi x4), some (vi x5), some (vi x6), some (vi x7), some (vi x8), none] [] σ rc rs := by
  refine sb_iload (pc' := 108) rfl rfl dX11_forcedFrom_106 ?_
  refine sb_bipush (pc' := 110) rfl (z := 99) (by decide) dX11_forcedFrom_108 ?_
  refine sb_icmp_gt (pc' := 113) (tgt := 210) rfl (by decide) hx8 (iR_lit rfl) dX11_forcedFrom_110 ?_ ?_
  · intro cc; have H := H.1 cc
    refine sb_iinc (pc' := 213) rfl rfl (L' := [some (.ref (ad 102)), some (vi x1), some (vi x2), some (vi x3), some (vi x4), some (vi x5), some (vi x6), some (vi (x7 + 1)), some (vi x8), none]) rfl (by decide) dX11_forcedFrom_210 ?_
    refine sb_goto (tgt := 88) (by decide) dX11_forcedFrom_213 ?_
    obtain ⟨o1, H⟩ := H
    refine Wb.forget [true, true, true, true, true, true, true, true, false, false] ?_
    exact (H hx1 hx2 hx3 hx4 hx5 hx6 o1 hS)
  · intro cc; have H := H.2 cc
    refine sb_aload_n (pc' := 114) rfl rfl dX11_forcedFrom_113 ?_
    refine sb_iload_n (pc' := 115) rfl rfl dX11_forcedFrom_114 ?_
    refine sb_iload_n (pc' := 116) rfl rfl dX11_forcedFrom_115 ?_
    refine sb_iload (pc' := 118) rfl rfl dX11_forcedFrom_116 ?_
    refine sb_iload (pc' := 120) rfl rfl dX11_forcedFrom_118 ?_
    obtain ⟨d2, hd2, H⟩ := H
    refine sb_callV (pc' := 123) rfl rfl (rc := rc) (rs := rs) (mc' := 0) (ms' := 0) (As := [(vi x1), (vi x2), (vi x7), (vi x8)]) (st := []) of_102 rfl rfl (Nat.le_of_ble_eq_true rfl) hd2 kX11_may ⟨wd_1898, wd_1900, wd_134⟩ dX11_forcedFrom_120 (Eb.mono H ?_)
    rintro o s2 ⟨r2, rfl, hr2, hs2, H⟩
    show Wb g ad d mX11_forcedFrom Q 123 [some (.ref (ad 102)), some (vi x1), some (vi x2), some (vi x3), some (vi x4), some (vi x5), some (vi x6), some (vi x7), some (vi x8), none] [(vi r2)] s2 rc rs
    refine sb_if_eq (pc' := 126) (tgt := 199) rfl (by decide) hr2 dX11_forcedFrom_123 ?_ ?_
    · intro cc; have H := H.1 cc
      exact (H hx1 hx2 hx3 hx4 hx5 hx6 hx7 hx8 hs2)
    · intro cc; have H := H.2 cc
      refine sb_aload_n (pc' := 127) rfl rfl dX11_forcedFrom_126 ?_
      refine sb_iload (pc' := 129) rfl rfl dX11_forcedFrom_127 ?_
      refine sb_iload (pc' := 131) rfl rfl dX11_forcedFrom_129 ?_
      refine sb_iload_n (pc' := 132) rfl rfl dX11_forcedFrom_131 ?_
      obtain ⟨d3, hd3, H⟩ := H
      refine sb_callV (pc' := 135) rfl rfl (rc := rc) (rs := rs) (mc' := 0) (ms' := 0) (As := [(vi x8), (vi x7), (vi x3)]) (st := []) of_102 rfl rfl (Nat.le_of_ble_eq_true rfl) hd3 kX11_isSpoken ⟨wd_2091, wd_2093, wd_160⟩ dX11_forcedFrom_132 (Eb.mono H ?_)
      rintro o s3 ⟨r3, rfl, hr3, hs3, H⟩
      show Wb g ad d mX11_forcedFrom Q 135 [some (.ref (ad 102)), some (vi x1), some (vi x2), some (vi x3), some (vi x4), some (vi x5), some (vi x6), some (vi x7), some (vi x8), none] [(vi r3)] s3 rc rs
      refine sb_if_ne (pc' := 138) (tgt := 141) rfl (by decide) hr3 dX11_forcedFrom_135 ?_ ?_
      · intro cc; have H := H.1 cc
        refine sb_aload_n (pc' := 142) rfl rfl dX11_forcedFrom_141 ?_
        refine sb_iload_n (pc' := 143) rfl rfl dX11_forcedFrom_142 ?_
        refine sb_iload (pc' := 145) rfl rfl dX11_forcedFrom_143 ?_
        refine sb_iload (pc' := 147) rfl rfl dX11_forcedFrom_145 ?_
        refine sb_iload (pc' := 149) rfl rfl dX11_forcedFrom_147 ?_
        obtain ⟨d4, hd4, H⟩ := H
        refine sb_callV (pc' := 152) rfl rfl (rc := rc) (rs := rs) (mc' := 0) (ms' := 0) (As := [(vi x2), (vi x4), (vi x7), (vi x8)]) (st := []) of_102 rfl rfl (Nat.le_of_ble_eq_true rfl) hd4 kX11_weighs ⟨wd_1909, wd_1911, wd_136⟩ dX11_forcedFrom_149 (Eb.mono H ?_)
        rintro o s4 ⟨rfl, hs4, H⟩
        show Wb g ad d mX11_forcedFrom Q 152 [some (.ref (ad 102)), some (vi x1), some (vi x2), some (vi x3), some (vi x4), some (vi x5), some (vi x6), some (vi x7), some (vi x8), none] [] s4 rc rs
        refine sb_aload_n (pc' := 153) rfl rfl dX11_forcedFrom_152 ?_
        refine sb_getI (pc' := 156) rfl fi_102_22 wd_1572 dX11_forcedFrom_153 ?_
        refine sb_istore (pc' := 158) rfl (L' := [some (.ref (ad 102)), some (vi x1), some (vi x2), some (vi x3), some (vi x4), some (vi x5), some (vi x6), some (vi x7), some (vi x8), some (vi (sc s4 102 22))]) rfl (by decide) dX11_forcedFrom_156 ?_
        refine sb_iload (pc' := 160) rfl rfl dX11_forcedFrom_158 ?_
        refine sb_iload (pc' := 162) rfl rfl dX11_forcedFrom_160 ?_
        refine sb_aload_n (pc' := 163) rfl rfl dX11_forcedFrom_162 ?_
        refine sb_iload_n (pc' := 164) rfl rfl dX11_forcedFrom_163 ?_
        refine sb_aload_n (pc' := 165) rfl rfl dX11_forcedFrom_164 ?_
        refine sb_iload (pc' := 167) rfl rfl dX11_forcedFrom_165 ?_
        refine sb_iload (pc' := 169) rfl rfl dX11_forcedFrom_167 ?_
        obtain ⟨d5, hd5, H⟩ := H
        refine sb_callV (pc' := 172) rfl rfl (rc := rc) (rs := rs) (mc' := 0) (ms' := 0) (As := [(vi x8), (vi x7)]) (st := [(vi x1), (.ref (ad 102)), (vi (sc s4 102 22)), (vi x6)]) of_102 rfl rfl (Nat.le_of_ble_eq_true rfl) hd5 kX11_maskOf ⟨wd_1905, wd_1907, wd_135⟩ dX11_forcedFrom_169 (Eb.mono H ?_)
        rintro o s5 ⟨r5, rfl, hr5, hs5, H⟩
        show Wb g ad d mX11_forcedFrom Q 172 [some (.ref (ad 102)), some (vi x1), some (vi x2), some (vi x3), some (vi x4), some (vi x5), some (vi x6), some (vi x7), some (vi x8), some (vi (sc s4 102 22))] [(vi r5), (vi x1), (.ref (ad 102)), (vi (sc s4 102 22)), (vi x6)] s5 rc rs
        refine sb_ior (pc' := 173) rfl dX11_forcedFrom_172 ?_
        refine sb_iload (pc' := 175) rfl rfl dX11_forcedFrom_173 ?_
        refine sb_aload_n (pc' := 176) rfl rfl dX11_forcedFrom_175 ?_
        refine sb_iload (pc' := 178) rfl rfl dX11_forcedFrom_176 ?_
        obtain ⟨d6, hd6, H⟩ := H
        refine sb_callV (pc' := 181) rfl rfl (rc := rc) (rs := rs) (mc' := 0) (ms' := 0) (As := [(vi x8)]) (st := [(vi x7), (vi (bOr x1 r5)), (.ref (ad 102)), (vi (sc s4 102 22)), (vi x6)]) of_102 rfl rfl (Nat.le_of_ble_eq_true rfl) hd6 kX11_covers ⟨wd_1862, wd_1864, wd_126⟩ dX11_forcedFrom_178 (Eb.mono H ?_)
        rintro o s6 ⟨r6, rfl, hr6, hs6, H⟩
        show Wb g ad d mX11_forcedFrom Q 181 [some (.ref (ad 102)), some (vi x1), some (vi x2), some (vi x3), some (vi x4), some (vi x5), some (vi x6), some (vi x7), some (vi x8), some (vi (sc s4 102 22))] [(vi r6), (vi x7), (vi (bOr x1 r5)), (.ref (ad 102)), (vi (sc s4 102 22)), (vi x6)] s6 rc rs
        refine sb_iadd (pc' := 182) rfl dX11_forcedFrom_181 ?_
        refine sb_iload_n (pc' := 183) rfl rfl dX11_forcedFrom_182 ?_
        refine sb_aload_n (pc' := 184) rfl rfl dX11_forcedFrom_183 ?_
        refine sb_iload (pc' := 186) rfl rfl dX11_forcedFrom_184 ?_
        obtain ⟨d7, hd7, H⟩ := H
        refine sb_callV (pc' := 189) rfl rfl (rc := rc) (rs := rs) (mc' := 0) (ms' := 0) (As := [(vi x8)]) (st := [(vi x3), (vi (x7 + r6)), (vi (bOr x1 r5)), (.ref (ad 102)), (vi (sc s4 102 22)), (vi x6)]) of_102 rfl rfl (Nat.le_of_ble_eq_true rfl) hd7 kX11_targetMany ⟨wd_1913, wd_1915, wd_137⟩ dX11_forcedFrom_186 (Eb.mono H ?_)
        rintro o s7 ⟨r7, rfl, hr7, hs7, H⟩
        show Wb g ad d mX11_forcedFrom Q 189 [some (.ref (ad 102)), some (vi x1), some (vi x2), some (vi x3), some (vi x4), some (vi x5), some (vi x6), some (vi x7), some (vi x8), some (vi (sc s4 102 22))] [(vi r7), (vi x3), (vi (x7 + r6)), (vi (bOr x1 r5)), (.ref (ad 102)), (vi (sc s4 102 22)), (vi x6)] s7 rc rs
        refine sb_iadd (pc' := 190) rfl dX11_forcedFrom_189 ?_
        obtain ⟨d8, hd8, H⟩ := H
        refine sb_callV (pc' := 193) rfl rfl (rc := rc) (rs := rs) (mc' := 0) (ms' := 0) (As := [(vi (bOr x1 r5)), (vi (x7 + r6)), (vi (x3 + r7))]) (st := [(vi (sc s4 102 22)), (vi x6)]) of_102 rfl rfl (Nat.le_of_ble_eq_true rfl) hd8 kX11_forcedFrom ⟨wd_2087, wd_2089, wd_159⟩ dX11_forcedFrom_190 (Eb.mono H ?_)
        rintro o s8 ⟨r8, rfl, hr8, hs8, H⟩
        show Wb g ad d mX11_forcedFrom Q 193 [some (.ref (ad 102)), some (vi x1), some (vi x2), some (vi x3), some (vi x4), some (vi x5), some (vi x6), some (vi x7), some (vi x8), some (vi (sc s4 102 22))] [(vi r8), (vi (sc s4 102 22)), (vi x6)] s8 rc rs
        refine sb_iadd (pc' := 194) rfl dX11_forcedFrom_193 ?_
        obtain ⟨d9, hd9, H⟩ := H
        refine sb_callS (pc' := 197) rfl rfl (rc := rc) (rs := rs) (mc' := 0) (ms' := 0) (As := [(vi x6), (vi ((sc s4 102 22) + r8))]) (st := [])  rfl rfl (Nat.le_of_ble_eq_true rfl) hd9 kX11_lesser ⟨wd_1921, wd_1922⟩ dX11_forcedFrom_194 (Eb.mono H ?_)
        rintro o s9 ⟨r9, rfl, hr9, hs9, H⟩
        show Wb g ad d mX11_forcedFrom Q 197 [some (.ref (ad 102)), some (vi x1), some (vi x2), some (vi x3), some (vi x4), some (vi x5), some (vi x6), some (vi x7), some (vi x8), some (vi (sc s4 102 22))] [(vi r9)] s9 rc rs
        refine sb_istore (pc' := 199) rfl (L' := [some (.ref (ad 102)), some (vi x1), some (vi x2), some (vi x3), some (vi x4), some (vi x5), some (vi r9), some (vi x7), some (vi x8), some (vi (sc s4 102 22))]) rfl (by decide) dX11_forcedFrom_197 ?_
        refine Wb.forget [true, true, true, true, true, true, true, true, true, false] ?_
        exact (H hx1 hx2 hx3 hx4 hx5 hr9 hx7 hx8 hs9)
      · intro cc; have H := H.2 cc
        refine sb_goto (tgt := 199) (by decide) dX11_forcedFrom_138 ?_
        exact (H hx1 hx2 hx3 hx4 hx5 hx6 hx7 hx8 hs3)
theorem bX11_forcedFrom_199 {g : AG} {ad : Nat → Nat} {d : Nat} {Q : AO → SG → Prop} {rc rs : Nat} {σ : SG} {x1 x2 x3 x4 x5 x6 x7 x8 : Int}  (hx1 : iR x1) (hx2 : iR x2) (hx3 : iR x3) (hx4 : iR x4) (hx5 : iR x5) (hx6 : iR x6) (hx7 : iR x7) (hx8 : iR x8) (hS : SR σ) (H : Cl g ad d mX11_next 0 0 [(.ref (ad 102)), (vi x8)] σ (Ki fun r1 s1 => (iR x1 → iR x2 → iR x3 → iR x4 → iR x5 → iR x6 → iR x7 → iR r1 → SR s1 → Wb g ad d mX11_forcedFrom Q 106 [some (.ref (ad 102)), some (vi x1), some (vi x2), some (vi x3), some (vi x4), some (vi x5), some (vi x6), some (vi x7), some (vi r1), none] [] s1 rc rs))) : Wb g ad d mX11_forcedFrom Q 199 [some (.ref (ad 102)), some (vi x1), some (vi x2), some (vi x3), some (vi x4), some (vi x5), some (vi x6), some (vi x7), some (vi x8), none] [] σ rc rs := by
  refine sb_aload_n (pc' := 200) rfl rfl dX11_forcedFrom_199 ?_
  refine sb_iload (pc' := 202) rfl rfl dX11_forcedFrom_200 ?_
  obtain ⟨d1, hd1, H⟩ := H
  refine sb_callV (pc' := 205) rfl rfl (rc := rc) (rs := rs) (mc' := 0) (ms' := 0) (As := [(vi x8)]) (st := []) of_102 rfl rfl (Nat.le_of_ble_eq_true rfl) hd1 kX11_next ⟨wd_1894, wd_1896, wd_133⟩ dX11_forcedFrom_202 (Eb.mono H ?_)
  rintro o s1 ⟨r1, rfl, hr1, hs1, H⟩
  show Wb g ad d mX11_forcedFrom Q 205 [some (.ref (ad 102)), some (vi x1), some (vi x2), some (vi x3), some (vi x4), some (vi x5), some (vi x6), some (vi x7), some (vi x8), none] [(vi r1)] s1 rc rs
  refine sb_istore (pc' := 207) rfl (L' := [some (.ref (ad 102)), some (vi x1), some (vi x2), some (vi x3), some (vi x4), some (vi x5), some (vi x6), some (vi x7), some (vi r1), none]) rfl (by decide) dX11_forcedFrom_205 ?_
  refine sb_goto (tgt := 106) (by decide) dX11_forcedFrom_207 ?_
  exact (H hx1 hx2 hx3 hx4 hx5 hx6 hx7 hr1 hs1)
theorem bX11_forced_0 {g : AG} {ad : Nat → Nat} {d : Nat} {Q : AO → SG → Prop} {rc rs : Nat} {σ : SG}    (hS : SR σ) (H : Cl g ad d mX11_isTold 0 0 [(.ref (ad 102))] σ (Ki fun r1 s1 => ((¬ r1 = 0 → (iR 0 → SR s1 → Wb g ad d mX11_forced Q 11 [some (.ref (ad 102)), some (vi 0)] [] s1 rc rs)) ∧ (r1 = 0 → (iR 0 → SR s1 → Q (.inl (some (vi 0))) s1))))) : Wb g ad d mX11_forced Q 0 [some (.ref (ad 102)), none] [] σ rc rs := by
  refine sb_aload_n (pc' := 1) rfl rfl dX11_forced_0 ?_
  obtain ⟨d1, hd1, H⟩ := H
  refine sb_callV (pc' := 4) rfl rfl (rc := rc) (rs := rs) (mc' := 0) (ms' := 0) (As := []) (st := []) of_102 rfl rfl (Nat.le_of_ble_eq_true rfl) hd1 kX11_isTold ⟨wd_2083, wd_2085, wd_158⟩ dX11_forced_1 (Eb.mono H ?_)
  rintro o s1 ⟨r1, rfl, hr1, hs1, H⟩
  show Wb g ad d mX11_forced Q 4 [some (.ref (ad 102)), none] [(vi r1)] s1 rc rs
  refine sb_if_ne (pc' := 7) (tgt := 9) rfl (by decide) hr1 dX11_forced_4 ?_ ?_
  · intro cc; have H := H.1 cc
    refine sb_iconst (pc' := 10) rfl dX11_forced_9 ?_
    refine sb_istore_n (pc' := 11) rfl (L' := [some (.ref (ad 102)), some (vi 0)]) rfl (by decide) dX11_forced_10 ?_
    exact (H (iR_lit rfl) hs1)
  · intro cc; have H := H.2 cc
    refine sb_iconst (pc' := 8) rfl dX11_forced_7 ?_
    exact sb_iret rfl rfl dX11_forced_8 (H (iR_lit rfl) hs1)
theorem bX11_forced_11 {g : AG} {ad : Nat → Nat} {d : Nat} {Q : AO → SG → Prop} {rc rs : Nat} {σ : SG} {x1 : Int}  (hx1 : iR x1) (hS : SR σ) (H : ((8512 ≤ x1 → Cl g ad d mX11_forcedFrom 0 0 [(.ref (ad 102)), (vi 0), (vi 0), (vi 0)] σ (Ki fun r1 s1 => ((¬ r1 = 1000000000 → (iR r1 → SR s1 → Q (.inl (some (vi r1))) s1)) ∧ (r1 = 1000000000 → (iR ((-1)) → SR s1 → Q (.inl (some (vi ((-1))))) s1))))) ∧ (¬ 8512 ≤ x1 → (0 ≤ x1 ∧ x1 < 8512) ∧ iR (x1 + 1) ∧ (iR (x1 + 1) → SR (setI σ 127 x1 ((-1))) → Wb g ad d mX11_forced Q 11 [some (.ref (ad 102)), some (vi (x1 + 1))] [] (setI σ 127 x1 ((-1))) rc rs)))) : Wb g ad d mX11_forced Q 11 [some (.ref (ad 102)), some (vi x1)] [] σ rc rs := by
  refine sb_iload_n (pc' := 12) rfl rfl dX11_forced_11 ?_
  refine sb_sipush (pc' := 15) rfl (z := 8512) (by decide) dX11_forced_12 ?_
  refine sb_icmp_ge (pc' := 18) (tgt := 31) rfl (by decide) hx1 (iR_lit rfl) dX11_forced_15 ?_ ?_
  · intro cc; have H := H.1 cc
    refine sb_aload_n (pc' := 32) rfl rfl dX11_forced_31 ?_
    refine sb_iconst (pc' := 33) rfl dX11_forced_32 ?_
    refine sb_iconst (pc' := 34) rfl dX11_forced_33 ?_
    refine sb_iconst (pc' := 35) rfl dX11_forced_34 ?_
    obtain ⟨d1, hd1, H⟩ := H
    refine sb_callV (pc' := 38) rfl rfl (rc := rc) (rs := rs) (mc' := 0) (ms' := 0) (As := [(vi 0), (vi 0), (vi 0)]) (st := []) of_102 rfl rfl (Nat.le_of_ble_eq_true rfl) hd1 kX11_forcedFrom ⟨wd_2087, wd_2089, wd_159⟩ dX11_forced_35 (Eb.mono H ?_)
    rintro o s1 ⟨r1, rfl, hr1, hs1, H⟩
    show Wb g ad d mX11_forced Q 38 [some (.ref (ad 102)), some (vi x1)] [(vi r1)] s1 rc rs
    refine sb_istore_n (pc' := 39) rfl (L' := [some (.ref (ad 102)), some (vi r1)]) rfl (by decide) dX11_forced_38 ?_
    refine sb_iload_n (pc' := 40) rfl rfl dX11_forced_39 ?_
    refine sb_ldcw (pc' := 43) rfl (z := 1000000000) rfl wd_1893 dX11_forced_40 ?_
    refine sb_icmp_ne (pc' := 46) (tgt := 50) rfl (by decide) hr1 (iR_lit rfl) dX11_forced_43 ?_ ?_
    · intro cc; have H := H.1 cc
      refine sb_iload_n (pc' := 51) rfl rfl dX11_forced_50 ?_
      exact sb_iret rfl rfl dX11_forced_51 (H hr1 hs1)
    · intro cc; have H := H.2 cc
      refine sb_iconst (pc' := 47) rfl dX11_forced_46 ?_
      refine sb_goto (tgt := 51) (by decide) dX11_forced_47 ?_
      exact sb_iret rfl rfl dX11_forced_51 (H (iR_lit rfl) hs1)
  · intro cc; have H := H.2 cc
    refine sb_aload_n (pc' := 19) rfl rfl dX11_forced_18 ?_
    refine sb_getC (pc' := 22) rfl fc_102_48 wd_1598 dX11_forced_19 ?_
    refine sb_iload_n (pc' := 23) rfl rfl dX11_forced_22 ?_
    refine sb_iconst (pc' := 24) rfl dX11_forced_23 ?_
    obtain ⟨o2, H⟩ := H
    refine sb_iast (pc' := 25) rfl aI_127 o2.1 o2.2  dX11_forced_24 ?_
    refine sb_iinc (pc' := 28) rfl rfl (L' := [some (.ref (ad 102)), some (vi (x1 + 1))]) rfl (by decide) dX11_forced_25 ?_
    refine sb_goto (tgt := 11) (by decide) dX11_forced_28 ?_
    obtain ⟨o3, H⟩ := H
    exact (H o3 (SR_setI hS (iR_lit rfl)))
theorem bX11_apart_0 {g : AG} {ad : Nat → Nat} {d : Nat} {Q : AO → SG → Prop} {rc rs : Nat} {σ : SG} {x2 x3 x5 x6 : Int} {c1 n1 : Nat} (hc1 : aI c1 n1) {c4 n4 : Nat} (hc4 : aI c4 n4) (hx2 : iR x2) (hx3 : iR x3) (hx5 : iR x5) (hx6 : iR x6) (hS : SR σ) (H : (iR x2 → iR x3 → iR x5 → iR x6 → iR 0 → SR σ → Wb g ad d mX11_apart Q 3 [some (.ref (ad 102)), some (.ref (ad c1)), some (vi x2), some (vi x3), some (.ref (ad c4)), some (vi x5), some (vi x6), some (vi 0), none, none] [] σ rc rs)) : Wb g ad d mX11_apart Q 0 [some (.ref (ad 102)), some (.ref (ad c1)), some (vi x2), some (vi x3), some (.ref (ad c4)), some (vi x5), some (vi x6), none, none, none] [] σ rc rs := by
  refine sb_iconst (pc' := 1) rfl dX11_apart_0 ?_
  refine sb_istore (pc' := 3) rfl (L' := [some (.ref (ad 102)), some (.ref (ad c1)), some (vi x2), some (vi x3), some (.ref (ad c4)), some (vi x5), some (vi x6), some (vi 0), none, none]) rfl (by decide) dX11_apart_1 ?_
  exact (H hx2 hx3 hx5 hx6 (iR_lit rfl) hS)
theorem bX11_apart_3 {g : AG} {ad : Nat → Nat} {d : Nat} {Q : AO → SG → Prop} {rc rs : Nat} {σ : SG} {x2 x3 x5 x6 x7 : Int} {c1 n1 : Nat} (hc1 : aI c1 n1) {c4 n4 : Nat} (hc4 : aI c4 n4) (hx2 : iR x2) (hx3 : iR x3) (hx5 : iR x5) (hx6 : iR x6) (hx7 : iR x7) (hS : SR σ) (H : ((x3 < x7 → (0 ≤ (19 * x3) + x6 ∧ (19 * x3) + x6 < 361) ∧ (iR (ia σ 128 ((19 * x3) + x6)) → SR σ → Q (.inl (some (vi (ia σ 128 ((19 * x3) + x6))))) σ)) ∧ (¬ x3 < x7 → (iR x2 → iR x3 → iR x5 → iR x6 → iR x7 → iR 0 → SR σ → Wb g ad d mX11_apart Q 12 [some (.ref (ad 102)), some (.ref (ad c1)), some (vi x2), some (vi x3), some (.ref (ad c4)), some (vi x5), some (vi x6), some (vi x7), some (vi 0), none] [] σ rc rs)))) : Wb g ad d mX11_apart Q 3 [some (.ref (ad 102)), some (.ref (ad c1)), some (vi x2), some (vi x3), some (.ref (ad c4)), some (vi x5), some (vi x6), some (vi x7), none, none] [] σ rc rs := by
  refine sb_iload (pc' := 5) rfl rfl dX11_apart_3 ?_
  refine sb_iload_n (pc' := 6) rfl rfl dX11_apart_5 ?_
  refine sb_icmp_gt (pc' := 9) (tgt := 164) rfl (by decide) hx7 hx3 dX11_apart_6 ?_ ?_
  · intro cc; have H := H.1 cc
    refine sb_aload_n (pc' := 165) rfl rfl dX11_apart_164 ?_
    refine sb_getC (pc' := 168) rfl fc_102_49 wd_1599 dX11_apart_165 ?_
    refine sb_bipush (pc' := 170) rfl (z := 19) (by decide) dX11_apart_168 ?_
    refine sb_iload_n (pc' := 171) rfl rfl dX11_apart_170 ?_
    refine sb_imul (pc' := 172) rfl dX11_apart_171 ?_
    refine sb_iload (pc' := 174) rfl rfl dX11_apart_172 ?_
    refine sb_iadd (pc' := 175) rfl dX11_apart_174 ?_
    obtain ⟨o1, H⟩ := H
    refine sb_iald (pc' := 176) rfl aI_128 o1.1 o1.2 dX11_apart_175 ?_
    exact sb_iret rfl rfl dX11_apart_176 (H (SR_ia hS _ _) hS)
  · intro cc; have H := H.2 cc
    refine sb_iconst (pc' := 10) rfl dX11_apart_9 ?_
    refine sb_istore (pc' := 12) rfl (L' := [some (.ref (ad 102)), some (.ref (ad c1)), some (vi x2), some (vi x3), some (.ref (ad c4)), some (vi x5), some (vi x6), some (vi x7), some (vi 0), none]) rfl (by decide) dX11_apart_10 ?_
    exact (H hx2 hx3 hx5 hx6 hx7 (iR_lit rfl) hS)
theorem bX11_apart_12 {g : AG} {ad : Nat → Nat} {d : Nat} {Q : AO → SG → Prop} {rc rs : Nat} {σ : SG} {x2 x3 x5 x6 x7 x8 : Int} {c1 n1 : Nat} (hc1 : aI c1 n1) {c4 n4 : Nat} (hc4 : aI c4 n4) (hx2 : iR x2) (hx3 : iR x3) (hx5 : iR x5) (hx6 : iR x6) (hx7 : iR x7) (hx8 : iR x8) (hS : SR σ) (H : ((x6 < x8 → iR (x7 + 1) ∧ (iR x2 → iR x3 → iR x5 → iR x6 → iR (x7 + 1) → SR σ → Wb g ad d mX11_apart Q 3 [some (.ref (ad 102)), some (.ref (ad c1)), some (vi x2), some (vi x3), some (.ref (ad c4)), some (vi x5), some (vi x6), some (vi (x7 + 1)), none, none] [] σ rc rs)) ∧ (¬ x6 < x8 → ((¬ x7 = 0 → ((¬ x8 = 0 → (0 ≤ ((19 * (x7 - 1)) + x8) - 1 ∧ ((19 * (x7 - 1)) + x8) - 1 < 361) ∧ (0 ≤ (x2 + x7) - 1 ∧ (x2 + x7) - 1 < n1) ∧ (0 ≤ (x5 + x8) - 1 ∧ (x5 + x8) - 1 < n4) ∧ ((¬ (ia σ c1 ((x2 + x7) - 1)) = (ia σ c4 ((x5 + x8) - 1)) → ((x7 ≤ 0 → iR ((ia σ 128 (((19 * (x7 - 1)) + x8) - 1)) + 1) ∧ (iR x2 → iR x3 → iR x5 → iR x6 → iR x7 → iR x8 → iR ((ia σ 128 (((19 * (x7 - 1)) + x8) - 1)) + 1) → SR σ → Wb g ad d mX11_apart Q 137 [some (.ref (ad 102)), some (.ref (ad c1)), some (vi x2), some (vi x3), some (.ref (ad c4)), some (vi x5), some (vi x6), some (vi x7), some (vi x8), some (vi ((ia σ 128 (((19 * (x7 - 1)) + x8) - 1)) + 1))] [] σ rc rs)) ∧ (¬ x7 ≤ 0 → ((x8 ≤ 0 → iR ((ia σ 128 (((19 * (x7 - 1)) + x8) - 1)) + 1) ∧ (iR x2 → iR x3 → iR x5 → iR x6 → iR x7 → iR x8 → iR ((ia σ 128 (((19 * (x7 - 1)) + x8) - 1)) + 1) → SR σ → Wb g ad d mX11_apart Q 137 [some (.ref (ad 102)), some (.ref (ad c1)), some (vi x2), some (vi x3), some (.ref (ad c4)), some (vi x5), some (vi x6), some (vi x7), some (vi x8), some (vi ((ia σ 128 (((19 * (x7 - 1)) + x8) - 1)) + 1))] [] σ rc rs)) ∧ (¬ x8 ≤ 0 → (0 ≤ (19 * (x7 - 1)) + x8 ∧ (19 * (x7 - 1)) + x8 < 361) ∧ (0 ≤ ((19 * x7) + x8) - 1 ∧ ((19 * x7) + x8) - 1 < 361) ∧ Cl g ad d mX11_lesser 0 0 [(vi (ia σ 128 ((19 * (x7 - 1)) + x8))), (vi (ia σ 128 (((19 * x7) + x8) - 1)))] σ (Ki fun r9 s9 => Cl g ad d mX11_lesser 0 0 [(vi ((ia σ 128 (((19 * (x7 - 1)) + x8) - 1)) + 1)), (vi (1 + r9))] s9 (Ki fun r10 s10 => (iR x2 → iR x3 → iR x5 → iR x6 → iR x7 → iR x8 → iR r10 → SR s10 → Wb g ad d mX11_apart Q 137 [some (.ref (ad 102)), some (.ref (ad c1)), some (vi x2), some (vi x3), some (.ref (ad c4)), some (vi x5), some (vi x6), some (vi x7), some (vi x8), some (vi r10)] [] s10 rc rs)))))))) ∧ ((ia σ c1 ((x2 + x7) - 1)) = (ia σ c4 ((x5 + x8) - 1)) → ((x7 ≤ 0 → iR ((ia σ 128 (((19 * (x7 - 1)) + x8) - 1)) + 0) ∧ (iR x2 → iR x3 → iR x5 → iR x6 → iR x7 → iR x8 → iR ((ia σ 128 (((19 * (x7 - 1)) + x8) - 1)) + 0) → SR σ → Wb g ad d mX11_apart Q 137 [some (.ref (ad 102)), some (.ref (ad c1)), some (vi x2), some (vi x3), some (.ref (ad c4)), some (vi x5), some (vi x6), some (vi x7), some (vi x8), some (vi ((ia σ 128 (((19 * (x7 - 1)) + x8) - 1)) + 0))] [] σ rc rs)) ∧ (¬ x7 ≤ 0 → ((x8 ≤ 0 → iR ((ia σ 128 (((19 * (x7 - 1)) + x8) - 1)) + 0) ∧ (iR x2 → iR x3 → iR x5 → iR x6 → iR x7 → iR x8 → iR ((ia σ 128 (((19 * (x7 - 1)) + x8) - 1)) + 0) → SR σ → Wb g ad d mX11_apart Q 137 [some (.ref (ad 102)), some (.ref (ad c1)), some (vi x2), some (vi x3), some (.ref (ad c4)), some (vi x5), some (vi x6), some (vi x7), some (vi x8), some (vi ((ia σ 128 (((19 * (x7 - 1)) + x8) - 1)) + 0))] [] σ rc rs)) ∧ (¬ x8 ≤ 0 → (0 ≤ (19 * (x7 - 1)) + x8 ∧ (19 * (x7 - 1)) + x8 < 361) ∧ (0 ≤ ((19 * x7) + x8) - 1 ∧ ((19 * x7) + x8) - 1 < 361) ∧ Cl g ad d mX11_lesser 0 0 [(vi (ia σ 128 ((19 * (x7 - 1)) + x8))), (vi (ia σ 128 (((19 * x7) + x8) - 1)))] σ (Ki fun r15 s15 => Cl g ad d mX11_lesser 0 0 [(vi ((ia σ 128 (((19 * (x7 - 1)) + x8) - 1)) + 0)), (vi (1 + r15))] s15 (Ki fun r16 s16 => (iR x2 → iR x3 → iR x5 → iR x6 → iR x7 → iR x8 → iR r16 → SR s16 → Wb g ad d mX11_apart Q 137 [some (.ref (ad 102)), some (.ref (ad c1)), some (vi x2), some (vi x3), some (.ref (ad c4)), some (vi x5), some (vi x6), some (vi x7), some (vi x8), some (vi r16)] [] s16 rc rs)))))))))) ∧ (x8 = 0 → ((x7 ≤ 0 → (iR x2 → iR x3 → iR x5 → iR x6 → iR x7 → iR x8 → iR x7 → SR σ → Wb g ad d mX11_apart Q 137 [some (.ref (ad 102)), some (.ref (ad c1)), some (vi x2), some (vi x3), some (.ref (ad c4)), some (vi x5), some (vi x6), some (vi x7), some (vi x8), some (vi x7)] [] σ rc rs)) ∧ (¬ x7 ≤ 0 → ((x8 ≤ 0 → (iR x2 → iR x3 → iR x5 → iR x6 → iR x7 → iR x8 → iR x7 → SR σ → Wb g ad d mX11_apart Q 137 [some (.ref (ad 102)), some (.ref (ad c1)), some (vi x2), some (vi x3), some (.ref (ad c4)), some (vi x5), some (vi x6), some (vi x7), some (vi x8), some (vi x7)] [] σ rc rs)) ∧ (¬ x8 ≤ 0 → (0 ≤ (19 * (x7 - 1)) + x8 ∧ (19 * (x7 - 1)) + x8 < 361) ∧ (0 ≤ ((19 * x7) + x8) - 1 ∧ ((19 * x7) + x8) - 1 < 361) ∧ Cl g ad d mX11_lesser 0 0 [(vi (ia σ 128 ((19 * (x7 - 1)) + x8))), (vi (ia σ 128 (((19 * x7) + x8) - 1)))] σ (Ki fun r19 s19 => Cl g ad d mX11_lesser 0 0 [(vi x7), (vi (1 + r19))] s19 (Ki fun r20 s20 => (iR x2 → iR x3 → iR x5 → iR x6 → iR x7 → iR x8 → iR r20 → SR s20 → Wb g ad d mX11_apart Q 137 [some (.ref (ad 102)), some (.ref (ad c1)), some (vi x2), some (vi x3), some (.ref (ad c4)), some (vi x5), some (vi x6), some (vi x7), some (vi x8), some (vi r20)] [] s20 rc rs)))))))))) ∧ (x7 = 0 → ((x7 ≤ 0 → (iR x2 → iR x3 → iR x5 → iR x6 → iR x7 → iR x8 → iR x8 → SR σ → Wb g ad d mX11_apart Q 137 [some (.ref (ad 102)), some (.ref (ad c1)), some (vi x2), some (vi x3), some (.ref (ad c4)), some (vi x5), some (vi x6), some (vi x7), some (vi x8), some (vi x8)] [] σ rc rs)) ∧ (¬ x7 ≤ 0 → ((x8 ≤ 0 → (iR x2 → iR x3 → iR x5 → iR x6 → iR x7 → iR x8 → iR x8 → SR σ → Wb g ad d mX11_apart Q 137 [some (.ref (ad 102)), some (.ref (ad c1)), some (vi x2), some (vi x3), some (.ref (ad c4)), some (vi x5), some (vi x6), some (vi x7), some (vi x8), some (vi x8)] [] σ rc rs)) ∧ (¬ x8 ≤ 0 → (0 ≤ (19 * (x7 - 1)) + x8 ∧ (19 * (x7 - 1)) + x8 < 361) ∧ (0 ≤ ((19 * x7) + x8) - 1 ∧ ((19 * x7) + x8) - 1 < 361) ∧ Cl g ad d mX11_lesser 0 0 [(vi (ia σ 128 ((19 * (x7 - 1)) + x8))), (vi (ia σ 128 (((19 * x7) + x8) - 1)))] σ (Ki fun r23 s23 => Cl g ad d mX11_lesser 0 0 [(vi x8), (vi (1 + r23))] s23 (Ki fun r24 s24 => (iR x2 → iR x3 → iR x5 → iR x6 → iR x7 → iR x8 → iR r24 → SR s24 → Wb g ad d mX11_apart Q 137 [some (.ref (ad 102)), some (.ref (ad c1)), some (vi x2), some (vi x3), some (.ref (ad c4)), some (vi x5), some (vi x6), some (vi x7), some (vi x8), some (vi r24)] [] s24 rc rs)))))))))))) : Wb g ad d mX11_apart Q 12 [some (.ref (ad 102)), some (.ref (ad c1)), some (vi x2), some (vi x3), some (.ref (ad c4)), some (vi x5), some (vi x6), some (vi x7), some (vi x8), none] [] σ rc rs := by
  refine sb_iload (pc' := 14) rfl rfl dX11_apart_12 ?_
  refine sb_iload (pc' := 16) rfl rfl dX11_apart_14 ?_
  refine sb_icmp_gt (pc' := 19) (tgt := 158) rfl (by decide) hx8 hx6 dX11_apart_16 ?_ ?_
  · intro cc; have H := H.1 cc
    refine sb_iinc (pc' := 161) rfl rfl (L' := [some (.ref (ad 102)), some (.ref (ad c1)), some (vi x2), some (vi x3), some (.ref (ad c4)), some (vi x5), some (vi x6), some (vi (x7 + 1)), some (vi x8), none]) rfl (by decide) dX11_apart_158 ?_
    refine sb_goto (tgt := 3) (by decide) dX11_apart_161 ?_
    obtain ⟨o1, H⟩ := H
    refine Wb.forget [true, true, true, true, true, true, true, true, false, false] ?_
    exact (H hx2 hx3 hx5 hx6 o1 hS)
  · intro cc; have H := H.2 cc
    refine sb_iload (pc' := 21) rfl rfl dX11_apart_19 ?_
    refine sb_if_ne (pc' := 24) (tgt := 29) rfl (by decide) hx7 dX11_apart_21 ?_ ?_
    · intro cc; have H := H.1 cc
      refine sb_iload (pc' := 31) rfl rfl dX11_apart_29 ?_
      refine sb_if_ne (pc' := 34) (tgt := 39) rfl (by decide) hx8 dX11_apart_31 ?_ ?_
      · intro cc; have H := H.1 cc
        refine sb_aload_n (pc' := 40) rfl rfl dX11_apart_39 ?_
        refine sb_getC (pc' := 43) rfl fc_102_49 wd_1599 dX11_apart_40 ?_
        refine sb_bipush (pc' := 45) rfl (z := 19) (by decide) dX11_apart_43 ?_
        refine sb_iload (pc' := 47) rfl rfl dX11_apart_45 ?_
        refine sb_iconst (pc' := 48) rfl dX11_apart_47 ?_
        refine sb_isub (pc' := 49) rfl dX11_apart_48 ?_
        refine sb_imul (pc' := 50) rfl dX11_apart_49 ?_
        refine sb_iload (pc' := 52) rfl rfl dX11_apart_50 ?_
        refine sb_iadd (pc' := 53) rfl dX11_apart_52 ?_
        refine sb_iconst (pc' := 54) rfl dX11_apart_53 ?_
        refine sb_isub (pc' := 55) rfl dX11_apart_54 ?_
        obtain ⟨o2, H⟩ := H
        refine sb_iald (pc' := 56) rfl aI_128 o2.1 o2.2 dX11_apart_55 ?_
        refine sb_aload_n (pc' := 57) rfl rfl dX11_apart_56 ?_
        refine sb_iload_n (pc' := 58) rfl rfl dX11_apart_57 ?_
        refine sb_iload (pc' := 60) rfl rfl dX11_apart_58 ?_
        refine sb_iadd (pc' := 61) rfl dX11_apart_60 ?_
        refine sb_iconst (pc' := 62) rfl dX11_apart_61 ?_
        refine sb_isub (pc' := 63) rfl dX11_apart_62 ?_
        obtain ⟨o3, H⟩ := H
        refine sb_iald (pc' := 64) rfl hc1 o3.1 o3.2 dX11_apart_63 ?_
        refine sb_aload (pc' := 66) rfl rfl dX11_apart_64 ?_
        refine sb_iload (pc' := 68) rfl rfl dX11_apart_66 ?_
        refine sb_iload (pc' := 70) rfl rfl dX11_apart_68 ?_
        refine sb_iadd (pc' := 71) rfl dX11_apart_70 ?_
        refine sb_iconst (pc' := 72) rfl dX11_apart_71 ?_
        refine sb_isub (pc' := 73) rfl dX11_apart_72 ?_
        obtain ⟨o4, H⟩ := H
        refine sb_iald (pc' := 74) rfl hc4 o4.1 o4.2 dX11_apart_73 ?_
        refine sb_icmp_ne (pc' := 77) (tgt := 81) rfl (by decide) (SR_ia hS _ _) (SR_ia hS _ _) dX11_apart_74 ?_ ?_
        · intro cc; have H := H.1 cc
          refine sb_iconst (pc' := 82) rfl dX11_apart_81 ?_
          refine sb_iadd (pc' := 83) rfl dX11_apart_82 ?_
          refine sb_istore (pc' := 85) rfl (L' := [some (.ref (ad 102)), some (.ref (ad c1)), some (vi x2), some (vi x3), some (.ref (ad c4)), some (vi x5), some (vi x6), some (vi x7), some (vi x8), some (vi ((ia σ 128 (((19 * (x7 - 1)) + x8) - 1)) + 1))]) rfl (by decide) dX11_apart_83 ?_
          refine sb_iload (pc' := 87) rfl rfl dX11_apart_85 ?_
          refine sb_if_le (pc' := 90) (tgt := 137) rfl (by decide) hx7 dX11_apart_87 ?_ ?_
          · intro cc; have H := H.1 cc
            obtain ⟨o5, H⟩ := H
            exact (H hx2 hx3 hx5 hx6 hx7 hx8 o5 hS)
          · intro cc; have H := H.2 cc
            refine sb_iload (pc' := 92) rfl rfl dX11_apart_90 ?_
            refine sb_if_le (pc' := 95) (tgt := 137) rfl (by decide) hx8 dX11_apart_92 ?_ ?_
            · intro cc; have H := H.1 cc
              obtain ⟨o6, H⟩ := H
              exact (H hx2 hx3 hx5 hx6 hx7 hx8 o6 hS)
            · intro cc; have H := H.2 cc
              refine sb_iload (pc' := 97) rfl rfl dX11_apart_95 ?_
              refine sb_iconst (pc' := 98) rfl dX11_apart_97 ?_
              refine sb_aload_n (pc' := 99) rfl rfl dX11_apart_98 ?_
              refine sb_getC (pc' := 102) rfl fc_102_49 wd_1599 dX11_apart_99 ?_
              refine sb_bipush (pc' := 104) rfl (z := 19) (by decide) dX11_apart_102 ?_
              refine sb_iload (pc' := 106) rfl rfl dX11_apart_104 ?_
              refine sb_iconst (pc' := 107) rfl dX11_apart_106 ?_
              refine sb_isub (pc' := 108) rfl dX11_apart_107 ?_
              refine sb_imul (pc' := 109) rfl dX11_apart_108 ?_
              refine sb_iload (pc' := 111) rfl rfl dX11_apart_109 ?_
              refine sb_iadd (pc' := 112) rfl dX11_apart_111 ?_
              obtain ⟨o7, H⟩ := H
              refine sb_iald (pc' := 113) rfl aI_128 o7.1 o7.2 dX11_apart_112 ?_
              refine sb_aload_n (pc' := 114) rfl rfl dX11_apart_113 ?_
              refine sb_getC (pc' := 117) rfl fc_102_49 wd_1599 dX11_apart_114 ?_
              refine sb_bipush (pc' := 119) rfl (z := 19) (by decide) dX11_apart_117 ?_
              refine sb_iload (pc' := 121) rfl rfl dX11_apart_119 ?_
              refine sb_imul (pc' := 122) rfl dX11_apart_121 ?_
              refine sb_iload (pc' := 124) rfl rfl dX11_apart_122 ?_
              refine sb_iadd (pc' := 125) rfl dX11_apart_124 ?_
              refine sb_iconst (pc' := 126) rfl dX11_apart_125 ?_
              refine sb_isub (pc' := 127) rfl dX11_apart_126 ?_
              obtain ⟨o8, H⟩ := H
              refine sb_iald (pc' := 128) rfl aI_128 o8.1 o8.2 dX11_apart_127 ?_
              obtain ⟨d9, hd9, H⟩ := H
              refine sb_callS (pc' := 131) rfl rfl (rc := rc) (rs := rs) (mc' := 0) (ms' := 0) (As := [(vi (ia σ 128 ((19 * (x7 - 1)) + x8))), (vi (ia σ 128 (((19 * x7) + x8) - 1)))]) (st := [(vi 1), (vi ((ia σ 128 (((19 * (x7 - 1)) + x8) - 1)) + 1))])  rfl rfl (Nat.le_of_ble_eq_true rfl) hd9 kX11_lesser ⟨wd_1921, wd_1922⟩ dX11_apart_128 (Eb.mono H ?_)
              rintro o s9 ⟨r9, rfl, hr9, hs9, H⟩
              show Wb g ad d mX11_apart Q 131 [some (.ref (ad 102)), some (.ref (ad c1)), some (vi x2), some (vi x3), some (.ref (ad c4)), some (vi x5), some (vi x6), some (vi x7), some (vi x8), some (vi ((ia σ 128 (((19 * (x7 - 1)) + x8) - 1)) + 1))] [(vi r9), (vi 1), (vi ((ia σ 128 (((19 * (x7 - 1)) + x8) - 1)) + 1))] s9 rc rs
              refine sb_iadd (pc' := 132) rfl dX11_apart_131 ?_
              obtain ⟨d10, hd10, H⟩ := H
              refine sb_callS (pc' := 135) rfl rfl (rc := rc) (rs := rs) (mc' := 0) (ms' := 0) (As := [(vi ((ia σ 128 (((19 * (x7 - 1)) + x8) - 1)) + 1)), (vi (1 + r9))]) (st := [])  rfl rfl (Nat.le_of_ble_eq_true rfl) hd10 kX11_lesser ⟨wd_1921, wd_1922⟩ dX11_apart_132 (Eb.mono H ?_)
              rintro o s10 ⟨r10, rfl, hr10, hs10, H⟩
              show Wb g ad d mX11_apart Q 135 [some (.ref (ad 102)), some (.ref (ad c1)), some (vi x2), some (vi x3), some (.ref (ad c4)), some (vi x5), some (vi x6), some (vi x7), some (vi x8), some (vi ((ia σ 128 (((19 * (x7 - 1)) + x8) - 1)) + 1))] [(vi r10)] s10 rc rs
              refine sb_istore (pc' := 137) rfl (L' := [some (.ref (ad 102)), some (.ref (ad c1)), some (vi x2), some (vi x3), some (.ref (ad c4)), some (vi x5), some (vi x6), some (vi x7), some (vi x8), some (vi r10)]) rfl (by decide) dX11_apart_135 ?_
              exact (H hx2 hx3 hx5 hx6 hx7 hx8 hr10 hs10)
        · intro cc; have H := H.2 cc
          refine sb_iconst (pc' := 78) rfl dX11_apart_77 ?_
          refine sb_goto (tgt := 82) (by decide) dX11_apart_78 ?_
          refine sb_iadd (pc' := 83) rfl dX11_apart_82 ?_
          refine sb_istore (pc' := 85) rfl (L' := [some (.ref (ad 102)), some (.ref (ad c1)), some (vi x2), some (vi x3), some (.ref (ad c4)), some (vi x5), some (vi x6), some (vi x7), some (vi x8), some (vi ((ia σ 128 (((19 * (x7 - 1)) + x8) - 1)) + 0))]) rfl (by decide) dX11_apart_83 ?_
          refine sb_iload (pc' := 87) rfl rfl dX11_apart_85 ?_
          refine sb_if_le (pc' := 90) (tgt := 137) rfl (by decide) hx7 dX11_apart_87 ?_ ?_
          · intro cc; have H := H.1 cc
            obtain ⟨o11, H⟩ := H
            exact (H hx2 hx3 hx5 hx6 hx7 hx8 o11 hS)
          · intro cc; have H := H.2 cc
            refine sb_iload (pc' := 92) rfl rfl dX11_apart_90 ?_
            refine sb_if_le (pc' := 95) (tgt := 137) rfl (by decide) hx8 dX11_apart_92 ?_ ?_
            · intro cc; have H := H.1 cc
              obtain ⟨o12, H⟩ := H
              exact (H hx2 hx3 hx5 hx6 hx7 hx8 o12 hS)
            · intro cc; have H := H.2 cc
              refine sb_iload (pc' := 97) rfl rfl dX11_apart_95 ?_
              refine sb_iconst (pc' := 98) rfl dX11_apart_97 ?_
              refine sb_aload_n (pc' := 99) rfl rfl dX11_apart_98 ?_
              refine sb_getC (pc' := 102) rfl fc_102_49 wd_1599 dX11_apart_99 ?_
              refine sb_bipush (pc' := 104) rfl (z := 19) (by decide) dX11_apart_102 ?_
              refine sb_iload (pc' := 106) rfl rfl dX11_apart_104 ?_
              refine sb_iconst (pc' := 107) rfl dX11_apart_106 ?_
              refine sb_isub (pc' := 108) rfl dX11_apart_107 ?_
              refine sb_imul (pc' := 109) rfl dX11_apart_108 ?_
              refine sb_iload (pc' := 111) rfl rfl dX11_apart_109 ?_
              refine sb_iadd (pc' := 112) rfl dX11_apart_111 ?_
              obtain ⟨o13, H⟩ := H
              refine sb_iald (pc' := 113) rfl aI_128 o13.1 o13.2 dX11_apart_112 ?_
              refine sb_aload_n (pc' := 114) rfl rfl dX11_apart_113 ?_
              refine sb_getC (pc' := 117) rfl fc_102_49 wd_1599 dX11_apart_114 ?_
              refine sb_bipush (pc' := 119) rfl (z := 19) (by decide) dX11_apart_117 ?_
              refine sb_iload (pc' := 121) rfl rfl dX11_apart_119 ?_
              refine sb_imul (pc' := 122) rfl dX11_apart_121 ?_
              refine sb_iload (pc' := 124) rfl rfl dX11_apart_122 ?_
              refine sb_iadd (pc' := 125) rfl dX11_apart_124 ?_
              refine sb_iconst (pc' := 126) rfl dX11_apart_125 ?_
              refine sb_isub (pc' := 127) rfl dX11_apart_126 ?_
              obtain ⟨o14, H⟩ := H
              refine sb_iald (pc' := 128) rfl aI_128 o14.1 o14.2 dX11_apart_127 ?_
              obtain ⟨d15, hd15, H⟩ := H
              refine sb_callS (pc' := 131) rfl rfl (rc := rc) (rs := rs) (mc' := 0) (ms' := 0) (As := [(vi (ia σ 128 ((19 * (x7 - 1)) + x8))), (vi (ia σ 128 (((19 * x7) + x8) - 1)))]) (st := [(vi 1), (vi ((ia σ 128 (((19 * (x7 - 1)) + x8) - 1)) + 0))])  rfl rfl (Nat.le_of_ble_eq_true rfl) hd15 kX11_lesser ⟨wd_1921, wd_1922⟩ dX11_apart_128 (Eb.mono H ?_)
              rintro o s15 ⟨r15, rfl, hr15, hs15, H⟩
              show Wb g ad d mX11_apart Q 131 [some (.ref (ad 102)), some (.ref (ad c1)), some (vi x2), some (vi x3), some (.ref (ad c4)), some (vi x5), some (vi x6), some (vi x7), some (vi x8), some (vi ((ia σ 128 (((19 * (x7 - 1)) + x8) - 1)) + 0))] [(vi r15), (vi 1), (vi ((ia σ 128 (((19 * (x7 - 1)) + x8) - 1)) + 0))] s15 rc rs
              refine sb_iadd (pc' := 132) rfl dX11_apart_131 ?_
              obtain ⟨d16, hd16, H⟩ := H
              refine sb_callS (pc' := 135) rfl rfl (rc := rc) (rs := rs) (mc' := 0) (ms' := 0) (As := [(vi ((ia σ 128 (((19 * (x7 - 1)) + x8) - 1)) + 0)), (vi (1 + r15))]) (st := [])  rfl rfl (Nat.le_of_ble_eq_true rfl) hd16 kX11_lesser ⟨wd_1921, wd_1922⟩ dX11_apart_132 (Eb.mono H ?_)
              rintro o s16 ⟨r16, rfl, hr16, hs16, H⟩
              show Wb g ad d mX11_apart Q 135 [some (.ref (ad 102)), some (.ref (ad c1)), some (vi x2), some (vi x3), some (.ref (ad c4)), some (vi x5), some (vi x6), some (vi x7), some (vi x8), some (vi ((ia σ 128 (((19 * (x7 - 1)) + x8) - 1)) + 0))] [(vi r16)] s16 rc rs
              refine sb_istore (pc' := 137) rfl (L' := [some (.ref (ad 102)), some (.ref (ad c1)), some (vi x2), some (vi x3), some (.ref (ad c4)), some (vi x5), some (vi x6), some (vi x7), some (vi x8), some (vi r16)]) rfl (by decide) dX11_apart_135 ?_
              exact (H hx2 hx3 hx5 hx6 hx7 hx8 hr16 hs16)
      · intro cc; have H := H.2 cc
        refine sb_iload (pc' := 36) rfl rfl dX11_apart_34 ?_
        refine sb_goto (tgt := 83) (by decide) dX11_apart_36 ?_
        refine sb_istore (pc' := 85) rfl (L' := [some (.ref (ad 102)), some (.ref (ad c1)), some (vi x2), some (vi x3), some (.ref (ad c4)), some (vi x5), some (vi x6), some (vi x7), some (vi x8), some (vi x7)]) rfl (by decide) dX11_apart_83 ?_
        refine sb_iload (pc' := 87) rfl rfl dX11_apart_85 ?_
        refine sb_if_le (pc' := 90) (tgt := 137) rfl (by decide) hx7 dX11_apart_87 ?_ ?_
        · intro cc; have H := H.1 cc
          exact (H hx2 hx3 hx5 hx6 hx7 hx8 hx7 hS)
        · intro cc; have H := H.2 cc
          refine sb_iload (pc' := 92) rfl rfl dX11_apart_90 ?_
          refine sb_if_le (pc' := 95) (tgt := 137) rfl (by decide) hx8 dX11_apart_92 ?_ ?_
          · intro cc; have H := H.1 cc
            exact (H hx2 hx3 hx5 hx6 hx7 hx8 hx7 hS)
          · intro cc; have H := H.2 cc
            refine sb_iload (pc' := 97) rfl rfl dX11_apart_95 ?_
            refine sb_iconst (pc' := 98) rfl dX11_apart_97 ?_
            refine sb_aload_n (pc' := 99) rfl rfl dX11_apart_98 ?_
            refine sb_getC (pc' := 102) rfl fc_102_49 wd_1599 dX11_apart_99 ?_
            refine sb_bipush (pc' := 104) rfl (z := 19) (by decide) dX11_apart_102 ?_
            refine sb_iload (pc' := 106) rfl rfl dX11_apart_104 ?_
            refine sb_iconst (pc' := 107) rfl dX11_apart_106 ?_
            refine sb_isub (pc' := 108) rfl dX11_apart_107 ?_
            refine sb_imul (pc' := 109) rfl dX11_apart_108 ?_
            refine sb_iload (pc' := 111) rfl rfl dX11_apart_109 ?_
            refine sb_iadd (pc' := 112) rfl dX11_apart_111 ?_
            obtain ⟨o17, H⟩ := H
            refine sb_iald (pc' := 113) rfl aI_128 o17.1 o17.2 dX11_apart_112 ?_
            refine sb_aload_n (pc' := 114) rfl rfl dX11_apart_113 ?_
            refine sb_getC (pc' := 117) rfl fc_102_49 wd_1599 dX11_apart_114 ?_
            refine sb_bipush (pc' := 119) rfl (z := 19) (by decide) dX11_apart_117 ?_
            refine sb_iload (pc' := 121) rfl rfl dX11_apart_119 ?_
            refine sb_imul (pc' := 122) rfl dX11_apart_121 ?_
            refine sb_iload (pc' := 124) rfl rfl dX11_apart_122 ?_
            refine sb_iadd (pc' := 125) rfl dX11_apart_124 ?_
            refine sb_iconst (pc' := 126) rfl dX11_apart_125 ?_
            refine sb_isub (pc' := 127) rfl dX11_apart_126 ?_
            obtain ⟨o18, H⟩ := H
            refine sb_iald (pc' := 128) rfl aI_128 o18.1 o18.2 dX11_apart_127 ?_
            obtain ⟨d19, hd19, H⟩ := H
            refine sb_callS (pc' := 131) rfl rfl (rc := rc) (rs := rs) (mc' := 0) (ms' := 0) (As := [(vi (ia σ 128 ((19 * (x7 - 1)) + x8))), (vi (ia σ 128 (((19 * x7) + x8) - 1)))]) (st := [(vi 1), (vi x7)])  rfl rfl (Nat.le_of_ble_eq_true rfl) hd19 kX11_lesser ⟨wd_1921, wd_1922⟩ dX11_apart_128 (Eb.mono H ?_)
            rintro o s19 ⟨r19, rfl, hr19, hs19, H⟩
            show Wb g ad d mX11_apart Q 131 [some (.ref (ad 102)), some (.ref (ad c1)), some (vi x2), some (vi x3), some (.ref (ad c4)), some (vi x5), some (vi x6), some (vi x7), some (vi x8), some (vi x7)] [(vi r19), (vi 1), (vi x7)] s19 rc rs
            refine sb_iadd (pc' := 132) rfl dX11_apart_131 ?_
            obtain ⟨d20, hd20, H⟩ := H
            refine sb_callS (pc' := 135) rfl rfl (rc := rc) (rs := rs) (mc' := 0) (ms' := 0) (As := [(vi x7), (vi (1 + r19))]) (st := [])  rfl rfl (Nat.le_of_ble_eq_true rfl) hd20 kX11_lesser ⟨wd_1921, wd_1922⟩ dX11_apart_132 (Eb.mono H ?_)
            rintro o s20 ⟨r20, rfl, hr20, hs20, H⟩
            show Wb g ad d mX11_apart Q 135 [some (.ref (ad 102)), some (.ref (ad c1)), some (vi x2), some (vi x3), some (.ref (ad c4)), some (vi x5), some (vi x6), some (vi x7), some (vi x8), some (vi x7)] [(vi r20)] s20 rc rs
            refine sb_istore (pc' := 137) rfl (L' := [some (.ref (ad 102)), some (.ref (ad c1)), some (vi x2), some (vi x3), some (.ref (ad c4)), some (vi x5), some (vi x6), some (vi x7), some (vi x8), some (vi r20)]) rfl (by decide) dX11_apart_135 ?_
            exact (H hx2 hx3 hx5 hx6 hx7 hx8 hr20 hs20)
    · intro cc; have H := H.2 cc
      refine sb_iload (pc' := 26) rfl rfl dX11_apart_24 ?_
      refine sb_goto (tgt := 83) (by decide) dX11_apart_26 ?_
      refine sb_istore (pc' := 85) rfl (L' := [some (.ref (ad 102)), some (.ref (ad c1)), some (vi x2), some (vi x3), some (.ref (ad c4)), some (vi x5), some (vi x6), some (vi x7), some (vi x8), some (vi x8)]) rfl (by decide) dX11_apart_83 ?_
      refine sb_iload (pc' := 87) rfl rfl dX11_apart_85 ?_
      refine sb_if_le (pc' := 90) (tgt := 137) rfl (by decide) hx7 dX11_apart_87 ?_ ?_
      · intro cc; have H := H.1 cc
        exact (H hx2 hx3 hx5 hx6 hx7 hx8 hx8 hS)
      · intro cc; have H := H.2 cc
        refine sb_iload (pc' := 92) rfl rfl dX11_apart_90 ?_
        refine sb_if_le (pc' := 95) (tgt := 137) rfl (by decide) hx8 dX11_apart_92 ?_ ?_
        · intro cc; have H := H.1 cc
          exact (H hx2 hx3 hx5 hx6 hx7 hx8 hx8 hS)
        · intro cc; have H := H.2 cc
          refine sb_iload (pc' := 97) rfl rfl dX11_apart_95 ?_
          refine sb_iconst (pc' := 98) rfl dX11_apart_97 ?_
          refine sb_aload_n (pc' := 99) rfl rfl dX11_apart_98 ?_
          refine sb_getC (pc' := 102) rfl fc_102_49 wd_1599 dX11_apart_99 ?_
          refine sb_bipush (pc' := 104) rfl (z := 19) (by decide) dX11_apart_102 ?_
          refine sb_iload (pc' := 106) rfl rfl dX11_apart_104 ?_
          refine sb_iconst (pc' := 107) rfl dX11_apart_106 ?_
          refine sb_isub (pc' := 108) rfl dX11_apart_107 ?_
          refine sb_imul (pc' := 109) rfl dX11_apart_108 ?_
          refine sb_iload (pc' := 111) rfl rfl dX11_apart_109 ?_
          refine sb_iadd (pc' := 112) rfl dX11_apart_111 ?_
          obtain ⟨o21, H⟩ := H
          refine sb_iald (pc' := 113) rfl aI_128 o21.1 o21.2 dX11_apart_112 ?_
          refine sb_aload_n (pc' := 114) rfl rfl dX11_apart_113 ?_
          refine sb_getC (pc' := 117) rfl fc_102_49 wd_1599 dX11_apart_114 ?_
          refine sb_bipush (pc' := 119) rfl (z := 19) (by decide) dX11_apart_117 ?_
          refine sb_iload (pc' := 121) rfl rfl dX11_apart_119 ?_
          refine sb_imul (pc' := 122) rfl dX11_apart_121 ?_
          refine sb_iload (pc' := 124) rfl rfl dX11_apart_122 ?_
          refine sb_iadd (pc' := 125) rfl dX11_apart_124 ?_
          refine sb_iconst (pc' := 126) rfl dX11_apart_125 ?_
          refine sb_isub (pc' := 127) rfl dX11_apart_126 ?_
          obtain ⟨o22, H⟩ := H
          refine sb_iald (pc' := 128) rfl aI_128 o22.1 o22.2 dX11_apart_127 ?_
          obtain ⟨d23, hd23, H⟩ := H
          refine sb_callS (pc' := 131) rfl rfl (rc := rc) (rs := rs) (mc' := 0) (ms' := 0) (As := [(vi (ia σ 128 ((19 * (x7 - 1)) + x8))), (vi (ia σ 128 (((19 * x7) + x8) - 1)))]) (st := [(vi 1), (vi x8)])  rfl rfl (Nat.le_of_ble_eq_true rfl) hd23 kX11_lesser ⟨wd_1921, wd_1922⟩ dX11_apart_128 (Eb.mono H ?_)
          rintro o s23 ⟨r23, rfl, hr23, hs23, H⟩
          show Wb g ad d mX11_apart Q 131 [some (.ref (ad 102)), some (.ref (ad c1)), some (vi x2), some (vi x3), some (.ref (ad c4)), some (vi x5), some (vi x6), some (vi x7), some (vi x8), some (vi x8)] [(vi r23), (vi 1), (vi x8)] s23 rc rs
          refine sb_iadd (pc' := 132) rfl dX11_apart_131 ?_
          obtain ⟨d24, hd24, H⟩ := H
          refine sb_callS (pc' := 135) rfl rfl (rc := rc) (rs := rs) (mc' := 0) (ms' := 0) (As := [(vi x8), (vi (1 + r23))]) (st := [])  rfl rfl (Nat.le_of_ble_eq_true rfl) hd24 kX11_lesser ⟨wd_1921, wd_1922⟩ dX11_apart_132 (Eb.mono H ?_)
          rintro o s24 ⟨r24, rfl, hr24, hs24, H⟩
          show Wb g ad d mX11_apart Q 135 [some (.ref (ad 102)), some (.ref (ad c1)), some (vi x2), some (vi x3), some (.ref (ad c4)), some (vi x5), some (vi x6), some (vi x7), some (vi x8), some (vi x8)] [(vi r24)] s24 rc rs
          refine sb_istore (pc' := 137) rfl (L' := [some (.ref (ad 102)), some (.ref (ad c1)), some (vi x2), some (vi x3), some (.ref (ad c4)), some (vi x5), some (vi x6), some (vi x7), some (vi x8), some (vi r24)]) rfl (by decide) dX11_apart_135 ?_
          exact (H hx2 hx3 hx5 hx6 hx7 hx8 hr24 hs24)
theorem bX11_apart_137 {g : AG} {ad : Nat → Nat} {d : Nat} {Q : AO → SG → Prop} {rc rs : Nat} {σ : SG} {x2 x3 x5 x6 x7 x8 x9 : Int} {c1 n1 : Nat} (hc1 : aI c1 n1) {c4 n4 : Nat} (hc4 : aI c4 n4) (hx2 : iR x2) (hx3 : iR x3) (hx5 : iR x5) (hx6 : iR x6) (hx7 : iR x7) (hx8 : iR x8) (hx9 : iR x9) (hS : SR σ) (H : (0 ≤ (19 * x7) + x8 ∧ (19 * x7) + x8 < 361) ∧ iR (x8 + 1) ∧ (iR x2 → iR x3 → iR x5 → iR x6 → iR x7 → iR (x8 + 1) → SR (setI σ 128 ((19 * x7) + x8) x9) → Wb g ad d mX11_apart Q 12 [some (.ref (ad 102)), some (.ref (ad c1)), some (vi x2), some (vi x3), some (.ref (ad c4)), some (vi x5), some (vi x6), some (vi x7), some (vi (x8 + 1)), none] [] (setI σ 128 ((19 * x7) + x8) x9) rc rs)) : Wb g ad d mX11_apart Q 137 [some (.ref (ad 102)), some (.ref (ad c1)), some (vi x2), some (vi x3), some (.ref (ad c4)), some (vi x5), some (vi x6), some (vi x7), some (vi x8), some (vi x9)] [] σ rc rs := by
  refine sb_aload_n (pc' := 138) rfl rfl dX11_apart_137 ?_
  refine sb_getC (pc' := 141) rfl fc_102_49 wd_1599 dX11_apart_138 ?_
  refine sb_bipush (pc' := 143) rfl (z := 19) (by decide) dX11_apart_141 ?_
  refine sb_iload (pc' := 145) rfl rfl dX11_apart_143 ?_
  refine sb_imul (pc' := 146) rfl dX11_apart_145 ?_
  refine sb_iload (pc' := 148) rfl rfl dX11_apart_146 ?_
  refine sb_iadd (pc' := 149) rfl dX11_apart_148 ?_
  refine sb_iload (pc' := 151) rfl rfl dX11_apart_149 ?_
  obtain ⟨o1, H⟩ := H
  refine sb_iast (pc' := 152) rfl aI_128 o1.1 o1.2  dX11_apart_151 ?_
  refine sb_iinc (pc' := 155) rfl rfl (L' := [some (.ref (ad 102)), some (.ref (ad c1)), some (vi x2), some (vi x3), some (.ref (ad c4)), some (vi x5), some (vi x6), some (vi x7), some (vi (x8 + 1)), some (vi x9)]) rfl (by decide) dX11_apart_152 ?_
  refine sb_goto (tgt := 12) (by decide) dX11_apart_155 ?_
  obtain ⟨o2, H⟩ := H
  refine Wb.forget [true, true, true, true, true, true, true, true, true, false] ?_
  exact (H hx2 hx3 hx5 hx6 hx7 o2 (SR_setI hS hx9))
theorem bX11_nearTold_0 {g : AG} {ad : Nat → Nat} {d : Nat} {Q : AO → SG → Prop} {rc rs : Nat} {σ : SG}    (hS : SR σ) (H : Cl g ad d mX11_isWay 0 0 [(.ref (ad 102)), (vi 0)] σ (Ki fun r1 s1 => Cl g ad d mX11_apart 0 0 [(.ref (ad 102)), (.ref (ad 116)), (vi 0), (vi (sc s1 102 32)), (.ref (ad 109)), (vi 0), (vi (sc s1 102 14))] s1 (Ki fun r2 s2 => (iR r2 → SR s2 → Q (.inl (some (vi r2))) s2)))) : Wb g ad d mX11_nearTold Q 0 [some (.ref (ad 102)), none] [] σ rc rs := by
  refine sb_aload_n (pc' := 1) rfl rfl dX11_nearTold_0 ?_
  refine sb_iconst (pc' := 2) rfl dX11_nearTold_1 ?_
  obtain ⟨d1, hd1, H⟩ := H
  refine sb_callV (pc' := 5) rfl rfl (rc := rc) (rs := rs) (mc' := 0) (ms' := 0) (As := [(vi 0)]) (st := []) of_102 rfl rfl (Nat.le_of_ble_eq_true rfl) hd1 kX11_isWay ⟨wd_1977, wd_1979, wd_140⟩ dX11_nearTold_2 (Eb.mono H ?_)
  rintro o s1 ⟨r1, rfl, hr1, hs1, H⟩
  show Wb g ad d mX11_nearTold Q 5 [some (.ref (ad 102)), none] [(vi r1)] s1 rc rs
  refine sb_istore_n (pc' := 6) rfl (L' := [some (.ref (ad 102)), some (vi r1)]) rfl (by decide) dX11_nearTold_5 ?_
  refine sb_aload_n (pc' := 7) rfl rfl dX11_nearTold_6 ?_
  refine sb_aload_n (pc' := 8) rfl rfl dX11_nearTold_7 ?_
  refine sb_getC (pc' := 11) rfl fc_102_31 wd_1581 dX11_nearTold_8 ?_
  refine sb_iconst (pc' := 12) rfl dX11_nearTold_11 ?_
  refine sb_aload_n (pc' := 13) rfl rfl dX11_nearTold_12 ?_
  refine sb_getI (pc' := 16) rfl fi_102_32 wd_1582 dX11_nearTold_13 ?_
  refine sb_aload_n (pc' := 17) rfl rfl dX11_nearTold_16 ?_
  refine sb_getC (pc' := 20) rfl fc_102_13 wd_1563 dX11_nearTold_17 ?_
  refine sb_iconst (pc' := 21) rfl dX11_nearTold_20 ?_
  refine sb_aload_n (pc' := 22) rfl rfl dX11_nearTold_21 ?_
  refine sb_getI (pc' := 25) rfl fi_102_14 wd_1564 dX11_nearTold_22 ?_
  obtain ⟨d2, hd2, H⟩ := H
  refine sb_callV (pc' := 28) rfl rfl (rc := rc) (rs := rs) (mc' := 0) (ms' := 0) (As := [(.ref (ad 116)), (vi 0), (vi (sc s1 102 32)), (.ref (ad 109)), (vi 0), (vi (sc s1 102 14))]) (st := []) of_102 rfl rfl (Nat.le_of_ble_eq_true rfl) hd2 kX11_apart ⟨wd_2103, wd_2105, wd_162⟩ dX11_nearTold_25 (Eb.mono H ?_)
  rintro o s2 ⟨r2, rfl, hr2, hs2, H⟩
  show Wb g ad d mX11_nearTold Q 28 [some (.ref (ad 102)), some (vi r1)] [(vi r2)] s2 rc rs
  exact sb_iret rfl rfl dX11_nearTold_28 (H hr2 hs2)
theorem bX11_near_0 {g : AG} {ad : Nat → Nat} {d : Nat} {Q : AO → SG → Prop} {rc rs : Nat} {σ : SG}    (hS : SR σ) (H : Cl g ad d mX11_isTold 0 0 [(.ref (ad 102))] σ (Ki fun r1 s1 => ((r1 = 0 → (iR 0 → SR s1 → Q (.inl (some (vi 0))) s1)) ∧ (¬ r1 = 0 → Cl g ad d mX11_nearTold 0 0 [(.ref (ad 102))] s1 (Ki fun r2 s2 => (iR r2 → SR s2 → Q (.inl (some (vi r2))) s2)))))) : Wb g ad d mX11_near Q 0 [some (.ref (ad 102))] [] σ rc rs := by
  refine sb_aload_n (pc' := 1) rfl rfl dX11_near_0 ?_
  obtain ⟨d1, hd1, H⟩ := H
  refine sb_callV (pc' := 4) rfl rfl (rc := rc) (rs := rs) (mc' := 0) (ms' := 0) (As := []) (st := []) of_102 rfl rfl (Nat.le_of_ble_eq_true rfl) hd1 kX11_isTold ⟨wd_2083, wd_2085, wd_158⟩ dX11_near_1 (Eb.mono H ?_)
  rintro o s1 ⟨r1, rfl, hr1, hs1, H⟩
  show Wb g ad d mX11_near Q 4 [some (.ref (ad 102))] [(vi r1)] s1 rc rs
  refine sb_if_eq (pc' := 7) (tgt := 14) rfl (by decide) hr1 dX11_near_4 ?_ ?_
  · intro cc; have H := H.1 cc
    refine sb_iconst (pc' := 15) rfl dX11_near_14 ?_
    exact sb_iret rfl rfl dX11_near_15 (H (iR_lit rfl) hs1)
  · intro cc; have H := H.2 cc
    refine sb_aload_n (pc' := 8) rfl rfl dX11_near_7 ?_
    obtain ⟨d2, hd2, H⟩ := H
    refine sb_callV (pc' := 11) rfl rfl (rc := rc) (rs := rs) (mc' := 0) (ms' := 0) (As := []) (st := []) of_102 rfl rfl (Nat.le_of_ble_eq_true rfl) hd2 kX11_nearTold ⟨wd_2099, wd_2101, wd_161⟩ dX11_near_8 (Eb.mono H ?_)
    rintro o s2 ⟨r2, rfl, hr2, hs2, H⟩
    show Wb g ad d mX11_near Q 11 [some (.ref (ad 102))] [(vi r2)] s2 rc rs
    refine sb_goto (tgt := 15) (by decide) dX11_near_11 ?_
    exact sb_iret rfl rfl dX11_near_15 (H hr2 hs2)
theorem bX11_areAlike_0 {g : AG} {ad : Nat → Nat} {d : Nat} {Q : AO → SG → Prop} {rc rs : Nat} {σ : SG} {x1 x3 x4 : Int} {c0 n0 : Nat} (hc0 : aI c0 n0) {c2 n2 : Nat} (hc2 : aI c2 n2) (hx1 : iR x1) (hx3 : iR x3) (hx4 : iR x4) (hS : SR σ) (H : (iR x1 → iR x3 → iR x4 → iR 0 → SR σ → Wb g ad d mX11_areAlike Q 3 [some (.ref (ad c0)), some (vi x1), some (.ref (ad c2)), some (vi x3), some (vi x4), some (vi 0)] [] σ rc rs)) : Wb g ad d mX11_areAlike Q 0 [some (.ref (ad c0)), some (vi x1), some (.ref (ad c2)), some (vi x3), some (vi x4), none] [] σ rc rs := by
  refine sb_iconst (pc' := 1) rfl dX11_areAlike_0 ?_
  refine sb_istore (pc' := 3) rfl (L' := [some (.ref (ad c0)), some (vi x1), some (.ref (ad c2)), some (vi x3), some (vi x4), some (vi 0)]) rfl (by decide) dX11_areAlike_1 ?_
  exact (H hx1 hx3 hx4 (iR_lit rfl) hS)
theorem bX11_areAlike_3 {g : AG} {ad : Nat → Nat} {d : Nat} {Q : AO → SG → Prop} {rc rs : Nat} {σ : SG} {x1 x3 x4 x5 : Int} {c0 n0 : Nat} (hc0 : aI c0 n0) {c2 n2 : Nat} (hc2 : aI c2 n2) (hx1 : iR x1) (hx3 : iR x3) (hx4 : iR x4) (hx5 : iR x5) (hS : SR σ) (H : ((x4 ≤ x5 → (iR 1 → SR σ → Q (.inl (some (vi 1))) σ)) ∧ (¬ x4 ≤ x5 → (0 ≤ x1 + x5 ∧ x1 + x5 < n0) ∧ (0 ≤ x3 + x5 ∧ x3 + x5 < n2) ∧ (((ia σ c0 (x1 + x5)) = (ia σ c2 (x3 + x5)) → iR (x5 + 1) ∧ (iR x1 → iR x3 → iR x4 → iR (x5 + 1) → SR σ → Wb g ad d mX11_areAlike Q 3 [some (.ref (ad c0)), some (vi x1), some (.ref (ad c2)), some (vi x3), some (vi x4), some (vi (x5 + 1))] [] σ rc rs)) ∧ (¬ (ia σ c0 (x1 + x5)) = (ia σ c2 (x3 + x5)) → (iR 0 → SR σ → Q (.inl (some (vi 0))) σ)))))) : Wb g ad d mX11_areAlike Q 3 [some (.ref (ad c0)), some (vi x1), some (.ref (ad c2)), some (vi x3), some (vi x4), some (vi x5)] [] σ rc rs := by
  refine sb_iload (pc' := 5) rfl rfl dX11_areAlike_3 ?_
  refine sb_iload (pc' := 7) rfl rfl dX11_areAlike_5 ?_
  refine sb_icmp_ge (pc' := 10) (tgt := 33) rfl (by decide) hx5 hx4 dX11_areAlike_7 ?_ ?_
  · intro cc; have H := H.1 cc
    refine sb_iconst (pc' := 34) rfl dX11_areAlike_33 ?_
    exact sb_iret rfl (nar_z2 (Or.inr rfl)) dX11_areAlike_34 (H (iR_lit rfl) hS)
  · intro cc; have H := H.2 cc
    refine sb_aload_n (pc' := 11) rfl rfl dX11_areAlike_10 ?_
    refine sb_iload_n (pc' := 12) rfl rfl dX11_areAlike_11 ?_
    refine sb_iload (pc' := 14) rfl rfl dX11_areAlike_12 ?_
    refine sb_iadd (pc' := 15) rfl dX11_areAlike_14 ?_
    obtain ⟨o1, H⟩ := H
    refine sb_iald (pc' := 16) rfl hc0 o1.1 o1.2 dX11_areAlike_15 ?_
    refine sb_aload_n (pc' := 17) rfl rfl dX11_areAlike_16 ?_
    refine sb_iload_n (pc' := 18) rfl rfl dX11_areAlike_17 ?_
    refine sb_iload (pc' := 20) rfl rfl dX11_areAlike_18 ?_
    refine sb_iadd (pc' := 21) rfl dX11_areAlike_20 ?_
    obtain ⟨o2, H⟩ := H
    refine sb_iald (pc' := 22) rfl hc2 o2.1 o2.2 dX11_areAlike_21 ?_
    refine sb_icmp_eq (pc' := 25) (tgt := 27) rfl (by decide) (SR_ia hS _ _) (SR_ia hS _ _) dX11_areAlike_22 ?_ ?_
    · intro cc; have H := H.1 cc
      refine sb_iinc (pc' := 30) rfl rfl (L' := [some (.ref (ad c0)), some (vi x1), some (.ref (ad c2)), some (vi x3), some (vi x4), some (vi (x5 + 1))]) rfl (by decide) dX11_areAlike_27 ?_
      refine sb_goto (tgt := 3) (by decide) dX11_areAlike_30 ?_
      obtain ⟨o3, H⟩ := H
      exact (H hx1 hx3 hx4 o3 hS)
    · intro cc; have H := H.2 cc
      refine sb_iconst (pc' := 26) rfl dX11_areAlike_25 ?_
      exact sb_iret rfl (nar_z2 (Or.inl rfl)) dX11_areAlike_26 (H (iR_lit rfl) hS)
theorem bX11_times_0 {g : AG} {ad : Nat → Nat} {d : Nat} {Q : AO → SG → Prop} {rc rs : Nat} {σ : SG} {x1 x3 x4 : Int} {c0 n0 : Nat} (hc0 : aI c0 n0) {c2 n2 : Nat} (hc2 : aI c2 n2) (hx1 : iR x1) (hx3 : iR x3) (hx4 : iR x4) (hS : SR σ) (H : (iR x1 → iR x3 → iR x4 → iR 0 → iR 0 → SR σ → Wb g ad d mX11_times Q 6 [some (.ref (ad c0)), some (vi x1), some (.ref (ad c2)), some (vi x3), some (vi x4), some (vi 0), some (vi 0)] [] σ rc rs)) : Wb g ad d mX11_times Q 0 [some (.ref (ad c0)), some (vi x1), some (.ref (ad c2)), some (vi x3), some (vi x4), none, none] [] σ rc rs := by
  refine sb_iconst (pc' := 1) rfl dX11_times_0 ?_
  refine sb_istore (pc' := 3) rfl (L' := [some (.ref (ad c0)), some (vi x1), some (.ref (ad c2)), some (vi x3), some (vi x4), some (vi 0), none]) rfl (by decide) dX11_times_1 ?_
  refine sb_iconst (pc' := 4) rfl dX11_times_3 ?_
  refine sb_istore (pc' := 6) rfl (L' := [some (.ref (ad c0)), some (vi x1), some (.ref (ad c2)), some (vi x3), some (vi x4), some (vi 0), some (vi 0)]) rfl (by decide) dX11_times_4 ?_
  exact (H hx1 hx3 hx4 (iR_lit rfl) (iR_lit rfl) hS)
theorem bX11_times_6 {g : AG} {ad : Nat → Nat} {d : Nat} {Q : AO → SG → Prop} {rc rs : Nat} {σ : SG} {x1 x3 x4 x5 x6 : Int} {c0 n0 : Nat} (hc0 : aI c0 n0) {c2 n2 : Nat} (hc2 : aI c2 n2) (hx1 : iR x1) (hx3 : iR x3) (hx4 : iR x4) (hx5 : iR x5) (hx6 : iR x6) (hS : SR σ) (H : iR (x6 + x4) ∧ ((x1 < (x6 + x4) → (iR x5 → SR σ → Q (.inl (some (vi x5))) σ)) ∧ (¬ x1 < (x6 + x4) → Cl g ad d mX11_areAlike 0 0 [(.ref (ad c0)), (vi x6), (.ref (ad c2)), (vi x3), (vi x4)] σ (Ki fun r2 s2 => ((r2 = 0 → iR (x5 + 0) ∧ iR (x6 + 1) ∧ (iR x1 → iR x3 → iR x4 → iR (x5 + 0) → iR (x6 + 1) → SR s2 → Wb g ad d mX11_times Q 6 [some (.ref (ad c0)), some (vi x1), some (.ref (ad c2)), some (vi x3), some (vi x4), some (vi (x5 + 0)), some (vi (x6 + 1))] [] s2 rc rs)) ∧ (¬ r2 = 0 → iR (x5 + 1) ∧ iR (x6 + 1) ∧ (iR x1 → iR x3 → iR x4 → iR (x5 + 1) → iR (x6 + 1) → SR s2 → Wb g ad d mX11_times Q 6 [some (.ref (ad c0)), some (vi x1), some (.ref (ad c2)), some (vi x3), some (vi x4), some (vi (x5 + 1)), some (vi (x6 + 1))] [] s2 rc rs))))))) : Wb g ad d mX11_times Q 6 [some (.ref (ad c0)), some (vi x1), some (.ref (ad c2)), some (vi x3), some (vi x4), some (vi x5), some (vi x6)] [] σ rc rs := by
  refine sb_iload (pc' := 8) rfl rfl dX11_times_6 ?_
  refine sb_iload (pc' := 10) rfl rfl dX11_times_8 ?_
  refine sb_iadd (pc' := 11) rfl dX11_times_10 ?_
  refine sb_iload_n (pc' := 12) rfl rfl dX11_times_11 ?_
  obtain ⟨o1, H⟩ := H
  refine sb_icmp_gt (pc' := 15) (tgt := 44) rfl (by decide) o1 hx1 dX11_times_12 ?_ ?_
  · intro cc; have H := H.1 cc
    refine sb_iload (pc' := 46) rfl rfl dX11_times_44 ?_
    exact sb_iret rfl rfl dX11_times_46 (H hx5 hS)
  · intro cc; have H := H.2 cc
    refine sb_iload (pc' := 17) rfl rfl dX11_times_15 ?_
    refine sb_aload_n (pc' := 18) rfl rfl dX11_times_17 ?_
    refine sb_iload (pc' := 20) rfl rfl dX11_times_18 ?_
    refine sb_aload_n (pc' := 21) rfl rfl dX11_times_20 ?_
    refine sb_iload_n (pc' := 22) rfl rfl dX11_times_21 ?_
    refine sb_iload (pc' := 24) rfl rfl dX11_times_22 ?_
    obtain ⟨d2, hd2, H⟩ := H
    refine sb_callS (pc' := 27) rfl rfl (rc := rc) (rs := rs) (mc' := 0) (ms' := 0) (As := [(.ref (ad c0)), (vi x6), (.ref (ad c2)), (vi x3), (vi x4)]) (st := [(vi x5)])  rfl rfl (Nat.le_of_ble_eq_true rfl) hd2 kX11_areAlike ⟨wd_2111, wd_2112⟩ dX11_times_24 (Eb.mono H ?_)
    rintro o s2 ⟨r2, rfl, hr2, hs2, H⟩
    show Wb g ad d mX11_times Q 27 [some (.ref (ad c0)), some (vi x1), some (.ref (ad c2)), some (vi x3), some (vi x4), some (vi x5), some (vi x6)] [(vi r2), (vi x5)] s2 rc rs
    refine sb_if_eq (pc' := 30) (tgt := 34) rfl (by decide) hr2 dX11_times_27 ?_ ?_
    · intro cc; have H := H.1 cc
      refine sb_iconst (pc' := 35) rfl dX11_times_34 ?_
      refine sb_iadd (pc' := 36) rfl dX11_times_35 ?_
      refine sb_istore (pc' := 38) rfl (L' := [some (.ref (ad c0)), some (vi x1), some (.ref (ad c2)), some (vi x3), some (vi x4), some (vi (x5 + 0)), some (vi x6)]) rfl (by decide) dX11_times_36 ?_
      refine sb_iinc (pc' := 41) rfl rfl (L' := [some (.ref (ad c0)), some (vi x1), some (.ref (ad c2)), some (vi x3), some (vi x4), some (vi (x5 + 0)), some (vi (x6 + 1))]) rfl (by decide) dX11_times_38 ?_
      refine sb_goto (tgt := 6) (by decide) dX11_times_41 ?_
      obtain ⟨o3, H⟩ := H
      obtain ⟨o4, H⟩ := H
      exact (H hx1 hx3 hx4 o3 o4 hs2)
    · intro cc; have H := H.2 cc
      refine sb_iconst (pc' := 31) rfl dX11_times_30 ?_
      refine sb_goto (tgt := 35) (by decide) dX11_times_31 ?_
      refine sb_iadd (pc' := 36) rfl dX11_times_35 ?_
      refine sb_istore (pc' := 38) rfl (L' := [some (.ref (ad c0)), some (vi x1), some (.ref (ad c2)), some (vi x3), some (vi x4), some (vi (x5 + 1)), some (vi x6)]) rfl (by decide) dX11_times_36 ?_
      refine sb_iinc (pc' := 41) rfl rfl (L' := [some (.ref (ad c0)), some (vi x1), some (.ref (ad c2)), some (vi x3), some (vi x4), some (vi (x5 + 1)), some (vi (x6 + 1))]) rfl (by decide) dX11_times_38 ?_
      refine sb_goto (tgt := 6) (by decide) dX11_times_41 ?_
      obtain ⟨o5, H⟩ := H
      obtain ⟨o6, H⟩ := H
      exact (H hx1 hx3 hx4 o5 o6 hs2)
theorem bX11_match_0 {g : AG} {ad : Nat → Nat} {d : Nat} {Q : AO → SG → Prop} {rc rs : Nat} {σ : SG} {x1 : Int}  (hx1 : iR x1) (hS : SR σ) (H : Cl g ad d mX11_isIn 0 0 [(vi x1), (vi 1), (vi 3)] σ (Ki fun r1 s1 => ((¬ r1 = 0 → Cl g ad d mX11_isTold 0 0 [(.ref (ad 102))] s1 (Ki fun r2 s2 => ((¬ r2 = 0 → Cl g ad d mX11_isWay 0 0 [(.ref (ad 102)), (vi 0)] s2 (Ki fun r3 s3 => (iR x1 → iR r3 → iR 0 → iR 0 → SR s3 → Wb g ad d mX11_match Q 41 [some (.ref (ad 102)), some (vi x1), some (vi r3), some (vi 0), some (vi 0), none, none] [] s3 rc rs))) ∧ (r2 = 0 → (iR 0 → SR s2 → Q (.inl (some (vi 0))) s2))))) ∧ (r1 = 0 → (iR 0 → SR (setS (setS s1 102 0 1) 102 6 0) → Q (.inl (some (vi 0))) (setS (setS s1 102 0 1) 102 6 0)))))) : Wb g ad d mX11_match Q 0 [some (.ref (ad 102)), some (vi x1), none, none, none, none, none] [] σ rc rs := by
  refine sb_iload_n (pc' := 1) rfl rfl dX11_match_0 ?_
  refine sb_iconst (pc' := 2) rfl dX11_match_1 ?_
  refine sb_iconst (pc' := 3) rfl dX11_match_2 ?_
  obtain ⟨d1, hd1, H⟩ := H
  refine sb_callS (pc' := 6) rfl rfl (rc := rc) (rs := rs) (mc' := 0) (ms' := 0) (As := [(vi x1), (vi 1), (vi 3)]) (st := [])  rfl rfl (Nat.le_of_ble_eq_true rfl) hd1 kX11_isIn ⟨wd_1719, wd_1720⟩ dX11_match_3 (Eb.mono H ?_)
  rintro o s1 ⟨r1, rfl, hr1, hs1, H⟩
  show Wb g ad d mX11_match Q 6 [some (.ref (ad 102)), some (vi x1), none, none, none, none, none] [(vi r1)] s1 rc rs
  refine sb_if_ne (pc' := 9) (tgt := 21) rfl (by decide) hr1 dX11_match_6 ?_ ?_
  · intro cc; have H := H.1 cc
    refine sb_aload_n (pc' := 22) rfl rfl dX11_match_21 ?_
    obtain ⟨d2, hd2, H⟩ := H
    refine sb_callV (pc' := 25) rfl rfl (rc := rc) (rs := rs) (mc' := 0) (ms' := 0) (As := []) (st := []) of_102 rfl rfl (Nat.le_of_ble_eq_true rfl) hd2 kX11_isTold ⟨wd_2083, wd_2085, wd_158⟩ dX11_match_22 (Eb.mono H ?_)
    rintro o s2 ⟨r2, rfl, hr2, hs2, H⟩
    show Wb g ad d mX11_match Q 25 [some (.ref (ad 102)), some (vi x1), none, none, none, none, none] [(vi r2)] s2 rc rs
    refine sb_if_ne (pc' := 28) (tgt := 30) rfl (by decide) hr2 dX11_match_25 ?_ ?_
    · intro cc; have H := H.1 cc
      refine sb_aload_n (pc' := 31) rfl rfl dX11_match_30 ?_
      refine sb_iconst (pc' := 32) rfl dX11_match_31 ?_
      obtain ⟨d3, hd3, H⟩ := H
      refine sb_callV (pc' := 35) rfl rfl (rc := rc) (rs := rs) (mc' := 0) (ms' := 0) (As := [(vi 0)]) (st := []) of_102 rfl rfl (Nat.le_of_ble_eq_true rfl) hd3 kX11_isWay ⟨wd_1977, wd_1979, wd_140⟩ dX11_match_32 (Eb.mono H ?_)
      rintro o s3 ⟨r3, rfl, hr3, hs3, H⟩
      show Wb g ad d mX11_match Q 35 [some (.ref (ad 102)), some (vi x1), none, none, none, none, none] [(vi r3)] s3 rc rs
      refine sb_istore_n (pc' := 36) rfl (L' := [some (.ref (ad 102)), some (vi x1), some (vi r3), none, none, none, none]) rfl (by decide) dX11_match_35 ?_
      refine sb_iconst (pc' := 37) rfl dX11_match_36 ?_
      refine sb_istore_n (pc' := 38) rfl (L' := [some (.ref (ad 102)), some (vi x1), some (vi r3), some (vi 0), none, none, none]) rfl (by decide) dX11_match_37 ?_
      refine sb_iconst (pc' := 39) rfl dX11_match_38 ?_
      refine sb_istore (pc' := 41) rfl (L' := [some (.ref (ad 102)), some (vi x1), some (vi r3), some (vi 0), some (vi 0), none, none]) rfl (by decide) dX11_match_39 ?_
      exact (H hx1 hr3 (iR_lit rfl) (iR_lit rfl) hs3)
    · intro cc; have H := H.2 cc
      refine sb_iconst (pc' := 29) rfl dX11_match_28 ?_
      exact sb_iret rfl rfl dX11_match_29 (H (iR_lit rfl) hs2)
  · intro cc; have H := H.2 cc
    refine sb_aload_n (pc' := 10) rfl rfl dX11_match_9 ?_
    refine sb_iconst (pc' := 11) rfl dX11_match_10 ?_
    refine sb_putI (pc' := 14) rfl fi_102_0 (Or.inl rfl) wd_1550 dX11_match_11 ?_
    refine sb_aload_n (pc' := 15) rfl rfl dX11_match_14 ?_
    refine sb_iconst (pc' := 16) rfl dX11_match_15 ?_
    refine sb_putI (pc' := 19) rfl fi_102_6 (Or.inl rfl) wd_1556 dX11_match_16 ?_
    refine sb_iconst (pc' := 20) rfl dX11_match_19 ?_
    exact sb_iret rfl rfl dX11_match_20 (H (iR_lit rfl) (SR_setS (SR_setS hs1 (iR_lit rfl)) (iR_lit rfl)))
theorem bX11_match_41 {g : AG} {ad : Nat → Nat} {d : Nat} {Q : AO → SG → Prop} {rc rs : Nat} {σ : SG} {x1 x2 x3 x4 : Int}  (hx1 : iR x1) (hx2 : iR x2) (hx3 : iR x3) (hx4 : iR x4) (hS : SR σ) (H : iR (x4 + x1) ∧ (((sc σ 102 32) < (x4 + x1) → (iR x3 → SR σ → Q (.inl (some (vi x3))) σ)) ∧ (¬ (sc σ 102 32) < (x4 + x1) → (iR x1 → iR x2 → iR x3 → iR x4 → iR 1 → iR 0 → SR σ → Wb g ad d mX11_match Q 58 [some (.ref (ad 102)), some (vi x1), some (vi x2), some (vi x3), some (vi x4), some (vi 1), some (vi 0)] [] σ rc rs)))) : Wb g ad d mX11_match Q 41 [some (.ref (ad 102)), some (vi x1), some (vi x2), some (vi x3), some (vi x4), none, none] [] σ rc rs := by
  refine sb_iload (pc' := 43) rfl rfl dX11_match_41 ?_
  refine sb_iload_n (pc' := 44) rfl rfl dX11_match_43 ?_
  refine sb_iadd (pc' := 45) rfl dX11_match_44 ?_
  refine sb_aload_n (pc' := 46) rfl rfl dX11_match_45 ?_
  refine sb_getI (pc' := 49) rfl fi_102_32 wd_1582 dX11_match_46 ?_
  obtain ⟨o1, H⟩ := H
  refine sb_icmp_gt (pc' := 52) (tgt := 155) rfl (by decide) o1 (SR_sc hS _ _) dX11_match_49 ?_ ?_
  · intro cc; have H := H.1 cc
    refine sb_iload_n (pc' := 156) rfl rfl dX11_match_155 ?_
    exact sb_iret rfl rfl dX11_match_156 (H hx3 hS)
  · intro cc; have H := H.2 cc
    refine sb_iconst (pc' := 53) rfl dX11_match_52 ?_
    refine sb_istore (pc' := 55) rfl (L' := [some (.ref (ad 102)), some (vi x1), some (vi x2), some (vi x3), some (vi x4), some (vi 1), none]) rfl (by decide) dX11_match_53 ?_
    refine sb_iconst (pc' := 56) rfl dX11_match_55 ?_
    refine sb_istore (pc' := 58) rfl (L' := [some (.ref (ad 102)), some (vi x1), some (vi x2), some (vi x3), some (vi x4), some (vi 1), some (vi 0)]) rfl (by decide) dX11_match_56 ?_
    exact (H hx1 hx2 hx3 hx4 (iR_lit rfl) (iR_lit rfl) hS)
theorem bX11_match_58 {g : AG} {ad : Nat → Nat} {d : Nat} {Q : AO → SG → Prop} {rc rs : Nat} {σ : SG} {x1 x2 x3 x4 x5 x6 : Int}  (hx1 : iR x1) (hx2 : iR x2) (hx3 : iR x3) (hx4 : iR x4) (hx5 : iR x5) (hx6 : iR x6) (hS : SR σ) (H : ((x4 ≤ x6 → ((x5 = 0 → iR (x4 + 1) ∧ (iR x1 → iR x2 → iR x3 → iR (x4 + 1) → SR σ → Wb g ad d mX11_match Q 41 [some (.ref (ad 102)), some (vi x1), some (vi x2), some (vi x3), some (vi (x4 + 1)), none, none] [] σ rc rs)) ∧ (¬ x5 = 0 → Cl g ad d mX11_times 0 0 [(.ref (ad 116)), (vi (sc σ 102 32)), (.ref (ad 116)), (vi x4), (vi x1)] σ (Ki fun r2 s2 => Cl g ad d mX11_times 0 0 [(.ref (ad 109)), (vi (sc s2 102 14)), (.ref (ad 116)), (vi x4), (vi x1)] s2 (Ki fun r3 s3 => Cl g ad d mX11_lesser 0 0 [(vi r2), (vi r3)] s3 (Ki fun r4 s4 => iR (x3 + r4) ∧ iR (x4 + 1) ∧ (iR x1 → iR x2 → iR (x3 + r4) → iR (x4 + 1) → SR s4 → Wb g ad d mX11_match Q 41 [some (.ref (ad 102)), some (vi x1), some (vi x2), some (vi (x3 + r4)), some (vi (x4 + 1)), none, none] [] s4 rc rs))))))) ∧ (¬ x4 ≤ x6 → ((x5 = 0 → ((x5 = 0 → iR (x4 + 1) ∧ (iR x1 → iR x2 → iR x3 → iR (x4 + 1) → SR σ → Wb g ad d mX11_match Q 41 [some (.ref (ad 102)), some (vi x1), some (vi x2), some (vi x3), some (vi (x4 + 1)), none, none] [] σ rc rs)) ∧ (¬ x5 = 0 → Cl g ad d mX11_times 0 0 [(.ref (ad 116)), (vi (sc σ 102 32)), (.ref (ad 116)), (vi x4), (vi x1)] σ (Ki fun r8 s8 => Cl g ad d mX11_times 0 0 [(.ref (ad 109)), (vi (sc s8 102 14)), (.ref (ad 116)), (vi x4), (vi x1)] s8 (Ki fun r9 s9 => Cl g ad d mX11_lesser 0 0 [(vi r8), (vi r9)] s9 (Ki fun r10 s10 => iR (x3 + r10) ∧ iR (x4 + 1) ∧ (iR x1 → iR x2 → iR (x3 + r10) → iR (x4 + 1) → SR s10 → Wb g ad d mX11_match Q 41 [some (.ref (ad 102)), some (vi x1), some (vi x2), some (vi (x3 + r10)), some (vi (x4 + 1)), none, none] [] s10 rc rs))))))) ∧ (¬ x5 = 0 → Cl g ad d mX11_areAlike 0 0 [(.ref (ad 116)), (vi x6), (.ref (ad 116)), (vi x4), (vi x1)] σ (Ki fun r13 s13 => ((¬ r13 = 0 → iR (x6 + 1) ∧ (iR x1 → iR x2 → iR x3 → iR x4 → iR 0 → iR (x6 + 1) → SR s13 → Wb g ad d mX11_match Q 58 [some (.ref (ad 102)), some (vi x1), some (vi x2), some (vi x3), some (vi x4), some (vi 0), some (vi (x6 + 1))] [] s13 rc rs)) ∧ (r13 = 0 → iR (x6 + 1) ∧ (iR x1 → iR x2 → iR x3 → iR x4 → iR 1 → iR (x6 + 1) → SR s13 → Wb g ad d mX11_match Q 58 [some (.ref (ad 102)), some (vi x1), some (vi x2), some (vi x3), some (vi x4), some (vi 1), some (vi (x6 + 1))] [] s13 rc rs))))))))) : Wb g ad d mX11_match Q 58 [some (.ref (ad 102)), some (vi x1), some (vi x2), some (vi x3), some (vi x4), some (vi x5), some (vi x6)] [] σ rc rs := by
  refine sb_iload (pc' := 60) rfl rfl dX11_match_58 ?_
  refine sb_iload (pc' := 62) rfl rfl dX11_match_60 ?_
  refine sb_icmp_ge (pc' := 65) (tgt := 102) rfl (by decide) hx6 hx4 dX11_match_62 ?_ ?_
  · intro cc; have H := H.1 cc
    refine sb_iload (pc' := 104) rfl rfl dX11_match_102 ?_
    refine sb_if_eq (pc' := 107) (tgt := 149) rfl (by decide) hx5 dX11_match_104 ?_ ?_
    · intro cc; have H := H.1 cc
      refine sb_iinc (pc' := 152) rfl rfl (L' := [some (.ref (ad 102)), some (vi x1), some (vi x2), some (vi x3), some (vi (x4 + 1)), some (vi x5), some (vi x6)]) rfl (by decide) dX11_match_149 ?_
      refine sb_goto (tgt := 41) (by decide) dX11_match_152 ?_
      obtain ⟨o1, H⟩ := H
      refine Wb.forget [true, true, true, true, true, false, false] ?_
      exact (H hx1 hx2 hx3 o1 hS)
    · intro cc; have H := H.2 cc
      refine sb_iload_n (pc' := 108) rfl rfl dX11_match_107 ?_
      refine sb_aload_n (pc' := 109) rfl rfl dX11_match_108 ?_
      refine sb_getC (pc' := 112) rfl fc_102_31 wd_1581 dX11_match_109 ?_
      refine sb_aload_n (pc' := 113) rfl rfl dX11_match_112 ?_
      refine sb_getI (pc' := 116) rfl fi_102_32 wd_1582 dX11_match_113 ?_
      refine sb_aload_n (pc' := 117) rfl rfl dX11_match_116 ?_
      refine sb_getC (pc' := 120) rfl fc_102_31 wd_1581 dX11_match_117 ?_
      refine sb_iload (pc' := 122) rfl rfl dX11_match_120 ?_
      refine sb_iload_n (pc' := 123) rfl rfl dX11_match_122 ?_
      obtain ⟨d2, hd2, H⟩ := H
      refine sb_callS (pc' := 126) rfl rfl (rc := rc) (rs := rs) (mc' := 0) (ms' := 0) (As := [(.ref (ad 116)), (vi (sc σ 102 32)), (.ref (ad 116)), (vi x4), (vi x1)]) (st := [(vi x3)])  rfl rfl (Nat.le_of_ble_eq_true rfl) hd2 kX11_times ⟨wd_2114, wd_2115⟩ dX11_match_123 (Eb.mono H ?_)
      rintro o s2 ⟨r2, rfl, hr2, hs2, H⟩
      show Wb g ad d mX11_match Q 126 [some (.ref (ad 102)), some (vi x1), some (vi x2), some (vi x3), some (vi x4), some (vi x5), some (vi x6)] [(vi r2), (vi x3)] s2 rc rs
      refine sb_aload_n (pc' := 127) rfl rfl dX11_match_126 ?_
      refine sb_getC (pc' := 130) rfl fc_102_13 wd_1563 dX11_match_127 ?_
      refine sb_aload_n (pc' := 131) rfl rfl dX11_match_130 ?_
      refine sb_getI (pc' := 134) rfl fi_102_14 wd_1564 dX11_match_131 ?_
      refine sb_aload_n (pc' := 135) rfl rfl dX11_match_134 ?_
      refine sb_getC (pc' := 138) rfl fc_102_31 wd_1581 dX11_match_135 ?_
      refine sb_iload (pc' := 140) rfl rfl dX11_match_138 ?_
      refine sb_iload_n (pc' := 141) rfl rfl dX11_match_140 ?_
      obtain ⟨d3, hd3, H⟩ := H
      refine sb_callS (pc' := 144) rfl rfl (rc := rc) (rs := rs) (mc' := 0) (ms' := 0) (As := [(.ref (ad 109)), (vi (sc s2 102 14)), (.ref (ad 116)), (vi x4), (vi x1)]) (st := [(vi r2), (vi x3)])  rfl rfl (Nat.le_of_ble_eq_true rfl) hd3 kX11_times ⟨wd_2114, wd_2115⟩ dX11_match_141 (Eb.mono H ?_)
      rintro o s3 ⟨r3, rfl, hr3, hs3, H⟩
      show Wb g ad d mX11_match Q 144 [some (.ref (ad 102)), some (vi x1), some (vi x2), some (vi x3), some (vi x4), some (vi x5), some (vi x6)] [(vi r3), (vi r2), (vi x3)] s3 rc rs
      obtain ⟨d4, hd4, H⟩ := H
      refine sb_callS (pc' := 147) rfl rfl (rc := rc) (rs := rs) (mc' := 0) (ms' := 0) (As := [(vi r2), (vi r3)]) (st := [(vi x3)])  rfl rfl (Nat.le_of_ble_eq_true rfl) hd4 kX11_lesser ⟨wd_1921, wd_1922⟩ dX11_match_144 (Eb.mono H ?_)
      rintro o s4 ⟨r4, rfl, hr4, hs4, H⟩
      show Wb g ad d mX11_match Q 147 [some (.ref (ad 102)), some (vi x1), some (vi x2), some (vi x3), some (vi x4), some (vi x5), some (vi x6)] [(vi r4), (vi x3)] s4 rc rs
      refine sb_iadd (pc' := 148) rfl dX11_match_147 ?_
      refine sb_istore_n (pc' := 149) rfl (L' := [some (.ref (ad 102)), some (vi x1), some (vi x2), some (vi (x3 + r4)), some (vi x4), some (vi x5), some (vi x6)]) rfl (by decide) dX11_match_148 ?_
      refine sb_iinc (pc' := 152) rfl rfl (L' := [some (.ref (ad 102)), some (vi x1), some (vi x2), some (vi (x3 + r4)), some (vi (x4 + 1)), some (vi x5), some (vi x6)]) rfl (by decide) dX11_match_149 ?_
      refine sb_goto (tgt := 41) (by decide) dX11_match_152 ?_
      obtain ⟨o5, H⟩ := H
      obtain ⟨o6, H⟩ := H
      refine Wb.forget [true, true, true, true, true, false, false] ?_
      exact (H hx1 hx2 o5 o6 hs4)
  · intro cc; have H := H.2 cc
    refine sb_iload (pc' := 67) rfl rfl dX11_match_65 ?_
    refine sb_if_eq (pc' := 70) (tgt := 102) rfl (by decide) hx5 dX11_match_67 ?_ ?_
    · intro cc; have H := H.1 cc
      refine sb_iload (pc' := 104) rfl rfl dX11_match_102 ?_
      refine sb_if_eq (pc' := 107) (tgt := 149) rfl (by decide) hx5 dX11_match_104 ?_ ?_
      · intro cc; have H := H.1 cc
        refine sb_iinc (pc' := 152) rfl rfl (L' := [some (.ref (ad 102)), some (vi x1), some (vi x2), some (vi x3), some (vi (x4 + 1)), some (vi x5), some (vi x6)]) rfl (by decide) dX11_match_149 ?_
        refine sb_goto (tgt := 41) (by decide) dX11_match_152 ?_
        obtain ⟨o7, H⟩ := H
        refine Wb.forget [true, true, true, true, true, false, false] ?_
        exact (H hx1 hx2 hx3 o7 hS)
      · intro cc; have H := H.2 cc
        refine sb_iload_n (pc' := 108) rfl rfl dX11_match_107 ?_
        refine sb_aload_n (pc' := 109) rfl rfl dX11_match_108 ?_
        refine sb_getC (pc' := 112) rfl fc_102_31 wd_1581 dX11_match_109 ?_
        refine sb_aload_n (pc' := 113) rfl rfl dX11_match_112 ?_
        refine sb_getI (pc' := 116) rfl fi_102_32 wd_1582 dX11_match_113 ?_
        refine sb_aload_n (pc' := 117) rfl rfl dX11_match_116 ?_
        refine sb_getC (pc' := 120) rfl fc_102_31 wd_1581 dX11_match_117 ?_
        refine sb_iload (pc' := 122) rfl rfl dX11_match_120 ?_
        refine sb_iload_n (pc' := 123) rfl rfl dX11_match_122 ?_
        obtain ⟨d8, hd8, H⟩ := H
        refine sb_callS (pc' := 126) rfl rfl (rc := rc) (rs := rs) (mc' := 0) (ms' := 0) (As := [(.ref (ad 116)), (vi (sc σ 102 32)), (.ref (ad 116)), (vi x4), (vi x1)]) (st := [(vi x3)])  rfl rfl (Nat.le_of_ble_eq_true rfl) hd8 kX11_times ⟨wd_2114, wd_2115⟩ dX11_match_123 (Eb.mono H ?_)
        rintro o s8 ⟨r8, rfl, hr8, hs8, H⟩
        show Wb g ad d mX11_match Q 126 [some (.ref (ad 102)), some (vi x1), some (vi x2), some (vi x3), some (vi x4), some (vi x5), some (vi x6)] [(vi r8), (vi x3)] s8 rc rs
        refine sb_aload_n (pc' := 127) rfl rfl dX11_match_126 ?_
        refine sb_getC (pc' := 130) rfl fc_102_13 wd_1563 dX11_match_127 ?_
        refine sb_aload_n (pc' := 131) rfl rfl dX11_match_130 ?_
        refine sb_getI (pc' := 134) rfl fi_102_14 wd_1564 dX11_match_131 ?_
        refine sb_aload_n (pc' := 135) rfl rfl dX11_match_134 ?_
        refine sb_getC (pc' := 138) rfl fc_102_31 wd_1581 dX11_match_135 ?_
        refine sb_iload (pc' := 140) rfl rfl dX11_match_138 ?_
        refine sb_iload_n (pc' := 141) rfl rfl dX11_match_140 ?_
        obtain ⟨d9, hd9, H⟩ := H
        refine sb_callS (pc' := 144) rfl rfl (rc := rc) (rs := rs) (mc' := 0) (ms' := 0) (As := [(.ref (ad 109)), (vi (sc s8 102 14)), (.ref (ad 116)), (vi x4), (vi x1)]) (st := [(vi r8), (vi x3)])  rfl rfl (Nat.le_of_ble_eq_true rfl) hd9 kX11_times ⟨wd_2114, wd_2115⟩ dX11_match_141 (Eb.mono H ?_)
        rintro o s9 ⟨r9, rfl, hr9, hs9, H⟩
        show Wb g ad d mX11_match Q 144 [some (.ref (ad 102)), some (vi x1), some (vi x2), some (vi x3), some (vi x4), some (vi x5), some (vi x6)] [(vi r9), (vi r8), (vi x3)] s9 rc rs
        obtain ⟨d10, hd10, H⟩ := H
        refine sb_callS (pc' := 147) rfl rfl (rc := rc) (rs := rs) (mc' := 0) (ms' := 0) (As := [(vi r8), (vi r9)]) (st := [(vi x3)])  rfl rfl (Nat.le_of_ble_eq_true rfl) hd10 kX11_lesser ⟨wd_1921, wd_1922⟩ dX11_match_144 (Eb.mono H ?_)
        rintro o s10 ⟨r10, rfl, hr10, hs10, H⟩
        show Wb g ad d mX11_match Q 147 [some (.ref (ad 102)), some (vi x1), some (vi x2), some (vi x3), some (vi x4), some (vi x5), some (vi x6)] [(vi r10), (vi x3)] s10 rc rs
        refine sb_iadd (pc' := 148) rfl dX11_match_147 ?_
        refine sb_istore_n (pc' := 149) rfl (L' := [some (.ref (ad 102)), some (vi x1), some (vi x2), some (vi (x3 + r10)), some (vi x4), some (vi x5), some (vi x6)]) rfl (by decide) dX11_match_148 ?_
        refine sb_iinc (pc' := 152) rfl rfl (L' := [some (.ref (ad 102)), some (vi x1), some (vi x2), some (vi (x3 + r10)), some (vi (x4 + 1)), some (vi x5), some (vi x6)]) rfl (by decide) dX11_match_149 ?_
        refine sb_goto (tgt := 41) (by decide) dX11_match_152 ?_
        obtain ⟨o11, H⟩ := H
        obtain ⟨o12, H⟩ := H
        refine Wb.forget [true, true, true, true, true, false, false] ?_
        exact (H hx1 hx2 o11 o12 hs10)
    · intro cc; have H := H.2 cc
      refine sb_aload_n (pc' := 71) rfl rfl dX11_match_70 ?_
      refine sb_getC (pc' := 74) rfl fc_102_31 wd_1581 dX11_match_71 ?_
      refine sb_iload (pc' := 76) rfl rfl dX11_match_74 ?_
      refine sb_aload_n (pc' := 77) rfl rfl dX11_match_76 ?_
      refine sb_getC (pc' := 80) rfl fc_102_31 wd_1581 dX11_match_77 ?_
      refine sb_iload (pc' := 82) rfl rfl dX11_match_80 ?_
      refine sb_iload_n (pc' := 83) rfl rfl dX11_match_82 ?_
      obtain ⟨d13, hd13, H⟩ := H
      refine sb_callS (pc' := 86) rfl rfl (rc := rc) (rs := rs) (mc' := 0) (ms' := 0) (As := [(.ref (ad 116)), (vi x6), (.ref (ad 116)), (vi x4), (vi x1)]) (st := [])  rfl rfl (Nat.le_of_ble_eq_true rfl) hd13 kX11_areAlike ⟨wd_2111, wd_2112⟩ dX11_match_83 (Eb.mono H ?_)
      rintro o s13 ⟨r13, rfl, hr13, hs13, H⟩
      show Wb g ad d mX11_match Q 86 [some (.ref (ad 102)), some (vi x1), some (vi x2), some (vi x3), some (vi x4), some (vi x5), some (vi x6)] [(vi r13)] s13 rc rs
      refine sb_if_ne (pc' := 89) (tgt := 93) rfl (by decide) hr13 dX11_match_86 ?_ ?_
      · intro cc; have H := H.1 cc
        refine sb_iconst (pc' := 94) rfl dX11_match_93 ?_
        refine sb_istore (pc' := 96) rfl (L' := [some (.ref (ad 102)), some (vi x1), some (vi x2), some (vi x3), some (vi x4), some (vi 0), some (vi x6)]) rfl (by decide) dX11_match_94 ?_
        refine sb_iinc (pc' := 99) rfl rfl (L' := [some (.ref (ad 102)), some (vi x1), some (vi x2), some (vi x3), some (vi x4), some (vi 0), some (vi (x6 + 1))]) rfl (by decide) dX11_match_96 ?_
        refine sb_goto (tgt := 58) (by decide) dX11_match_99 ?_
        obtain ⟨o14, H⟩ := H
        exact (H hx1 hx2 hx3 hx4 (iR_lit rfl) o14 hs13)
      · intro cc; have H := H.2 cc
        refine sb_iconst (pc' := 90) rfl dX11_match_89 ?_
        refine sb_goto (tgt := 94) (by decide) dX11_match_90 ?_
        refine sb_istore (pc' := 96) rfl (L' := [some (.ref (ad 102)), some (vi x1), some (vi x2), some (vi x3), some (vi x4), some (vi 1), some (vi x6)]) rfl (by decide) dX11_match_94 ?_
        refine sb_iinc (pc' := 99) rfl rfl (L' := [some (.ref (ad 102)), some (vi x1), some (vi x2), some (vi x3), some (vi x4), some (vi 1), some (vi (x6 + 1))]) rfl (by decide) dX11_match_96 ?_
        refine sb_goto (tgt := 58) (by decide) dX11_match_99 ?_
        obtain ⟨o15, H⟩ := H
        exact (H hx1 hx2 hx3 hx4 (iR_lit rfl) o15 hs13)
theorem bX11_agreed_0 {g : AG} {ad : Nat → Nat} {d : Nat} {Q : AO → SG → Prop} {rc rs : Nat} {σ : SG} {x1 : Int}  (hx1 : iR x1) (hS : SR σ) (H : Cl g ad d mX11_isIn 0 0 [(vi x1), (vi 1), (vi 10)] σ (Ki fun r1 s1 => ((r1 = 0 → (((sc (setS s1 102 0 1) 102 0) ≤ 0 → (iR x1 → iR 0 → SR (setS s1 102 0 1) → Wb g ad d mX11_agreed Q 30 [some (.ref (ad 102)), some (vi x1), some (vi 0), none, none, none, none, none] [] (setS s1 102 0 1) rc rs)) ∧ (¬ (sc (setS s1 102 0 1) 102 0) ≤ 0 → (iR 0 → SR (setS s1 102 0 1) → Q (.inl (some (vi 0))) (setS s1 102 0 1))))) ∧ (¬ r1 = 0 → (((sc (setS s1 102 0 0) 102 0) ≤ 0 → (iR x1 → iR 0 → SR (setS s1 102 0 0) → Wb g ad d mX11_agreed Q 30 [some (.ref (ad 102)), some (vi x1), some (vi 0), none, none, none, none, none] [] (setS s1 102 0 0) rc rs)) ∧ (¬ (sc (setS s1 102 0 0) 102 0) ≤ 0 → (iR 0 → SR (setS s1 102 0 0) → Q (.inl (some (vi 0))) (setS s1 102 0 0)))))))) : Wb g ad d mX11_agreed Q 0 [some (.ref (ad 102)), some (vi x1), none, none, none, none, none, none] [] σ rc rs := by
  refine sb_aload_n (pc' := 1) rfl rfl dX11_agreed_0 ?_
  refine sb_iload_n (pc' := 2) rfl rfl dX11_agreed_1 ?_
  refine sb_iconst (pc' := 3) rfl dX11_agreed_2 ?_
  refine sb_bipush (pc' := 5) rfl (z := 10) (by decide) dX11_agreed_3 ?_
  obtain ⟨d1, hd1, H⟩ := H
  refine sb_callS (pc' := 8) rfl rfl (rc := rc) (rs := rs) (mc' := 0) (ms' := 0) (As := [(vi x1), (vi 1), (vi 10)]) (st := [(.ref (ad 102))])  rfl rfl (Nat.le_of_ble_eq_true rfl) hd1 kX11_isIn ⟨wd_1719, wd_1720⟩ dX11_agreed_5 (Eb.mono H ?_)
  rintro o s1 ⟨r1, rfl, hr1, hs1, H⟩
  show Wb g ad d mX11_agreed Q 8 [some (.ref (ad 102)), some (vi x1), none, none, none, none, none, none] [(vi r1), (.ref (ad 102))] s1 rc rs
  refine sb_if_eq (pc' := 11) (tgt := 15) rfl (by decide) hr1 dX11_agreed_8 ?_ ?_
  · intro cc; have H := H.1 cc
    refine sb_iconst (pc' := 16) rfl dX11_agreed_15 ?_
    refine sb_putI (pc' := 19) rfl fi_102_0 (Or.inl rfl) wd_1550 dX11_agreed_16 ?_
    refine sb_aload_n (pc' := 20) rfl rfl dX11_agreed_19 ?_
    refine sb_getI (pc' := 23) rfl fi_102_0 wd_1550 dX11_agreed_20 ?_
    refine sb_if_le (pc' := 26) (tgt := 28) rfl (by decide) (SR_sc (SR_setS hs1 (iR_lit rfl)) _ _) dX11_agreed_23 ?_ ?_
    · intro cc; have H := H.1 cc
      refine sb_iconst (pc' := 29) rfl dX11_agreed_28 ?_
      refine sb_istore_n (pc' := 30) rfl (L' := [some (.ref (ad 102)), some (vi x1), some (vi 0), none, none, none, none, none]) rfl (by decide) dX11_agreed_29 ?_
      exact (H hx1 (iR_lit rfl) (SR_setS hs1 (iR_lit rfl)))
    · intro cc; have H := H.2 cc
      refine sb_iconst (pc' := 27) rfl dX11_agreed_26 ?_
      exact sb_iret rfl rfl dX11_agreed_27 (H (iR_lit rfl) (SR_setS hs1 (iR_lit rfl)))
  · intro cc; have H := H.2 cc
    refine sb_iconst (pc' := 12) rfl dX11_agreed_11 ?_
    refine sb_goto (tgt := 16) (by decide) dX11_agreed_12 ?_
    refine sb_putI (pc' := 19) rfl fi_102_0 (Or.inl rfl) wd_1550 dX11_agreed_16 ?_
    refine sb_aload_n (pc' := 20) rfl rfl dX11_agreed_19 ?_
    refine sb_getI (pc' := 23) rfl fi_102_0 wd_1550 dX11_agreed_20 ?_
    refine sb_if_le (pc' := 26) (tgt := 28) rfl (by decide) (SR_sc (SR_setS hs1 (iR_lit rfl)) _ _) dX11_agreed_23 ?_ ?_
    · intro cc; have H := H.1 cc
      refine sb_iconst (pc' := 29) rfl dX11_agreed_28 ?_
      refine sb_istore_n (pc' := 30) rfl (L' := [some (.ref (ad 102)), some (vi x1), some (vi 0), none, none, none, none, none]) rfl (by decide) dX11_agreed_29 ?_
      exact (H hx1 (iR_lit rfl) (SR_setS hs1 (iR_lit rfl)))
    · intro cc; have H := H.2 cc
      refine sb_iconst (pc' := 27) rfl dX11_agreed_26 ?_
      exact sb_iret rfl rfl dX11_agreed_27 (H (iR_lit rfl) (SR_setS hs1 (iR_lit rfl)))
theorem bX11_agreed_30 {g : AG} {ad : Nat → Nat} {d : Nat} {Q : AO → SG → Prop} {rc rs : Nat} {σ : SG} {x1 x2 : Int}  (hx1 : iR x1) (hx2 : iR x2) (hS : SR σ) (H : ((x1 ≤ x2 → (iR x1 → iR x2 → iR ((-1)) → iR 0 → iR 0 → SR σ → Wb g ad d mX11_agreed Q 100 [some (.ref (ad 102)), some (vi x1), some (vi x2), some (vi ((-1))), some (vi 0), some (vi 0), none, none] [] σ rc rs)) ∧ (¬ x1 ≤ x2 → Cl g ad d mX11_isWay 0 0 [(.ref (ad 102)), (vi x2)] σ (Ki fun r1 s1 => ((r1 = 0 → (iR x1 → iR x2 → iR ((-1)) → iR 0 → iR 0 → SR s1 → Wb g ad d mX11_agreed Q 100 [some (.ref (ad 102)), some (vi x1), some (vi x2), some (vi ((-1))), some (vi 0), some (vi 0), none, none] [] s1 rc rs)) ∧ (¬ r1 = 0 → (0 ≤ x2 ∧ x2 < 10) ∧ (iR x1 → iR x2 → iR 0 → SR (setI s1 130 x2 (sc s1 102 32)) → Wb g ad d mX11_agreed Q 55 [some (.ref (ad 102)), some (vi x1), some (vi x2), some (vi 0), none, none, none, none] [] (setI s1 130 x2 (sc s1 102 32)) rc rs))))))) : Wb g ad d mX11_agreed Q 30 [some (.ref (ad 102)), some (vi x1), some (vi x2), none, none, none, none, none] [] σ rc rs := by
  refine sb_iload_n (pc' := 31) rfl rfl dX11_agreed_30 ?_
  refine sb_iload_n (pc' := 32) rfl rfl dX11_agreed_31 ?_
  refine sb_icmp_ge (pc' := 35) (tgt := 92) rfl (by decide) hx2 hx1 dX11_agreed_32 ?_ ?_
  · intro cc; have H := H.1 cc
    refine sb_iconst (pc' := 93) rfl dX11_agreed_92 ?_
    refine sb_istore_n (pc' := 94) rfl (L' := [some (.ref (ad 102)), some (vi x1), some (vi x2), some (vi ((-1))), none, none, none, none]) rfl (by decide) dX11_agreed_93 ?_
    refine sb_iconst (pc' := 95) rfl dX11_agreed_94 ?_
    refine sb_istore (pc' := 97) rfl (L' := [some (.ref (ad 102)), some (vi x1), some (vi x2), some (vi ((-1))), some (vi 0), none, none, none]) rfl (by decide) dX11_agreed_95 ?_
    refine sb_iconst (pc' := 98) rfl dX11_agreed_97 ?_
    refine sb_istore (pc' := 100) rfl (L' := [some (.ref (ad 102)), some (vi x1), some (vi x2), some (vi ((-1))), some (vi 0), some (vi 0), none, none]) rfl (by decide) dX11_agreed_98 ?_
    exact (H hx1 hx2 (iR_lit rfl) (iR_lit rfl) (iR_lit rfl) hS)
  · intro cc; have H := H.2 cc
    refine sb_aload_n (pc' := 36) rfl rfl dX11_agreed_35 ?_
    refine sb_iload_n (pc' := 37) rfl rfl dX11_agreed_36 ?_
    obtain ⟨d1, hd1, H⟩ := H
    refine sb_callV (pc' := 40) rfl rfl (rc := rc) (rs := rs) (mc' := 0) (ms' := 0) (As := [(vi x2)]) (st := []) of_102 rfl rfl (Nat.le_of_ble_eq_true rfl) hd1 kX11_isWay ⟨wd_1977, wd_1979, wd_140⟩ dX11_agreed_37 (Eb.mono H ?_)
    rintro o s1 ⟨r1, rfl, hr1, hs1, H⟩
    show Wb g ad d mX11_agreed Q 40 [some (.ref (ad 102)), some (vi x1), some (vi x2), none, none, none, none, none] [(vi r1)] s1 rc rs
    refine sb_if_eq (pc' := 43) (tgt := 92) rfl (by decide) hr1 dX11_agreed_40 ?_ ?_
    · intro cc; have H := H.1 cc
      refine sb_iconst (pc' := 93) rfl dX11_agreed_92 ?_
      refine sb_istore_n (pc' := 94) rfl (L' := [some (.ref (ad 102)), some (vi x1), some (vi x2), some (vi ((-1))), none, none, none, none]) rfl (by decide) dX11_agreed_93 ?_
      refine sb_iconst (pc' := 95) rfl dX11_agreed_94 ?_
      refine sb_istore (pc' := 97) rfl (L' := [some (.ref (ad 102)), some (vi x1), some (vi x2), some (vi ((-1))), some (vi 0), none, none, none]) rfl (by decide) dX11_agreed_95 ?_
      refine sb_iconst (pc' := 98) rfl dX11_agreed_97 ?_
      refine sb_istore (pc' := 100) rfl (L' := [some (.ref (ad 102)), some (vi x1), some (vi x2), some (vi ((-1))), some (vi 0), some (vi 0), none, none]) rfl (by decide) dX11_agreed_98 ?_
      exact (H hx1 hx2 (iR_lit rfl) (iR_lit rfl) (iR_lit rfl) hs1)
    · intro cc; have H := H.2 cc
      refine sb_aload_n (pc' := 44) rfl rfl dX11_agreed_43 ?_
      refine sb_getC (pc' := 47) rfl fc_102_51 wd_1601 dX11_agreed_44 ?_
      refine sb_iload_n (pc' := 48) rfl rfl dX11_agreed_47 ?_
      refine sb_aload_n (pc' := 49) rfl rfl dX11_agreed_48 ?_
      refine sb_getI (pc' := 52) rfl fi_102_32 wd_1582 dX11_agreed_49 ?_
      obtain ⟨o2, H⟩ := H
      refine sb_iast (pc' := 53) rfl aI_130 o2.1 o2.2  dX11_agreed_52 ?_
      refine sb_iconst (pc' := 54) rfl dX11_agreed_53 ?_
      refine sb_istore_n (pc' := 55) rfl (L' := [some (.ref (ad 102)), some (vi x1), some (vi x2), some (vi 0), none, none, none, none]) rfl (by decide) dX11_agreed_54 ?_
      exact (H hx1 hx2 (iR_lit rfl) (SR_setI hs1 (SR_sc hs1 _ _)))
theorem bX11_agreed_55 {g : AG} {ad : Nat → Nat} {d : Nat} {Q : AO → SG → Prop} {rc rs : Nat} {σ : SG} {x1 x2 x3 : Int}  (hx1 : iR x1) (hx2 : iR x2) (hx3 : iR x3) (hS : SR σ) (H : (((sc σ 102 32) ≤ x3 → iR (x2 + 1) ∧ (iR x1 → iR (x2 + 1) → SR σ → Wb g ad d mX11_agreed Q 30 [some (.ref (ad 102)), some (vi x1), some (vi (x2 + 1)), none, none, none, none, none] [] σ rc rs)) ∧ (¬ (sc σ 102 32) ≤ x3 → (0 ≤ x3 ∧ x3 < 18) ∧ (0 ≤ (18 * x2) + x3 ∧ (18 * x2) + x3 < 180) ∧ iR (x3 + 1) ∧ (iR x1 → iR x2 → iR (x3 + 1) → SR (setI σ 129 ((18 * x2) + x3) (ia σ 116 x3)) → Wb g ad d mX11_agreed Q 55 [some (.ref (ad 102)), some (vi x1), some (vi x2), some (vi (x3 + 1)), none, none, none, none] [] (setI σ 129 ((18 * x2) + x3) (ia σ 116 x3)) rc rs)))) : Wb g ad d mX11_agreed Q 55 [some (.ref (ad 102)), some (vi x1), some (vi x2), some (vi x3), none, none, none, none] [] σ rc rs := by
  refine sb_iload_n (pc' := 56) rfl rfl dX11_agreed_55 ?_
  refine sb_aload_n (pc' := 57) rfl rfl dX11_agreed_56 ?_
  refine sb_getI (pc' := 60) rfl fi_102_32 wd_1582 dX11_agreed_57 ?_
  refine sb_icmp_ge (pc' := 63) (tgt := 86) rfl (by decide) hx3 (SR_sc hS _ _) dX11_agreed_60 ?_ ?_
  · intro cc; have H := H.1 cc
    refine sb_iinc (pc' := 89) rfl rfl (L' := [some (.ref (ad 102)), some (vi x1), some (vi (x2 + 1)), some (vi x3), none, none, none, none]) rfl (by decide) dX11_agreed_86 ?_
    refine sb_goto (tgt := 30) (by decide) dX11_agreed_89 ?_
    obtain ⟨o1, H⟩ := H
    refine Wb.forget [true, true, true, false, false, false, false, false] ?_
    exact (H hx1 o1 hS)
  · intro cc; have H := H.2 cc
    refine sb_aload_n (pc' := 64) rfl rfl dX11_agreed_63 ?_
    refine sb_getC (pc' := 67) rfl fc_102_50 wd_1600 dX11_agreed_64 ?_
    refine sb_bipush (pc' := 69) rfl (z := 18) (by decide) dX11_agreed_67 ?_
    refine sb_iload_n (pc' := 70) rfl rfl dX11_agreed_69 ?_
    refine sb_imul (pc' := 71) rfl dX11_agreed_70 ?_
    refine sb_iload_n (pc' := 72) rfl rfl dX11_agreed_71 ?_
    refine sb_iadd (pc' := 73) rfl dX11_agreed_72 ?_
    refine sb_aload_n (pc' := 74) rfl rfl dX11_agreed_73 ?_
    refine sb_getC (pc' := 77) rfl fc_102_31 wd_1581 dX11_agreed_74 ?_
    refine sb_iload_n (pc' := 78) rfl rfl dX11_agreed_77 ?_
    obtain ⟨o2, H⟩ := H
    refine sb_iald (pc' := 79) rfl aI_116 o2.1 o2.2 dX11_agreed_78 ?_
    obtain ⟨o3, H⟩ := H
    refine sb_iast (pc' := 80) rfl aI_129 o3.1 o3.2  dX11_agreed_79 ?_
    refine sb_iinc (pc' := 83) rfl rfl (L' := [some (.ref (ad 102)), some (vi x1), some (vi x2), some (vi (x3 + 1)), none, none, none, none]) rfl (by decide) dX11_agreed_80 ?_
    refine sb_goto (tgt := 55) (by decide) dX11_agreed_83 ?_
    obtain ⟨o4, H⟩ := H
    exact (H hx1 hx2 o4 (SR_setI hS (SR_ia hS _ _)))
theorem bX11_agreed_100 {g : AG} {ad : Nat → Nat} {d : Nat} {Q : AO → SG → Prop} {rc rs : Nat} {σ : SG} {x1 x2 x3 x4 x5 : Int}  (hx1 : iR x1) (hx2 : iR x2) (hx3 : iR x3) (hx4 : iR x4) (hx5 : iR x5) (hS : SR σ) (H : ((x2 ≤ x5 → (iR x3 → SR σ → Q (.inl (some (vi x3))) σ)) ∧ (¬ x2 ≤ x5 → (iR x1 → iR x2 → iR x3 → iR x4 → iR x5 → iR 0 → iR 0 → SR σ → Wb g ad d mX11_agreed Q 112 [some (.ref (ad 102)), some (vi x1), some (vi x2), some (vi x3), some (vi x4), some (vi x5), some (vi 0), some (vi 0)] [] σ rc rs)))) : Wb g ad d mX11_agreed Q 100 [some (.ref (ad 102)), some (vi x1), some (vi x2), some (vi x3), some (vi x4), some (vi x5), none, none] [] σ rc rs := by
  refine sb_iload (pc' := 102) rfl rfl dX11_agreed_100 ?_
  refine sb_iload_n (pc' := 103) rfl rfl dX11_agreed_102 ?_
  refine sb_icmp_ge (pc' := 106) (tgt := 193) rfl (by decide) hx5 hx2 dX11_agreed_103 ?_ ?_
  · intro cc; have H := H.1 cc
    refine sb_iload_n (pc' := 194) rfl rfl dX11_agreed_193 ?_
    exact sb_iret rfl rfl dX11_agreed_194 (H hx3 hS)
  · intro cc; have H := H.2 cc
    refine sb_iconst (pc' := 107) rfl dX11_agreed_106 ?_
    refine sb_istore (pc' := 109) rfl (L' := [some (.ref (ad 102)), some (vi x1), some (vi x2), some (vi x3), some (vi x4), some (vi x5), some (vi 0), none]) rfl (by decide) dX11_agreed_107 ?_
    refine sb_iconst (pc' := 110) rfl dX11_agreed_109 ?_
    refine sb_istore (pc' := 112) rfl (L' := [some (.ref (ad 102)), some (vi x1), some (vi x2), some (vi x3), some (vi x4), some (vi x5), some (vi 0), some (vi 0)]) rfl (by decide) dX11_agreed_110 ?_
    exact (H hx1 hx2 hx3 hx4 hx5 (iR_lit rfl) (iR_lit rfl) hS)
theorem bX11_agreed_112 {g : AG} {ad : Nat → Nat} {d : Nat} {Q : AO → SG → Prop} {rc rs : Nat} {σ : SG} {x1 x2 x3 x4 x5 x6 x7 : Int}  (hx1 : iR x1) (hx2 : iR x2) (hx3 : iR x3) (hx4 : iR x4) (hx5 : iR x5) (hx6 : iR x6) (hx7 : iR x7) (hS : SR σ) (H : ((x2 ≤ x7 → ((x3 = ((-1)) → iR (x5 + 1) ∧ (iR x1 → iR x2 → iR x5 → iR x6 → iR (x5 + 1) → SR σ → Wb g ad d mX11_agreed Q 100 [some (.ref (ad 102)), some (vi x1), some (vi x2), some (vi x5), some (vi x6), some (vi (x5 + 1)), none, none] [] σ rc rs)) ∧ (¬ x3 = ((-1)) → ((x6 < x4 → iR (x5 + 1) ∧ (iR x1 → iR x2 → iR x5 → iR x6 → iR (x5 + 1) → SR σ → Wb g ad d mX11_agreed Q 100 [some (.ref (ad 102)), some (vi x1), some (vi x2), some (vi x5), some (vi x6), some (vi (x5 + 1)), none, none] [] σ rc rs)) ∧ (¬ x6 < x4 → iR (x5 + 1) ∧ (iR x1 → iR x2 → iR x3 → iR x4 → iR (x5 + 1) → SR σ → Wb g ad d mX11_agreed Q 100 [some (.ref (ad 102)), some (vi x1), some (vi x2), some (vi x3), some (vi x4), some (vi (x5 + 1)), none, none] [] σ rc rs)))))) ∧ (¬ x2 ≤ x7 → (0 ≤ x5 ∧ x5 < 10) ∧ (0 ≤ x7 ∧ x7 < 10) ∧ Cl g ad d mX11_apart 0 0 [(.ref (ad 102)), (.ref (ad 129)), (vi (18 * x5)), (vi (ia σ 130 x5)), (.ref (ad 129)), (vi (18 * x7)), (vi (ia σ 130 x7))] σ (Ki fun r6 s6 => iR (x6 + r6) ∧ iR (x7 + 1) ∧ (iR x1 → iR x2 → iR x3 → iR x4 → iR x5 → iR (x6 + r6) → iR (x7 + 1) → SR s6 → Wb g ad d mX11_agreed Q 112 [some (.ref (ad 102)), some (vi x1), some (vi x2), some (vi x3), some (vi x4), some (vi x5), some (vi (x6 + r6)), some (vi (x7 + 1))] [] s6 rc rs))))) : Wb g ad d mX11_agreed Q 112 [some (.ref (ad 102)), some (vi x1), some (vi x2), some (vi x3), some (vi x4), some (vi x5), some (vi x6), some (vi x7)] [] σ rc rs := by
  refine sb_iload (pc' := 114) rfl rfl dX11_agreed_112 ?_
  refine sb_iload_n (pc' := 115) rfl rfl dX11_agreed_114 ?_
  refine sb_icmp_ge (pc' := 118) (tgt := 165) rfl (by decide) hx7 hx2 dX11_agreed_115 ?_ ?_
  · intro cc; have H := H.1 cc
    refine sb_iload_n (pc' := 166) rfl rfl dX11_agreed_165 ?_
    refine sb_iconst (pc' := 167) rfl dX11_agreed_166 ?_
    refine sb_icmp_eq (pc' := 170) (tgt := 180) rfl (by decide) hx3 (iR_lit rfl) dX11_agreed_167 ?_ ?_
    · intro cc; have H := H.1 cc
      refine sb_iload (pc' := 182) rfl rfl dX11_agreed_180 ?_
      refine sb_istore_n (pc' := 183) rfl (L' := [some (.ref (ad 102)), some (vi x1), some (vi x2), some (vi x5), some (vi x4), some (vi x5), some (vi x6), some (vi x7)]) rfl (by decide) dX11_agreed_182 ?_
      refine sb_iload (pc' := 185) rfl rfl dX11_agreed_183 ?_
      refine sb_istore (pc' := 187) rfl (L' := [some (.ref (ad 102)), some (vi x1), some (vi x2), some (vi x5), some (vi x6), some (vi x5), some (vi x6), some (vi x7)]) rfl (by decide) dX11_agreed_185 ?_
      refine sb_iinc (pc' := 190) rfl rfl (L' := [some (.ref (ad 102)), some (vi x1), some (vi x2), some (vi x5), some (vi x6), some (vi (x5 + 1)), some (vi x6), some (vi x7)]) rfl (by decide) dX11_agreed_187 ?_
      refine sb_goto (tgt := 100) (by decide) dX11_agreed_190 ?_
      obtain ⟨o1, H⟩ := H
      refine Wb.forget [true, true, true, true, true, true, false, false] ?_
      exact (H hx1 hx2 hx5 hx6 o1 hS)
    · intro cc; have H := H.2 cc
      refine sb_iload (pc' := 172) rfl rfl dX11_agreed_170 ?_
      refine sb_iload (pc' := 174) rfl rfl dX11_agreed_172 ?_
      refine sb_icmp_lt (pc' := 177) (tgt := 180) rfl (by decide) hx6 hx4 dX11_agreed_174 ?_ ?_
      · intro cc; have H := H.1 cc
        refine sb_iload (pc' := 182) rfl rfl dX11_agreed_180 ?_
        refine sb_istore_n (pc' := 183) rfl (L' := [some (.ref (ad 102)), some (vi x1), some (vi x2), some (vi x5), some (vi x4), some (vi x5), some (vi x6), some (vi x7)]) rfl (by decide) dX11_agreed_182 ?_
        refine sb_iload (pc' := 185) rfl rfl dX11_agreed_183 ?_
        refine sb_istore (pc' := 187) rfl (L' := [some (.ref (ad 102)), some (vi x1), some (vi x2), some (vi x5), some (vi x6), some (vi x5), some (vi x6), some (vi x7)]) rfl (by decide) dX11_agreed_185 ?_
        refine sb_iinc (pc' := 190) rfl rfl (L' := [some (.ref (ad 102)), some (vi x1), some (vi x2), some (vi x5), some (vi x6), some (vi (x5 + 1)), some (vi x6), some (vi x7)]) rfl (by decide) dX11_agreed_187 ?_
        refine sb_goto (tgt := 100) (by decide) dX11_agreed_190 ?_
        obtain ⟨o2, H⟩ := H
        refine Wb.forget [true, true, true, true, true, true, false, false] ?_
        exact (H hx1 hx2 hx5 hx6 o2 hS)
      · intro cc; have H := H.2 cc
        refine sb_goto (tgt := 187) (by decide) dX11_agreed_177 ?_
        refine sb_iinc (pc' := 190) rfl rfl (L' := [some (.ref (ad 102)), some (vi x1), some (vi x2), some (vi x3), some (vi x4), some (vi (x5 + 1)), some (vi x6), some (vi x7)]) rfl (by decide) dX11_agreed_187 ?_
        refine sb_goto (tgt := 100) (by decide) dX11_agreed_190 ?_
        obtain ⟨o3, H⟩ := H
        refine Wb.forget [true, true, true, true, true, true, false, false] ?_
        exact (H hx1 hx2 hx3 hx4 o3 hS)
  · intro cc; have H := H.2 cc
    refine sb_iload (pc' := 120) rfl rfl dX11_agreed_118 ?_
    refine sb_aload_n (pc' := 121) rfl rfl dX11_agreed_120 ?_
    refine sb_aload_n (pc' := 122) rfl rfl dX11_agreed_121 ?_
    refine sb_getC (pc' := 125) rfl fc_102_50 wd_1600 dX11_agreed_122 ?_
    refine sb_bipush (pc' := 127) rfl (z := 18) (by decide) dX11_agreed_125 ?_
    refine sb_iload (pc' := 129) rfl rfl dX11_agreed_127 ?_
    refine sb_imul (pc' := 130) rfl dX11_agreed_129 ?_
    refine sb_aload_n (pc' := 131) rfl rfl dX11_agreed_130 ?_
    refine sb_getC (pc' := 134) rfl fc_102_51 wd_1601 dX11_agreed_131 ?_
    refine sb_iload (pc' := 136) rfl rfl dX11_agreed_134 ?_
    obtain ⟨o4, H⟩ := H
    refine sb_iald (pc' := 137) rfl aI_130 o4.1 o4.2 dX11_agreed_136 ?_
    refine sb_aload_n (pc' := 138) rfl rfl dX11_agreed_137 ?_
    refine sb_getC (pc' := 141) rfl fc_102_50 wd_1600 dX11_agreed_138 ?_
    refine sb_bipush (pc' := 143) rfl (z := 18) (by decide) dX11_agreed_141 ?_
    refine sb_iload (pc' := 145) rfl rfl dX11_agreed_143 ?_
    refine sb_imul (pc' := 146) rfl dX11_agreed_145 ?_
    refine sb_aload_n (pc' := 147) rfl rfl dX11_agreed_146 ?_
    refine sb_getC (pc' := 150) rfl fc_102_51 wd_1601 dX11_agreed_147 ?_
    refine sb_iload (pc' := 152) rfl rfl dX11_agreed_150 ?_
    obtain ⟨o5, H⟩ := H
    refine sb_iald (pc' := 153) rfl aI_130 o5.1 o5.2 dX11_agreed_152 ?_
    obtain ⟨d6, hd6, H⟩ := H
    refine sb_callV (pc' := 156) rfl rfl (rc := rc) (rs := rs) (mc' := 0) (ms' := 0) (As := [(.ref (ad 129)), (vi (18 * x5)), (vi (ia σ 130 x5)), (.ref (ad 129)), (vi (18 * x7)), (vi (ia σ 130 x7))]) (st := [(vi x6)]) of_102 rfl rfl (Nat.le_of_ble_eq_true rfl) hd6 kX11_apart ⟨wd_2103, wd_2105, wd_162⟩ dX11_agreed_153 (Eb.mono H ?_)
    rintro o s6 ⟨r6, rfl, hr6, hs6, H⟩
    show Wb g ad d mX11_agreed Q 156 [some (.ref (ad 102)), some (vi x1), some (vi x2), some (vi x3), some (vi x4), some (vi x5), some (vi x6), some (vi x7)] [(vi r6), (vi x6)] s6 rc rs
    refine sb_iadd (pc' := 157) rfl dX11_agreed_156 ?_
    refine sb_istore (pc' := 159) rfl (L' := [some (.ref (ad 102)), some (vi x1), some (vi x2), some (vi x3), some (vi x4), some (vi x5), some (vi (x6 + r6)), some (vi x7)]) rfl (by decide) dX11_agreed_157 ?_
    refine sb_iinc (pc' := 162) rfl rfl (L' := [some (.ref (ad 102)), some (vi x1), some (vi x2), some (vi x3), some (vi x4), some (vi x5), some (vi (x6 + r6)), some (vi (x7 + 1))]) rfl (by decide) dX11_agreed_159 ?_
    refine sb_goto (tgt := 112) (by decide) dX11_agreed_162 ?_
    obtain ⟨o7, H⟩ := H
    obtain ⟨o8, H⟩ := H
    exact (H hx1 hx2 hx3 hx4 hx5 o7 o8 hs6)
theorem bX11_worth_0 {g : AG} {ad : Nat → Nat} {d : Nat} {Q : AO → SG → Prop} {rc rs : Nat} {σ : SG} {x1 : Int}  (hx1 : iR x1) (hS : SR σ) (H : Cl g ad d mX11_of 0 0 [(.ref (ad 102)), (vi x1), (vi 9)] σ (Ki fun r1 s1 => ((¬ r1 = 1 → Cl g ad d mX11_exact0 0 0 [(.ref (ad 102))] s1 (Ki fun r2 s2 => (0 ≤ (369 + (10 * x1)) + 9 ∧ (369 + (10 * x1)) + 9 < 855) ∧ Cl g ad d mX11_exact0 0 0 [(.ref (ad 102))] (setS (setI s2 103 ((369 + (10 * x1)) + 9) 1) 102 20 0) (Ki fun r4 s4 => iR (r4 - r2) ∧ (iR (r4 - r2) → SR (setS (setI s4 103 ((369 + (10 * x1)) + 9) 0) 102 20 0) → Q (.inl (some (vi (r4 - r2)))) (setS (setI s4 103 ((369 + (10 * x1)) + 9) 0) 102 20 0))))) ∧ (r1 = 1 → (iR 0 → SR s1 → Q (.inl (some (vi 0))) s1))))) : Wb g ad d mX11_worth Q 0 [some (.ref (ad 102)), some (vi x1), none, none] [] σ rc rs := by
  refine sb_aload_n (pc' := 1) rfl rfl dX11_worth_0 ?_
  refine sb_iload_n (pc' := 2) rfl rfl dX11_worth_1 ?_
  refine sb_bipush (pc' := 4) rfl (z := 9) (by decide) dX11_worth_2 ?_
  obtain ⟨d1, hd1, H⟩ := H
  refine sb_callV (pc' := 7) rfl rfl (rc := rc) (rs := rs) (mc' := 0) (ms' := 0) (As := [(vi x1), (vi 9)]) (st := []) of_102 rfl rfl (Nat.le_of_ble_eq_true rfl) hd1 kX11_of ⟨wd_1782, wd_1784, wd_112⟩ dX11_worth_4 (Eb.mono H ?_)
  rintro o s1 ⟨r1, rfl, hr1, hs1, H⟩
  show Wb g ad d mX11_worth Q 7 [some (.ref (ad 102)), some (vi x1), none, none] [(vi r1)] s1 rc rs
  refine sb_iconst (pc' := 8) rfl dX11_worth_7 ?_
  refine sb_icmp_ne (pc' := 11) (tgt := 13) rfl (by decide) hr1 (iR_lit rfl) dX11_worth_8 ?_ ?_
  · intro cc; have H := H.1 cc
    refine sb_aload_n (pc' := 14) rfl rfl dX11_worth_13 ?_
    obtain ⟨d2, hd2, H⟩ := H
    refine sb_callV (pc' := 17) rfl rfl (rc := rc) (rs := rs) (mc' := 0) (ms' := 0) (As := []) (st := []) of_102 rfl rfl (Nat.le_of_ble_eq_true rfl) hd2 kX11_exact0 ⟨wd_1870, wd_1872, wd_128⟩ dX11_worth_14 (Eb.mono H ?_)
    rintro o s2 ⟨r2, rfl, hr2, hs2, H⟩
    show Wb g ad d mX11_worth Q 17 [some (.ref (ad 102)), some (vi x1), none, none] [(vi r2)] s2 rc rs
    refine sb_istore_n (pc' := 18) rfl (L' := [some (.ref (ad 102)), some (vi x1), some (vi r2), none]) rfl (by decide) dX11_worth_17 ?_
    refine sb_aload_n (pc' := 19) rfl rfl dX11_worth_18 ?_
    refine sb_getC (pc' := 22) rfl fc_102_1 wd_1551 dX11_worth_19 ?_
    refine sb_sipush (pc' := 25) rfl (z := 369) (by decide) dX11_worth_22 ?_
    refine sb_bipush (pc' := 27) rfl (z := 10) (by decide) dX11_worth_25 ?_
    refine sb_iload_n (pc' := 28) rfl rfl dX11_worth_27 ?_
    refine sb_imul (pc' := 29) rfl dX11_worth_28 ?_
    refine sb_iadd (pc' := 30) rfl dX11_worth_29 ?_
    refine sb_bipush (pc' := 32) rfl (z := 9) (by decide) dX11_worth_30 ?_
    refine sb_iadd (pc' := 33) rfl dX11_worth_32 ?_
    refine sb_iconst (pc' := 34) rfl dX11_worth_33 ?_
    obtain ⟨o3, H⟩ := H
    refine sb_iast (pc' := 35) rfl aI_103 o3.1 o3.2  dX11_worth_34 ?_
    refine sb_aload_n (pc' := 36) rfl rfl dX11_worth_35 ?_
    refine sb_iconst (pc' := 37) rfl dX11_worth_36 ?_
    refine sb_putI (pc' := 40) rfl fi_102_20 (Or.inr (Or.inl rfl)) wd_1570 dX11_worth_37 ?_
    refine sb_aload_n (pc' := 41) rfl rfl dX11_worth_40 ?_
    obtain ⟨d4, hd4, H⟩ := H
    refine sb_callV (pc' := 44) rfl rfl (rc := rc) (rs := rs) (mc' := 0) (ms' := 0) (As := []) (st := []) of_102 rfl rfl (Nat.le_of_ble_eq_true rfl) hd4 kX11_exact0 ⟨wd_1870, wd_1872, wd_128⟩ dX11_worth_41 (Eb.mono H ?_)
    rintro o s4 ⟨r4, rfl, hr4, hs4, H⟩
    show Wb g ad d mX11_worth Q 44 [some (.ref (ad 102)), some (vi x1), some (vi r2), none] [(vi r4)] s4 rc rs
    refine sb_istore_n (pc' := 45) rfl (L' := [some (.ref (ad 102)), some (vi x1), some (vi r2), some (vi r4)]) rfl (by decide) dX11_worth_44 ?_
    refine sb_aload_n (pc' := 46) rfl rfl dX11_worth_45 ?_
    refine sb_getC (pc' := 49) rfl fc_102_1 wd_1551 dX11_worth_46 ?_
    refine sb_sipush (pc' := 52) rfl (z := 369) (by decide) dX11_worth_49 ?_
    refine sb_bipush (pc' := 54) rfl (z := 10) (by decide) dX11_worth_52 ?_
    refine sb_iload_n (pc' := 55) rfl rfl dX11_worth_54 ?_
    refine sb_imul (pc' := 56) rfl dX11_worth_55 ?_
    refine sb_iadd (pc' := 57) rfl dX11_worth_56 ?_
    refine sb_bipush (pc' := 59) rfl (z := 9) (by decide) dX11_worth_57 ?_
    refine sb_iadd (pc' := 60) rfl dX11_worth_59 ?_
    refine sb_iconst (pc' := 61) rfl dX11_worth_60 ?_
    refine sb_iast (pc' := 62) rfl aI_103 o3.1 o3.2  dX11_worth_61 ?_
    refine sb_aload_n (pc' := 63) rfl rfl dX11_worth_62 ?_
    refine sb_iconst (pc' := 64) rfl dX11_worth_63 ?_
    refine sb_putI (pc' := 67) rfl fi_102_20 (Or.inr (Or.inl rfl)) wd_1570 dX11_worth_64 ?_
    refine sb_iload_n (pc' := 68) rfl rfl dX11_worth_67 ?_
    refine sb_iload_n (pc' := 69) rfl rfl dX11_worth_68 ?_
    refine sb_isub (pc' := 70) rfl dX11_worth_69 ?_
    obtain ⟨o5, H⟩ := H
    exact sb_iret rfl rfl dX11_worth_70 (H o5 (SR_setS (SR_setI hs4 (iR_lit rfl)) (iR_lit rfl)))
  · intro cc; have H := H.2 cc
    refine sb_iconst (pc' := 12) rfl dX11_worth_11 ?_
    exact sb_iret rfl rfl dX11_worth_12 (H (iR_lit rfl) hs1)
theorem bX11_needed_0 {g : AG} {ad : Nat → Nat} {d : Nat} {Q : AO → SG → Prop} {rc rs : Nat} {σ : SG}    (hS : SR σ) (H : (iR 0 → iR 0 → SR (setS σ 102 0 0) → Wb g ad d mX11_needed Q 9 [some (.ref (ad 102)), some (vi 0), some (vi 0)] [] (setS σ 102 0 0) rc rs)) : Wb g ad d mX11_needed Q 0 [some (.ref (ad 102)), none, none] [] σ rc rs := by
  refine sb_aload_n (pc' := 1) rfl rfl dX11_needed_0 ?_
  refine sb_iconst (pc' := 2) rfl dX11_needed_1 ?_
  refine sb_putI (pc' := 5) rfl fi_102_0 (Or.inl rfl) wd_1550 dX11_needed_2 ?_
  refine sb_iconst (pc' := 6) rfl dX11_needed_5 ?_
  refine sb_istore_n (pc' := 7) rfl (L' := [some (.ref (ad 102)), some (vi 0), none]) rfl (by decide) dX11_needed_6 ?_
  refine sb_iconst (pc' := 8) rfl dX11_needed_7 ?_
  refine sb_istore_n (pc' := 9) rfl (L' := [some (.ref (ad 102)), some (vi 0), some (vi 0)]) rfl (by decide) dX11_needed_8 ?_
  exact (H (iR_lit rfl) (iR_lit rfl) (SR_setS hS (iR_lit rfl)))
theorem bX11_needed_9 {g : AG} {ad : Nat → Nat} {d : Nat} {Q : AO → SG → Prop} {rc rs : Nat} {σ : SG} {x1 x2 : Int}  (hx1 : iR x1) (hx2 : iR x2) (hS : SR σ) (H : (((ia σ 103 1) ≤ x2 → (iR x1 → SR σ → Q (.inl (some (vi x1))) σ)) ∧ (¬ (ia σ 103 1) ≤ x2 → Cl g ad d mX11_placesOf 0 0 [(.ref (ad 102)), (vi x2)] σ (Ki fun r1 s1 => ((r1 ≤ 0 → iR (x2 + 1) ∧ (iR (bOr x1 0) → iR (x2 + 1) → SR s1 → Wb g ad d mX11_needed Q 9 [some (.ref (ad 102)), some (vi (bOr x1 0)), some (vi (x2 + 1))] [] s1 rc rs)) ∧ (¬ r1 ≤ 0 → Cl g ad d mX11_worth 0 0 [(.ref (ad 102)), (vi x2)] s1 (Ki fun r3 s3 => ((r3 ≤ 0 → iR (x2 + 1) ∧ (iR (bOr x1 0) → iR (x2 + 1) → SR s3 → Wb g ad d mX11_needed Q 9 [some (.ref (ad 102)), some (vi (bOr x1 0)), some (vi (x2 + 1))] [] s3 rc rs)) ∧ (¬ r3 ≤ 0 → iR (x2 + 1) ∧ (iR (bOr x1 (bShl 1 x2)) → iR (x2 + 1) → SR s3 → Wb g ad d mX11_needed Q 9 [some (.ref (ad 102)), some (vi (bOr x1 (bShl 1 x2))), some (vi (x2 + 1))] [] s3 rc rs)))))))))) : Wb g ad d mX11_needed Q 9 [some (.ref (ad 102)), some (vi x1), some (vi x2)] [] σ rc rs := by
  refine sb_iload_n (pc' := 10) rfl rfl dX11_needed_9 ?_
  refine sb_aload_n (pc' := 11) rfl rfl dX11_needed_10 ?_
  refine sb_getC (pc' := 14) rfl fc_102_1 wd_1551 dX11_needed_11 ?_
  refine sb_iconst (pc' := 15) rfl dX11_needed_14 ?_
  refine sb_iald (pc' := 16) rfl aI_103 (by decide) (by decide) dX11_needed_15 ?_
  refine sb_icmp_ge (pc' := 19) (tgt := 51) rfl (by decide) hx2 (SR_ia hS _ _) dX11_needed_16 ?_ ?_
  · intro cc; have H := H.1 cc
    refine sb_iload_n (pc' := 52) rfl rfl dX11_needed_51 ?_
    exact sb_iret rfl rfl dX11_needed_52 (H hx1 hS)
  · intro cc; have H := H.2 cc
    refine sb_iload_n (pc' := 20) rfl rfl dX11_needed_19 ?_
    refine sb_aload_n (pc' := 21) rfl rfl dX11_needed_20 ?_
    refine sb_iload_n (pc' := 22) rfl rfl dX11_needed_21 ?_
    obtain ⟨d1, hd1, H⟩ := H
    refine sb_callV (pc' := 25) rfl rfl (rc := rc) (rs := rs) (mc' := 0) (ms' := 0) (As := [(vi x2)]) (st := [(vi x1)]) of_102 rfl rfl (Nat.le_of_ble_eq_true rfl) hd1 kX11_placesOf ⟨wd_1850, wd_1852, wd_123⟩ dX11_needed_22 (Eb.mono H ?_)
    rintro o s1 ⟨r1, rfl, hr1, hs1, H⟩
    show Wb g ad d mX11_needed Q 25 [some (.ref (ad 102)), some (vi x1), some (vi x2)] [(vi r1), (vi x1)] s1 rc rs
    refine sb_if_le (pc' := 28) (tgt := 42) rfl (by decide) hr1 dX11_needed_25 ?_ ?_
    · intro cc; have H := H.1 cc
      refine sb_iconst (pc' := 43) rfl dX11_needed_42 ?_
      refine sb_ior (pc' := 44) rfl dX11_needed_43 ?_
      refine sb_istore_n (pc' := 45) rfl (L' := [some (.ref (ad 102)), some (vi (bOr x1 0)), some (vi x2)]) rfl (by decide) dX11_needed_44 ?_
      refine sb_iinc (pc' := 48) rfl rfl (L' := [some (.ref (ad 102)), some (vi (bOr x1 0)), some (vi (x2 + 1))]) rfl (by decide) dX11_needed_45 ?_
      refine sb_goto (tgt := 9) (by decide) dX11_needed_48 ?_
      obtain ⟨o2, H⟩ := H
      exact (H (iR_b _) o2 hs1)
    · intro cc; have H := H.2 cc
      refine sb_aload_n (pc' := 29) rfl rfl dX11_needed_28 ?_
      refine sb_iload_n (pc' := 30) rfl rfl dX11_needed_29 ?_
      obtain ⟨d3, hd3, H⟩ := H
      refine sb_callV (pc' := 33) rfl rfl (rc := rc) (rs := rs) (mc' := 0) (ms' := 0) (As := [(vi x2)]) (st := [(vi x1)]) of_102 rfl rfl (Nat.le_of_ble_eq_true rfl) hd3 kX11_worth ⟨wd_1866, wd_1868, wd_127⟩ dX11_needed_30 (Eb.mono H ?_)
      rintro o s3 ⟨r3, rfl, hr3, hs3, H⟩
      show Wb g ad d mX11_needed Q 33 [some (.ref (ad 102)), some (vi x1), some (vi x2)] [(vi r3), (vi x1)] s3 rc rs
      refine sb_if_le (pc' := 36) (tgt := 42) rfl (by decide) hr3 dX11_needed_33 ?_ ?_
      · intro cc; have H := H.1 cc
        refine sb_iconst (pc' := 43) rfl dX11_needed_42 ?_
        refine sb_ior (pc' := 44) rfl dX11_needed_43 ?_
        refine sb_istore_n (pc' := 45) rfl (L' := [some (.ref (ad 102)), some (vi (bOr x1 0)), some (vi x2)]) rfl (by decide) dX11_needed_44 ?_
        refine sb_iinc (pc' := 48) rfl rfl (L' := [some (.ref (ad 102)), some (vi (bOr x1 0)), some (vi (x2 + 1))]) rfl (by decide) dX11_needed_45 ?_
        refine sb_goto (tgt := 9) (by decide) dX11_needed_48 ?_
        obtain ⟨o4, H⟩ := H
        exact (H (iR_b _) o4 hs3)
      · intro cc; have H := H.2 cc
        refine sb_iconst (pc' := 37) rfl dX11_needed_36 ?_
        refine sb_iload_n (pc' := 38) rfl rfl dX11_needed_37 ?_
        refine sb_ishl (pc' := 39) rfl dX11_needed_38 ?_
        refine sb_goto (tgt := 43) (by decide) dX11_needed_39 ?_
        refine sb_ior (pc' := 44) rfl dX11_needed_43 ?_
        refine sb_istore_n (pc' := 45) rfl (L' := [some (.ref (ad 102)), some (vi (bOr x1 (bShl 1 x2))), some (vi x2)]) rfl (by decide) dX11_needed_44 ?_
        refine sb_iinc (pc' := 48) rfl rfl (L' := [some (.ref (ad 102)), some (vi (bOr x1 (bShl 1 x2))), some (vi (x2 + 1))]) rfl (by decide) dX11_needed_45 ?_
        refine sb_goto (tgt := 9) (by decide) dX11_needed_48 ?_
        obtain ⟨o5, H⟩ := H
        exact (H (iR_b _) o5 hs3)
theorem bX11_idle_0 {g : AG} {ad : Nat → Nat} {d : Nat} {Q : AO → SG → Prop} {rc rs : Nat} {σ : SG}    (hS : SR σ) (H : (iR 0 → iR 0 → SR (setS σ 102 0 0) → Wb g ad d mX11_idle Q 9 [some (.ref (ad 102)), some (vi 0), some (vi 0)] [] (setS σ 102 0 0) rc rs)) : Wb g ad d mX11_idle Q 0 [some (.ref (ad 102)), none, none] [] σ rc rs := by
  refine sb_aload_n (pc' := 1) rfl rfl dX11_idle_0 ?_
  refine sb_iconst (pc' := 2) rfl dX11_idle_1 ?_
  refine sb_putI (pc' := 5) rfl fi_102_0 (Or.inl rfl) wd_1550 dX11_idle_2 ?_
  refine sb_iconst (pc' := 6) rfl dX11_idle_5 ?_
  refine sb_istore_n (pc' := 7) rfl (L' := [some (.ref (ad 102)), some (vi 0), none]) rfl (by decide) dX11_idle_6 ?_
  refine sb_iconst (pc' := 8) rfl dX11_idle_7 ?_
  refine sb_istore_n (pc' := 9) rfl (L' := [some (.ref (ad 102)), some (vi 0), some (vi 0)]) rfl (by decide) dX11_idle_8 ?_
  exact (H (iR_lit rfl) (iR_lit rfl) (SR_setS hS (iR_lit rfl)))
theorem bX11_idle_9 {g : AG} {ad : Nat → Nat} {d : Nat} {Q : AO → SG → Prop} {rc rs : Nat} {σ : SG} {x1 x2 : Int}  (hx1 : iR x1) (hx2 : iR x2) (hS : SR σ) (H : (((ia σ 103 1) ≤ x2 → (iR x1 → SR σ → Q (.inl (some (vi x1))) σ)) ∧ (¬ (ia σ 103 1) ≤ x2 → Cl g ad d mX11_of 0 0 [(.ref (ad 102)), (vi x2), (vi 9)] σ (Ki fun r1 s1 => ((¬ r1 = 0 → iR (x2 + 1) ∧ (iR (bOr x1 0) → iR (x2 + 1) → SR s1 → Wb g ad d mX11_idle Q 9 [some (.ref (ad 102)), some (vi (bOr x1 0)), some (vi (x2 + 1))] [] s1 rc rs)) ∧ (r1 = 0 → Cl g ad d mX11_placesOf 0 0 [(.ref (ad 102)), (vi x2)] s1 (Ki fun r3 s3 => ((¬ r3 = 0 → iR (x2 + 1) ∧ (iR (bOr x1 0) → iR (x2 + 1) → SR s3 → Wb g ad d mX11_idle Q 9 [some (.ref (ad 102)), some (vi (bOr x1 0)), some (vi (x2 + 1))] [] s3 rc rs)) ∧ (r3 = 0 → iR (x2 + 1) ∧ (iR (bOr x1 (bShl 1 x2)) → iR (x2 + 1) → SR s3 → Wb g ad d mX11_idle Q 9 [some (.ref (ad 102)), some (vi (bOr x1 (bShl 1 x2))), some (vi (x2 + 1))] [] s3 rc rs)))))))))) : Wb g ad d mX11_idle Q 9 [some (.ref (ad 102)), some (vi x1), some (vi x2)] [] σ rc rs := by
  refine sb_iload_n (pc' := 10) rfl rfl dX11_idle_9 ?_
  refine sb_aload_n (pc' := 11) rfl rfl dX11_idle_10 ?_
  refine sb_getC (pc' := 14) rfl fc_102_1 wd_1551 dX11_idle_11 ?_
  refine sb_iconst (pc' := 15) rfl dX11_idle_14 ?_
  refine sb_iald (pc' := 16) rfl aI_103 (by decide) (by decide) dX11_idle_15 ?_
  refine sb_icmp_ge (pc' := 19) (tgt := 53) rfl (by decide) hx2 (SR_ia hS _ _) dX11_idle_16 ?_ ?_
  · intro cc; have H := H.1 cc
    refine sb_iload_n (pc' := 54) rfl rfl dX11_idle_53 ?_
    exact sb_iret rfl rfl dX11_idle_54 (H hx1 hS)
  · intro cc; have H := H.2 cc
    refine sb_iload_n (pc' := 20) rfl rfl dX11_idle_19 ?_
    refine sb_aload_n (pc' := 21) rfl rfl dX11_idle_20 ?_
    refine sb_iload_n (pc' := 22) rfl rfl dX11_idle_21 ?_
    refine sb_bipush (pc' := 24) rfl (z := 9) (by decide) dX11_idle_22 ?_
    obtain ⟨d1, hd1, H⟩ := H
    refine sb_callV (pc' := 27) rfl rfl (rc := rc) (rs := rs) (mc' := 0) (ms' := 0) (As := [(vi x2), (vi 9)]) (st := [(vi x1)]) of_102 rfl rfl (Nat.le_of_ble_eq_true rfl) hd1 kX11_of ⟨wd_1782, wd_1784, wd_112⟩ dX11_idle_24 (Eb.mono H ?_)
    rintro o s1 ⟨r1, rfl, hr1, hs1, H⟩
    show Wb g ad d mX11_idle Q 27 [some (.ref (ad 102)), some (vi x1), some (vi x2)] [(vi r1), (vi x1)] s1 rc rs
    refine sb_if_ne (pc' := 30) (tgt := 44) rfl (by decide) hr1 dX11_idle_27 ?_ ?_
    · intro cc; have H := H.1 cc
      refine sb_iconst (pc' := 45) rfl dX11_idle_44 ?_
      refine sb_ior (pc' := 46) rfl dX11_idle_45 ?_
      refine sb_istore_n (pc' := 47) rfl (L' := [some (.ref (ad 102)), some (vi (bOr x1 0)), some (vi x2)]) rfl (by decide) dX11_idle_46 ?_
      refine sb_iinc (pc' := 50) rfl rfl (L' := [some (.ref (ad 102)), some (vi (bOr x1 0)), some (vi (x2 + 1))]) rfl (by decide) dX11_idle_47 ?_
      refine sb_goto (tgt := 9) (by decide) dX11_idle_50 ?_
      obtain ⟨o2, H⟩ := H
      exact (H (iR_b _) o2 hs1)
    · intro cc; have H := H.2 cc
      refine sb_aload_n (pc' := 31) rfl rfl dX11_idle_30 ?_
      refine sb_iload_n (pc' := 32) rfl rfl dX11_idle_31 ?_
      obtain ⟨d3, hd3, H⟩ := H
      refine sb_callV (pc' := 35) rfl rfl (rc := rc) (rs := rs) (mc' := 0) (ms' := 0) (As := [(vi x2)]) (st := [(vi x1)]) of_102 rfl rfl (Nat.le_of_ble_eq_true rfl) hd3 kX11_placesOf ⟨wd_1850, wd_1852, wd_123⟩ dX11_idle_32 (Eb.mono H ?_)
      rintro o s3 ⟨r3, rfl, hr3, hs3, H⟩
      show Wb g ad d mX11_idle Q 35 [some (.ref (ad 102)), some (vi x1), some (vi x2)] [(vi r3), (vi x1)] s3 rc rs
      refine sb_if_ne (pc' := 38) (tgt := 44) rfl (by decide) hr3 dX11_idle_35 ?_ ?_
      · intro cc; have H := H.1 cc
        refine sb_iconst (pc' := 45) rfl dX11_idle_44 ?_
        refine sb_ior (pc' := 46) rfl dX11_idle_45 ?_
        refine sb_istore_n (pc' := 47) rfl (L' := [some (.ref (ad 102)), some (vi (bOr x1 0)), some (vi x2)]) rfl (by decide) dX11_idle_46 ?_
        refine sb_iinc (pc' := 50) rfl rfl (L' := [some (.ref (ad 102)), some (vi (bOr x1 0)), some (vi (x2 + 1))]) rfl (by decide) dX11_idle_47 ?_
        refine sb_goto (tgt := 9) (by decide) dX11_idle_50 ?_
        obtain ⟨o4, H⟩ := H
        exact (H (iR_b _) o4 hs3)
      · intro cc; have H := H.2 cc
        refine sb_iconst (pc' := 39) rfl dX11_idle_38 ?_
        refine sb_iload_n (pc' := 40) rfl rfl dX11_idle_39 ?_
        refine sb_ishl (pc' := 41) rfl dX11_idle_40 ?_
        refine sb_goto (tgt := 45) (by decide) dX11_idle_41 ?_
        refine sb_ior (pc' := 46) rfl dX11_idle_45 ?_
        refine sb_istore_n (pc' := 47) rfl (L' := [some (.ref (ad 102)), some (vi (bOr x1 (bShl 1 x2))), some (vi x2)]) rfl (by decide) dX11_idle_46 ?_
        refine sb_iinc (pc' := 50) rfl rfl (L' := [some (.ref (ad 102)), some (vi (bOr x1 (bShl 1 x2))), some (vi (x2 + 1))]) rfl (by decide) dX11_idle_47 ?_
        refine sb_goto (tgt := 9) (by decide) dX11_idle_50 ?_
        obtain ⟨o5, H⟩ := H
        exact (H (iR_b _) o5 hs3)
theorem bX11_exactBy_0 {g : AG} {ad : Nat → Nat} {d : Nat} {Q : AO → SG → Prop} {rc rs : Nat} {σ : SG} {x1 x2 : Int}  (hx1 : iR x1) (hx2 : iR x2) (hS : SR σ) (H : (0 ≤ x1 ∧ x1 < 855) ∧ Cl g ad d mX11_exact0 0 0 [(.ref (ad 102))] (setS (setI σ 103 x1 x2) 102 20 0) (Ki fun r2 s2 => (iR r2 → SR (setS (setI s2 103 x1 (ia σ 103 x1)) 102 20 0) → Q (.inl (some (vi r2))) (setS (setI s2 103 x1 (ia σ 103 x1)) 102 20 0)))) : Wb g ad d mX11_exactBy Q 0 [some (.ref (ad 102)), some (vi x1), some (vi x2), none, none] [] σ rc rs := by
  refine sb_aload_n (pc' := 1) rfl rfl dX11_exactBy_0 ?_
  refine sb_getC (pc' := 4) rfl fc_102_1 wd_1551 dX11_exactBy_1 ?_
  refine sb_iload_n (pc' := 5) rfl rfl dX11_exactBy_4 ?_
  obtain ⟨o1, H⟩ := H
  refine sb_iald (pc' := 6) rfl aI_103 o1.1 o1.2 dX11_exactBy_5 ?_
  refine sb_istore_n (pc' := 7) rfl (L' := [some (.ref (ad 102)), some (vi x1), some (vi x2), some (vi (ia σ 103 x1)), none]) rfl (by decide) dX11_exactBy_6 ?_
  refine sb_aload_n (pc' := 8) rfl rfl dX11_exactBy_7 ?_
  refine sb_getC (pc' := 11) rfl fc_102_1 wd_1551 dX11_exactBy_8 ?_
  refine sb_iload_n (pc' := 12) rfl rfl dX11_exactBy_11 ?_
  refine sb_iload_n (pc' := 13) rfl rfl dX11_exactBy_12 ?_
  refine sb_iast (pc' := 14) rfl aI_103 o1.1 o1.2  dX11_exactBy_13 ?_
  refine sb_aload_n (pc' := 15) rfl rfl dX11_exactBy_14 ?_
  refine sb_iconst (pc' := 16) rfl dX11_exactBy_15 ?_
  refine sb_putI (pc' := 19) rfl fi_102_20 (Or.inr (Or.inl rfl)) wd_1570 dX11_exactBy_16 ?_
  refine sb_aload_n (pc' := 20) rfl rfl dX11_exactBy_19 ?_
  obtain ⟨d2, hd2, H⟩ := H
  refine sb_callV (pc' := 23) rfl rfl (rc := rc) (rs := rs) (mc' := 0) (ms' := 0) (As := []) (st := []) of_102 rfl rfl (Nat.le_of_ble_eq_true rfl) hd2 kX11_exact0 ⟨wd_1870, wd_1872, wd_128⟩ dX11_exactBy_20 (Eb.mono H ?_)
  rintro o s2 ⟨r2, rfl, hr2, hs2, H⟩
  show Wb g ad d mX11_exactBy Q 23 [some (.ref (ad 102)), some (vi x1), some (vi x2), some (vi (ia σ 103 x1)), none] [(vi r2)] s2 rc rs
  refine sb_istore (pc' := 25) rfl (L' := [some (.ref (ad 102)), some (vi x1), some (vi x2), some (vi (ia σ 103 x1)), some (vi r2)]) rfl (by decide) dX11_exactBy_23 ?_
  refine sb_aload_n (pc' := 26) rfl rfl dX11_exactBy_25 ?_
  refine sb_getC (pc' := 29) rfl fc_102_1 wd_1551 dX11_exactBy_26 ?_
  refine sb_iload_n (pc' := 30) rfl rfl dX11_exactBy_29 ?_
  refine sb_iload_n (pc' := 31) rfl rfl dX11_exactBy_30 ?_
  refine sb_iast (pc' := 32) rfl aI_103 o1.1 o1.2  dX11_exactBy_31 ?_
  refine sb_aload_n (pc' := 33) rfl rfl dX11_exactBy_32 ?_
  refine sb_iconst (pc' := 34) rfl dX11_exactBy_33 ?_
  refine sb_putI (pc' := 37) rfl fi_102_20 (Or.inr (Or.inl rfl)) wd_1570 dX11_exactBy_34 ?_
  refine sb_iload (pc' := 39) rfl rfl dX11_exactBy_37 ?_
  exact sb_iret rfl rfl dX11_exactBy_39 (H hr2 (SR_setS (SR_setI hs2 (SR_ia hS _ _)) (iR_lit rfl)))
theorem bX11_reach_0 {g : AG} {ad : Nat → Nat} {d : Nat} {Q : AO → SG → Prop} {rc rs : Nat} {σ : SG}    (hS : SR σ) (H : Cl g ad d mX11_exactBy 0 0 [(.ref (ad 102)), (vi 7), (vi 6)] (setS σ 102 0 0) (Ki fun r1 s1 => (iR r1 → iR 0 → SR s1 → Wb g ad d mX11_reach Q 16 [some (.ref (ad 102)), some (vi r1), some (vi 0)] [] s1 rc rs))) : Wb g ad d mX11_reach Q 0 [some (.ref (ad 102)), none, none] [] σ rc rs := by
  refine sb_aload_n (pc' := 1) rfl rfl dX11_reach_0 ?_
  refine sb_iconst (pc' := 2) rfl dX11_reach_1 ?_
  refine sb_putI (pc' := 5) rfl fi_102_0 (Or.inl rfl) wd_1550 dX11_reach_2 ?_
  refine sb_aload_n (pc' := 6) rfl rfl dX11_reach_5 ?_
  refine sb_bipush (pc' := 8) rfl (z := 7) (by decide) dX11_reach_6 ?_
  refine sb_bipush (pc' := 10) rfl (z := 6) (by decide) dX11_reach_8 ?_
  obtain ⟨d1, hd1, H⟩ := H
  refine sb_callV (pc' := 13) rfl rfl (rc := rc) (rs := rs) (mc' := 0) (ms' := 0) (As := [(vi 7), (vi 6)]) (st := []) of_102 rfl rfl (Nat.le_of_ble_eq_true rfl) hd1 kX11_exactBy ⟨wd_2133, wd_2135, wd_163⟩ dX11_reach_10 (Eb.mono H ?_)
  rintro o s1 ⟨r1, rfl, hr1, hs1, H⟩
  show Wb g ad d mX11_reach Q 13 [some (.ref (ad 102)), none, none] [(vi r1)] s1 rc rs
  refine sb_istore_n (pc' := 14) rfl (L' := [some (.ref (ad 102)), some (vi r1), none]) rfl (by decide) dX11_reach_13 ?_
  refine sb_iconst (pc' := 15) rfl dX11_reach_14 ?_
  refine sb_istore_n (pc' := 16) rfl (L' := [some (.ref (ad 102)), some (vi r1), some (vi 0)]) rfl (by decide) dX11_reach_15 ?_
  exact (H hr1 (iR_lit rfl) hs1)
theorem bX11_reach_16 {g : AG} {ad : Nat → Nat} {d : Nat} {Q : AO → SG → Prop} {rc rs : Nat} {σ : SG} {x1 x2 : Int}  (hx1 : iR x1) (hx2 : iR x2) (hS : SR σ) (H : Cl g ad d mX11_exactBy 0 0 [(.ref (ad 102)), (vi 7), (vi x2)] σ (Ki fun r1 s1 => ((r1 = x1 → (iR x2 → SR s1 → Q (.inl (some (vi x2))) s1)) ∧ (¬ r1 = x1 → iR (x2 + 1) ∧ (iR x1 → iR (x2 + 1) → SR s1 → Wb g ad d mX11_reach Q 16 [some (.ref (ad 102)), some (vi x1), some (vi (x2 + 1))] [] s1 rc rs))))) : Wb g ad d mX11_reach Q 16 [some (.ref (ad 102)), some (vi x1), some (vi x2)] [] σ rc rs := by
  refine sb_aload_n (pc' := 17) rfl rfl dX11_reach_16 ?_
  refine sb_bipush (pc' := 19) rfl (z := 7) (by decide) dX11_reach_17 ?_
  refine sb_iload_n (pc' := 20) rfl rfl dX11_reach_19 ?_
  obtain ⟨d1, hd1, H⟩ := H
  refine sb_callV (pc' := 23) rfl rfl (rc := rc) (rs := rs) (mc' := 0) (ms' := 0) (As := [(vi 7), (vi x2)]) (st := []) of_102 rfl rfl (Nat.le_of_ble_eq_true rfl) hd1 kX11_exactBy ⟨wd_2133, wd_2135, wd_163⟩ dX11_reach_20 (Eb.mono H ?_)
  rintro o s1 ⟨r1, rfl, hr1, hs1, H⟩
  show Wb g ad d mX11_reach Q 23 [some (.ref (ad 102)), some (vi x1), some (vi x2)] [(vi r1)] s1 rc rs
  refine sb_iload_n (pc' := 24) rfl rfl dX11_reach_23 ?_
  refine sb_icmp_eq (pc' := 27) (tgt := 33) rfl (by decide) hr1 hx1 dX11_reach_24 ?_ ?_
  · intro cc; have H := H.1 cc
    refine sb_iload_n (pc' := 34) rfl rfl dX11_reach_33 ?_
    exact sb_iret rfl rfl dX11_reach_34 (H hx2 hs1)
  · intro cc; have H := H.2 cc
    refine sb_iinc (pc' := 30) rfl rfl (L' := [some (.ref (ad 102)), some (vi x1), some (vi (x2 + 1))]) rfl (by decide) dX11_reach_27 ?_
    refine sb_goto (tgt := 16) (by decide) dX11_reach_30 ?_
    obtain ⟨o2, H⟩ := H
    exact (H hx1 o2 hs1)
theorem bX11_width_0 {g : AG} {ad : Nat → Nat} {d : Nat} {Q : AO → SG → Prop} {rc rs : Nat} {σ : SG}    (hS : SR σ) (H : Cl g ad d mX11_exact0 0 0 [(.ref (ad 102))] (setS σ 102 0 0) (Ki fun r1 s1 => (iR r1 → iR (ia s1 103 8) → iR ((-1)) → iR 1 → SR s1 → Wb g ad d mX11_width Q 23 [some (.ref (ad 102)), some (vi r1), some (vi (ia s1 103 8)), some (vi ((-1))), some (vi 1)] [] s1 rc rs))) : Wb g ad d mX11_width Q 0 [some (.ref (ad 102)), none, none, none, none] [] σ rc rs := by
  refine sb_aload_n (pc' := 1) rfl rfl dX11_width_0 ?_
  refine sb_iconst (pc' := 2) rfl dX11_width_1 ?_
  refine sb_putI (pc' := 5) rfl fi_102_0 (Or.inl rfl) wd_1550 dX11_width_2 ?_
  refine sb_aload_n (pc' := 6) rfl rfl dX11_width_5 ?_
  obtain ⟨d1, hd1, H⟩ := H
  refine sb_callV (pc' := 9) rfl rfl (rc := rc) (rs := rs) (mc' := 0) (ms' := 0) (As := []) (st := []) of_102 rfl rfl (Nat.le_of_ble_eq_true rfl) hd1 kX11_exact0 ⟨wd_1870, wd_1872, wd_128⟩ dX11_width_6 (Eb.mono H ?_)
  rintro o s1 ⟨r1, rfl, hr1, hs1, H⟩
  show Wb g ad d mX11_width Q 9 [some (.ref (ad 102)), none, none, none, none] [(vi r1)] s1 rc rs
  refine sb_istore_n (pc' := 10) rfl (L' := [some (.ref (ad 102)), some (vi r1), none, none, none]) rfl (by decide) dX11_width_9 ?_
  refine sb_aload_n (pc' := 11) rfl rfl dX11_width_10 ?_
  refine sb_getC (pc' := 14) rfl fc_102_1 wd_1551 dX11_width_11 ?_
  refine sb_bipush (pc' := 16) rfl (z := 8) (by decide) dX11_width_14 ?_
  refine sb_iald (pc' := 17) rfl aI_103 (by decide) (by decide) dX11_width_16 ?_
  refine sb_istore_n (pc' := 18) rfl (L' := [some (.ref (ad 102)), some (vi r1), some (vi (ia s1 103 8)), none, none]) rfl (by decide) dX11_width_17 ?_
  refine sb_iconst (pc' := 19) rfl dX11_width_18 ?_
  refine sb_istore_n (pc' := 20) rfl (L' := [some (.ref (ad 102)), some (vi r1), some (vi (ia s1 103 8)), some (vi ((-1))), none]) rfl (by decide) dX11_width_19 ?_
  refine sb_iconst (pc' := 21) rfl dX11_width_20 ?_
  refine sb_istore (pc' := 23) rfl (L' := [some (.ref (ad 102)), some (vi r1), some (vi (ia s1 103 8)), some (vi ((-1))), some (vi 1)]) rfl (by decide) dX11_width_21 ?_
  exact (H hr1 (SR_ia hs1 _ _) (iR_lit rfl) (iR_lit rfl) hs1)
theorem bX11_width_23 {g : AG} {ad : Nat → Nat} {d : Nat} {Q : AO → SG → Prop} {rc rs : Nat} {σ : SG} {x1 x2 x3 x4 : Int}  (hx1 : iR x1) (hx2 : iR x2) (hx3 : iR x3) (hx4 : iR x4) (hS : SR σ) (H : ((40 < x4 → (iR x3 → SR (setI σ 103 8 x2) → Q (.inl (some (vi x3))) (setI σ 103 8 x2))) ∧ (¬ 40 < x4 → ((¬ x3 = ((-1)) → (iR x3 → SR (setI σ 103 8 x2) → Q (.inl (some (vi x3))) (setI σ 103 8 x2))) ∧ (x3 = ((-1)) → Cl g ad d mX11_stacks 0 0 [(.ref (ad 102))] (setI σ 103 8 x4) (Kv fun s1 => (((sc s1 102 46) = ((-1)) → iR (x4 + 1) ∧ (iR x1 → iR x2 → iR x3 → iR (x4 + 1) → SR s1 → Wb g ad d mX11_width Q 23 [some (.ref (ad 102)), some (vi x1), some (vi x2), some (vi x3), some (vi (x4 + 1))] [] s1 rc rs)) ∧ (¬ (sc s1 102 46) = ((-1)) → ((¬ (sc s1 102 47) = x1 → iR (x4 + 1) ∧ (iR x1 → iR x2 → iR x3 → iR (x4 + 1) → SR s1 → Wb g ad d mX11_width Q 23 [some (.ref (ad 102)), some (vi x1), some (vi x2), some (vi x3), some (vi (x4 + 1))] [] s1 rc rs)) ∧ ((sc s1 102 47) = x1 → iR (x4 + 1) ∧ (iR x1 → iR x2 → iR x4 → iR (x4 + 1) → SR s1 → Wb g ad d mX11_width Q 23 [some (.ref (ad 102)), some (vi x1), some (vi x2), some (vi x4), some (vi (x4 + 1))] [] s1 rc rs))))))))))) : Wb g ad d mX11_width Q 23 [some (.ref (ad 102)), some (vi x1), some (vi x2), some (vi x3), some (vi x4)] [] σ rc rs := by
  refine sb_iload (pc' := 25) rfl rfl dX11_width_23 ?_
  refine sb_bipush (pc' := 27) rfl (z := 40) (by decide) dX11_width_25 ?_
  refine sb_icmp_gt (pc' := 30) (tgt := 73) rfl (by decide) hx4 (iR_lit rfl) dX11_width_27 ?_ ?_
  · intro cc; have H := H.1 cc
    refine sb_aload_n (pc' := 74) rfl rfl dX11_width_73 ?_
    refine sb_getC (pc' := 77) rfl fc_102_1 wd_1551 dX11_width_74 ?_
    refine sb_bipush (pc' := 79) rfl (z := 8) (by decide) dX11_width_77 ?_
    refine sb_iload_n (pc' := 80) rfl rfl dX11_width_79 ?_
    refine sb_iast (pc' := 81) rfl aI_103 (by decide) (by decide)  dX11_width_80 ?_
    refine sb_iload_n (pc' := 82) rfl rfl dX11_width_81 ?_
    exact sb_iret rfl rfl dX11_width_82 (H hx3 (SR_setI hS hx2))
  · intro cc; have H := H.2 cc
    refine sb_iload_n (pc' := 31) rfl rfl dX11_width_30 ?_
    refine sb_iconst (pc' := 32) rfl dX11_width_31 ?_
    refine sb_icmp_ne (pc' := 35) (tgt := 73) rfl (by decide) hx3 (iR_lit rfl) dX11_width_32 ?_ ?_
    · intro cc; have H := H.1 cc
      refine sb_aload_n (pc' := 74) rfl rfl dX11_width_73 ?_
      refine sb_getC (pc' := 77) rfl fc_102_1 wd_1551 dX11_width_74 ?_
      refine sb_bipush (pc' := 79) rfl (z := 8) (by decide) dX11_width_77 ?_
      refine sb_iload_n (pc' := 80) rfl rfl dX11_width_79 ?_
      refine sb_iast (pc' := 81) rfl aI_103 (by decide) (by decide)  dX11_width_80 ?_
      refine sb_iload_n (pc' := 82) rfl rfl dX11_width_81 ?_
      exact sb_iret rfl rfl dX11_width_82 (H hx3 (SR_setI hS hx2))
    · intro cc; have H := H.2 cc
      refine sb_aload_n (pc' := 36) rfl rfl dX11_width_35 ?_
      refine sb_getC (pc' := 39) rfl fc_102_1 wd_1551 dX11_width_36 ?_
      refine sb_bipush (pc' := 41) rfl (z := 8) (by decide) dX11_width_39 ?_
      refine sb_iload (pc' := 43) rfl rfl dX11_width_41 ?_
      refine sb_iast (pc' := 44) rfl aI_103 (by decide) (by decide)  dX11_width_43 ?_
      refine sb_aload_n (pc' := 45) rfl rfl dX11_width_44 ?_
      obtain ⟨d1, hd1, H⟩ := H
      refine sb_callV (pc' := 48) rfl rfl (rc := rc) (rs := rs) (mc' := 0) (ms' := 0) (As := []) (st := []) of_102 rfl rfl (Nat.le_of_ble_eq_true rfl) hd1 kX11_stacks ⟨wd_2017, wd_2019, wd_146⟩ dX11_width_45 (Eb.mono H ?_)
      rintro o s1 ⟨rfl, hs1, H⟩
      show Wb g ad d mX11_width Q 48 [some (.ref (ad 102)), some (vi x1), some (vi x2), some (vi x3), some (vi x4)] [] s1 rc rs
      refine sb_aload_n (pc' := 49) rfl rfl dX11_width_48 ?_
      refine sb_getI (pc' := 52) rfl fi_102_46 wd_1596 dX11_width_49 ?_
      refine sb_iconst (pc' := 53) rfl dX11_width_52 ?_
      refine sb_icmp_eq (pc' := 56) (tgt := 67) rfl (by decide) (SR_sc hs1 _ _) (iR_lit rfl) dX11_width_53 ?_ ?_
      · intro cc; have H := H.1 cc
        refine sb_iinc (pc' := 70) rfl rfl (L' := [some (.ref (ad 102)), some (vi x1), some (vi x2), some (vi x3), some (vi (x4 + 1))]) rfl (by decide) dX11_width_67 ?_
        refine sb_goto (tgt := 23) (by decide) dX11_width_70 ?_
        obtain ⟨o2, H⟩ := H
        exact (H hx1 hx2 hx3 o2 hs1)
      · intro cc; have H := H.2 cc
        refine sb_aload_n (pc' := 57) rfl rfl dX11_width_56 ?_
        refine sb_getI (pc' := 60) rfl fi_102_47 wd_1597 dX11_width_57 ?_
        refine sb_iload_n (pc' := 61) rfl rfl dX11_width_60 ?_
        refine sb_icmp_ne (pc' := 64) (tgt := 67) rfl (by decide) (SR_sc hs1 _ _) hx1 dX11_width_61 ?_ ?_
        · intro cc; have H := H.1 cc
          refine sb_iinc (pc' := 70) rfl rfl (L' := [some (.ref (ad 102)), some (vi x1), some (vi x2), some (vi x3), some (vi (x4 + 1))]) rfl (by decide) dX11_width_67 ?_
          refine sb_goto (tgt := 23) (by decide) dX11_width_70 ?_
          obtain ⟨o3, H⟩ := H
          exact (H hx1 hx2 hx3 o3 hs1)
        · intro cc; have H := H.2 cc
          refine sb_iload (pc' := 66) rfl rfl dX11_width_64 ?_
          refine sb_istore_n (pc' := 67) rfl (L' := [some (.ref (ad 102)), some (vi x1), some (vi x2), some (vi x4), some (vi x4)]) rfl (by decide) dX11_width_66 ?_
          refine sb_iinc (pc' := 70) rfl rfl (L' := [some (.ref (ad 102)), some (vi x1), some (vi x2), some (vi x4), some (vi (x4 + 1))]) rfl (by decide) dX11_width_67 ?_
          refine sb_goto (tgt := 23) (by decide) dX11_width_70 ?_
          obtain ⟨o4, H⟩ := H
          exact (H hx1 hx2 hx4 o4 hs1)
theorem bX11_tuned_0 {g : AG} {ad : Nat → Nat} {d : Nat} {Q : AO → SG → Prop} {rc rs : Nat} {σ : SG}    (hS : SR σ) (H : Cl g ad d mX11_isTold 0 0 [(.ref (ad 102))] σ (Ki fun r1 s1 => ((¬ r1 = 0 → (iR (ia s1 103 6) → iR ((-1)) → iR 0 → iR 0 → SR s1 → Wb g ad d mX11_tuned Q 24 [some (.ref (ad 102)), some (vi (ia s1 103 6)), some (vi ((-1))), some (vi 0), some (vi 0), none] [] s1 rc rs)) ∧ (r1 = 0 → (iR 0 → SR s1 → Q (.inl (some (vi 0))) s1))))) : Wb g ad d mX11_tuned Q 0 [some (.ref (ad 102)), none, none, none, none, none] [] σ rc rs := by
  refine sb_aload_n (pc' := 1) rfl rfl dX11_tuned_0 ?_
  obtain ⟨d1, hd1, H⟩ := H
  refine sb_callV (pc' := 4) rfl rfl (rc := rc) (rs := rs) (mc' := 0) (ms' := 0) (As := []) (st := []) of_102 rfl rfl (Nat.le_of_ble_eq_true rfl) hd1 kX11_isTold ⟨wd_2083, wd_2085, wd_158⟩ dX11_tuned_1 (Eb.mono H ?_)
  rintro o s1 ⟨r1, rfl, hr1, hs1, H⟩
  show Wb g ad d mX11_tuned Q 4 [some (.ref (ad 102)), none, none, none, none, none] [(vi r1)] s1 rc rs
  refine sb_if_ne (pc' := 7) (tgt := 9) rfl (by decide) hr1 dX11_tuned_4 ?_ ?_
  · intro cc; have H := H.1 cc
    refine sb_aload_n (pc' := 10) rfl rfl dX11_tuned_9 ?_
    refine sb_getC (pc' := 13) rfl fc_102_1 wd_1551 dX11_tuned_10 ?_
    refine sb_bipush (pc' := 15) rfl (z := 6) (by decide) dX11_tuned_13 ?_
    refine sb_iald (pc' := 16) rfl aI_103 (by decide) (by decide) dX11_tuned_15 ?_
    refine sb_istore_n (pc' := 17) rfl (L' := [some (.ref (ad 102)), some (vi (ia s1 103 6)), none, none, none, none]) rfl (by decide) dX11_tuned_16 ?_
    refine sb_iconst (pc' := 18) rfl dX11_tuned_17 ?_
    refine sb_istore_n (pc' := 19) rfl (L' := [some (.ref (ad 102)), some (vi (ia s1 103 6)), some (vi ((-1))), none, none, none]) rfl (by decide) dX11_tuned_18 ?_
    refine sb_iconst (pc' := 20) rfl dX11_tuned_19 ?_
    refine sb_istore_n (pc' := 21) rfl (L' := [some (.ref (ad 102)), some (vi (ia s1 103 6)), some (vi ((-1))), some (vi 0), none, none]) rfl (by decide) dX11_tuned_20 ?_
    refine sb_iconst (pc' := 22) rfl dX11_tuned_21 ?_
    refine sb_istore (pc' := 24) rfl (L' := [some (.ref (ad 102)), some (vi (ia s1 103 6)), some (vi ((-1))), some (vi 0), some (vi 0), none]) rfl (by decide) dX11_tuned_22 ?_
    exact (H (SR_ia hs1 _ _) (iR_lit rfl) (iR_lit rfl) (iR_lit rfl) hs1)
  · intro cc; have H := H.2 cc
    refine sb_iconst (pc' := 8) rfl dX11_tuned_7 ?_
    exact sb_iret rfl rfl dX11_tuned_8 (H (iR_lit rfl) hs1)
theorem bX11_tuned_24 {g : AG} {ad : Nat → Nat} {d : Nat} {Q : AO → SG → Prop} {rc rs : Nat} {σ : SG} {x1 x2 x3 x4 : Int}  (hx1 : iR x1) (hx2 : iR x2) (hx3 : iR x3) (hx4 : iR x4) (hS : SR σ) (H : ((20 < x4 → (iR x2 → SR (setS (setI σ 103 6 x1) 102 20 0) → Q (.inl (some (vi x2))) (setS (setI σ 103 6 x1) 102 20 0))) ∧ (¬ 20 < x4 → Cl g ad d mX11_nearTold 0 0 [(.ref (ad 102))] (setS (setI σ 103 6 x4) 102 20 0) (Ki fun r1 s1 => ((x2 = ((-1)) → iR (x4 + 1) ∧ (iR x1 → iR x4 → iR r1 → iR (x4 + 1) → SR s1 → Wb g ad d mX11_tuned Q 24 [some (.ref (ad 102)), some (vi x1), some (vi x4), some (vi r1), some (vi (x4 + 1)), none] [] s1 rc rs)) ∧ (¬ x2 = ((-1)) → ((r1 < x3 → iR (x4 + 1) ∧ (iR x1 → iR x4 → iR r1 → iR (x4 + 1) → SR s1 → Wb g ad d mX11_tuned Q 24 [some (.ref (ad 102)), some (vi x1), some (vi x4), some (vi r1), some (vi (x4 + 1)), none] [] s1 rc rs)) ∧ (¬ r1 < x3 → iR (x4 + 1) ∧ (iR x1 → iR x2 → iR x3 → iR (x4 + 1) → SR s1 → Wb g ad d mX11_tuned Q 24 [some (.ref (ad 102)), some (vi x1), some (vi x2), some (vi x3), some (vi (x4 + 1)), none] [] s1 rc rs))))))))) : Wb g ad d mX11_tuned Q 24 [some (.ref (ad 102)), some (vi x1), some (vi x2), some (vi x3), some (vi x4), none] [] σ rc rs := by
  refine sb_iload (pc' := 26) rfl rfl dX11_tuned_24 ?_
  refine sb_bipush (pc' := 28) rfl (z := 20) (by decide) dX11_tuned_26 ?_
  refine sb_icmp_gt (pc' := 31) (tgt := 77) rfl (by decide) hx4 (iR_lit rfl) dX11_tuned_28 ?_ ?_
  · intro cc; have H := H.1 cc
    refine sb_aload_n (pc' := 78) rfl rfl dX11_tuned_77 ?_
    refine sb_getC (pc' := 81) rfl fc_102_1 wd_1551 dX11_tuned_78 ?_
    refine sb_bipush (pc' := 83) rfl (z := 6) (by decide) dX11_tuned_81 ?_
    refine sb_iload_n (pc' := 84) rfl rfl dX11_tuned_83 ?_
    refine sb_iast (pc' := 85) rfl aI_103 (by decide) (by decide)  dX11_tuned_84 ?_
    refine sb_aload_n (pc' := 86) rfl rfl dX11_tuned_85 ?_
    refine sb_iconst (pc' := 87) rfl dX11_tuned_86 ?_
    refine sb_putI (pc' := 90) rfl fi_102_20 (Or.inr (Or.inl rfl)) wd_1570 dX11_tuned_87 ?_
    refine sb_iload_n (pc' := 91) rfl rfl dX11_tuned_90 ?_
    exact sb_iret rfl rfl dX11_tuned_91 (H hx2 (SR_setS (SR_setI hS hx1) (iR_lit rfl)))
  · intro cc; have H := H.2 cc
    refine sb_aload_n (pc' := 32) rfl rfl dX11_tuned_31 ?_
    refine sb_getC (pc' := 35) rfl fc_102_1 wd_1551 dX11_tuned_32 ?_
    refine sb_bipush (pc' := 37) rfl (z := 6) (by decide) dX11_tuned_35 ?_
    refine sb_iload (pc' := 39) rfl rfl dX11_tuned_37 ?_
    refine sb_iast (pc' := 40) rfl aI_103 (by decide) (by decide)  dX11_tuned_39 ?_
    refine sb_aload_n (pc' := 41) rfl rfl dX11_tuned_40 ?_
    refine sb_iconst (pc' := 42) rfl dX11_tuned_41 ?_
    refine sb_putI (pc' := 45) rfl fi_102_20 (Or.inr (Or.inl rfl)) wd_1570 dX11_tuned_42 ?_
    refine sb_aload_n (pc' := 46) rfl rfl dX11_tuned_45 ?_
    obtain ⟨d1, hd1, H⟩ := H
    refine sb_callV (pc' := 49) rfl rfl (rc := rc) (rs := rs) (mc' := 0) (ms' := 0) (As := []) (st := []) of_102 rfl rfl (Nat.le_of_ble_eq_true rfl) hd1 kX11_nearTold ⟨wd_2099, wd_2101, wd_161⟩ dX11_tuned_46 (Eb.mono H ?_)
    rintro o s1 ⟨r1, rfl, hr1, hs1, H⟩
    show Wb g ad d mX11_tuned Q 49 [some (.ref (ad 102)), some (vi x1), some (vi x2), some (vi x3), some (vi x4), none] [(vi r1)] s1 rc rs
    refine sb_istore (pc' := 51) rfl (L' := [some (.ref (ad 102)), some (vi x1), some (vi x2), some (vi x3), some (vi x4), some (vi r1)]) rfl (by decide) dX11_tuned_49 ?_
    refine sb_iload_n (pc' := 52) rfl rfl dX11_tuned_51 ?_
    refine sb_iconst (pc' := 53) rfl dX11_tuned_52 ?_
    refine sb_icmp_eq (pc' := 56) (tgt := 65) rfl (by decide) hx2 (iR_lit rfl) dX11_tuned_53 ?_ ?_
    · intro cc; have H := H.1 cc
      refine sb_iload (pc' := 67) rfl rfl dX11_tuned_65 ?_
      refine sb_istore_n (pc' := 68) rfl (L' := [some (.ref (ad 102)), some (vi x1), some (vi x4), some (vi x3), some (vi x4), some (vi r1)]) rfl (by decide) dX11_tuned_67 ?_
      refine sb_iload (pc' := 70) rfl rfl dX11_tuned_68 ?_
      refine sb_istore_n (pc' := 71) rfl (L' := [some (.ref (ad 102)), some (vi x1), some (vi x4), some (vi r1), some (vi x4), some (vi r1)]) rfl (by decide) dX11_tuned_70 ?_
      refine sb_iinc (pc' := 74) rfl rfl (L' := [some (.ref (ad 102)), some (vi x1), some (vi x4), some (vi r1), some (vi (x4 + 1)), some (vi r1)]) rfl (by decide) dX11_tuned_71 ?_
      refine sb_goto (tgt := 24) (by decide) dX11_tuned_74 ?_
      obtain ⟨o2, H⟩ := H
      refine Wb.forget [true, true, true, true, true, false] ?_
      exact (H hx1 hx4 hr1 o2 hs1)
    · intro cc; have H := H.2 cc
      refine sb_iload (pc' := 58) rfl rfl dX11_tuned_56 ?_
      refine sb_iload_n (pc' := 59) rfl rfl dX11_tuned_58 ?_
      refine sb_icmp_lt (pc' := 62) (tgt := 65) rfl (by decide) hr1 hx3 dX11_tuned_59 ?_ ?_
      · intro cc; have H := H.1 cc
        refine sb_iload (pc' := 67) rfl rfl dX11_tuned_65 ?_
        refine sb_istore_n (pc' := 68) rfl (L' := [some (.ref (ad 102)), some (vi x1), some (vi x4), some (vi x3), some (vi x4), some (vi r1)]) rfl (by decide) dX11_tuned_67 ?_
        refine sb_iload (pc' := 70) rfl rfl dX11_tuned_68 ?_
        refine sb_istore_n (pc' := 71) rfl (L' := [some (.ref (ad 102)), some (vi x1), some (vi x4), some (vi r1), some (vi x4), some (vi r1)]) rfl (by decide) dX11_tuned_70 ?_
        refine sb_iinc (pc' := 74) rfl rfl (L' := [some (.ref (ad 102)), some (vi x1), some (vi x4), some (vi r1), some (vi (x4 + 1)), some (vi r1)]) rfl (by decide) dX11_tuned_71 ?_
        refine sb_goto (tgt := 24) (by decide) dX11_tuned_74 ?_
        obtain ⟨o3, H⟩ := H
        refine Wb.forget [true, true, true, true, true, false] ?_
        exact (H hx1 hx4 hr1 o3 hs1)
      · intro cc; have H := H.2 cc
        refine sb_goto (tgt := 71) (by decide) dX11_tuned_62 ?_
        refine sb_iinc (pc' := 74) rfl rfl (L' := [some (.ref (ad 102)), some (vi x1), some (vi x2), some (vi x3), some (vi (x4 + 1)), some (vi r1)]) rfl (by decide) dX11_tuned_71 ?_
        refine sb_goto (tgt := 24) (by decide) dX11_tuned_74 ?_
        obtain ⟨o4, H⟩ := H
        refine Wb.forget [true, true, true, true, true, false] ?_
        exact (H hx1 hx2 hx3 o4 hs1)
theorem bX11_image_0 {g : AG} {ad : Nat → Nat} {d : Nat} {Q : AO → SG → Prop} {rc rs : Nat} {σ : SG}    (hS : SR σ) (H : (iR 0 → SR (setS σ 102 0 0) → Wb g ad d mX11_image Q 7 [some (.ref (ad 102)), some (vi 0)] [] (setS σ 102 0 0) rc rs)) : Wb g ad d mX11_image Q 0 [some (.ref (ad 102)), none] [] σ rc rs := by
  refine sb_aload_n (pc' := 1) rfl rfl dX11_image_0 ?_
  refine sb_iconst (pc' := 2) rfl dX11_image_1 ?_
  refine sb_putI (pc' := 5) rfl fi_102_0 (Or.inl rfl) wd_1550 dX11_image_2 ?_
  refine sb_iconst (pc' := 6) rfl dX11_image_5 ?_
  refine sb_istore_n (pc' := 7) rfl (L' := [some (.ref (ad 102)), some (vi 0)]) rfl (by decide) dX11_image_6 ?_
  exact (H (iR_lit rfl) (SR_setS hS (iR_lit rfl)))
theorem bX11_image_7 {g : AG} {ad : Nat → Nat} {d : Nat} {Q : AO → SG → Prop} {rc rs : Nat} {σ : SG} {x1 : Int}  (hx1 : iR x1) (hS : SR σ) (H : ((855 ≤ x1 → (SR (setS σ 102 4 1) → Q (.inl none) (setS σ 102 4 1))) ∧ (¬ 855 ≤ x1 → (0 ≤ x1 ∧ x1 < 855) ∧ iR (x1 + 1) ∧ (iR (x1 + 1) → SR (setI σ 105 x1 (ia σ 103 x1)) → Wb g ad d mX11_image Q 7 [some (.ref (ad 102)), some (vi (x1 + 1))] [] (setI σ 105 x1 (ia σ 103 x1)) rc rs)))) : Wb g ad d mX11_image Q 7 [some (.ref (ad 102)), some (vi x1)] [] σ rc rs := by
  refine sb_iload_n (pc' := 8) rfl rfl dX11_image_7 ?_
  refine sb_sipush (pc' := 11) rfl (z := 855) (by decide) dX11_image_8 ?_
  refine sb_icmp_ge (pc' := 14) (tgt := 32) rfl (by decide) hx1 (iR_lit rfl) dX11_image_11 ?_ ?_
  · intro cc; have H := H.1 cc
    refine sb_aload_n (pc' := 33) rfl rfl dX11_image_32 ?_
    refine sb_iconst (pc' := 34) rfl dX11_image_33 ?_
    refine sb_putI (pc' := 37) rfl fi_102_4 (Or.inr (Or.inr rfl)) wd_1554 dX11_image_34 ?_
    exact sb_vret rfl dX11_image_37 (H (SR_setS hS (iR_lit rfl)))
  · intro cc; have H := H.2 cc
    refine sb_aload_n (pc' := 15) rfl rfl dX11_image_14 ?_
    refine sb_getC (pc' := 18) rfl fc_102_3 wd_1553 dX11_image_15 ?_
    refine sb_iload_n (pc' := 19) rfl rfl dX11_image_18 ?_
    refine sb_aload_n (pc' := 20) rfl rfl dX11_image_19 ?_
    refine sb_getC (pc' := 23) rfl fc_102_1 wd_1551 dX11_image_20 ?_
    refine sb_iload_n (pc' := 24) rfl rfl dX11_image_23 ?_
    obtain ⟨o1, H⟩ := H
    refine sb_iald (pc' := 25) rfl aI_103 o1.1 o1.2 dX11_image_24 ?_
    refine sb_iast (pc' := 26) rfl aI_105 o1.1 o1.2  dX11_image_25 ?_
    refine sb_iinc (pc' := 29) rfl rfl (L' := [some (.ref (ad 102)), some (vi (x1 + 1))]) rfl (by decide) dX11_image_26 ?_
    refine sb_goto (tgt := 7) (by decide) dX11_image_29 ?_
    obtain ⟨o2, H⟩ := H
    exact (H o2 (SR_setI hS (SR_ia hS _ _)))
theorem bX11_back_0 {g : AG} {ad : Nat → Nat} {d : Nat} {Q : AO → SG → Prop} {rc rs : Nat} {σ : SG}    (hS : SR σ) (H : ((¬ (sc (setS σ 102 0 0) 102 4) = 0 → (iR 0 → SR (setS σ 102 0 0) → Wb g ad d mX11_back Q 16 [some (.ref (ad 102)), some (vi 0)] [] (setS σ 102 0 0) rc rs)) ∧ ((sc (setS σ 102 0 0) 102 4) = 0 → (iR 0 → SR (setS σ 102 0 0) → Q (.inl (some (vi 0))) (setS σ 102 0 0))))) : Wb g ad d mX11_back Q 0 [some (.ref (ad 102)), none] [] σ rc rs := by
  refine sb_aload_n (pc' := 1) rfl rfl dX11_back_0 ?_
  refine sb_iconst (pc' := 2) rfl dX11_back_1 ?_
  refine sb_putI (pc' := 5) rfl fi_102_0 (Or.inl rfl) wd_1550 dX11_back_2 ?_
  refine sb_aload_n (pc' := 6) rfl rfl dX11_back_5 ?_
  refine sb_getI (pc' := 9) rfl fi_102_4 wd_1554 dX11_back_6 ?_
  refine sb_if_ne (pc' := 12) (tgt := 14) rfl (by decide) (SR_sc (SR_setS hS (iR_lit rfl)) _ _) dX11_back_9 ?_ ?_
  · intro cc; have H := H.1 cc
    refine sb_iconst (pc' := 15) rfl dX11_back_14 ?_
    refine sb_istore_n (pc' := 16) rfl (L' := [some (.ref (ad 102)), some (vi 0)]) rfl (by decide) dX11_back_15 ?_
    exact (H (iR_lit rfl) (SR_setS hS (iR_lit rfl)))
  · intro cc; have H := H.2 cc
    refine sb_iconst (pc' := 13) rfl dX11_back_12 ?_
    exact sb_iret rfl (nar_z2 (Or.inl rfl)) dX11_back_13 (H (iR_lit rfl) (SR_setS hS (iR_lit rfl)))
theorem bX11_back_16 {g : AG} {ad : Nat → Nat} {d : Nat} {Q : AO → SG → Prop} {rc rs : Nat} {σ : SG} {x1 : Int}  (hx1 : iR x1) (hS : SR σ) (H : ((855 ≤ x1 → (iR 1 → SR (setS σ 102 20 0) → Q (.inl (some (vi 1))) (setS σ 102 20 0))) ∧ (¬ 855 ≤ x1 → (0 ≤ x1 ∧ x1 < 855) ∧ iR (x1 + 1) ∧ (iR (x1 + 1) → SR (setI σ 103 x1 (ia σ 105 x1)) → Wb g ad d mX11_back Q 16 [some (.ref (ad 102)), some (vi (x1 + 1))] [] (setI σ 103 x1 (ia σ 105 x1)) rc rs)))) : Wb g ad d mX11_back Q 16 [some (.ref (ad 102)), some (vi x1)] [] σ rc rs := by
  refine sb_iload_n (pc' := 17) rfl rfl dX11_back_16 ?_
  refine sb_sipush (pc' := 20) rfl (z := 855) (by decide) dX11_back_17 ?_
  refine sb_icmp_ge (pc' := 23) (tgt := 41) rfl (by decide) hx1 (iR_lit rfl) dX11_back_20 ?_ ?_
  · intro cc; have H := H.1 cc
    refine sb_aload_n (pc' := 42) rfl rfl dX11_back_41 ?_
    refine sb_iconst (pc' := 43) rfl dX11_back_42 ?_
    refine sb_putI (pc' := 46) rfl fi_102_20 (Or.inr (Or.inl rfl)) wd_1570 dX11_back_43 ?_
    refine sb_iconst (pc' := 47) rfl dX11_back_46 ?_
    exact sb_iret rfl (nar_z2 (Or.inr rfl)) dX11_back_47 (H (iR_lit rfl) (SR_setS hS (iR_lit rfl)))
  · intro cc; have H := H.2 cc
    refine sb_aload_n (pc' := 24) rfl rfl dX11_back_23 ?_
    refine sb_getC (pc' := 27) rfl fc_102_1 wd_1551 dX11_back_24 ?_
    refine sb_iload_n (pc' := 28) rfl rfl dX11_back_27 ?_
    refine sb_aload_n (pc' := 29) rfl rfl dX11_back_28 ?_
    refine sb_getC (pc' := 32) rfl fc_102_3 wd_1553 dX11_back_29 ?_
    refine sb_iload_n (pc' := 33) rfl rfl dX11_back_32 ?_
    obtain ⟨o1, H⟩ := H
    refine sb_iald (pc' := 34) rfl aI_105 o1.1 o1.2 dX11_back_33 ?_
    refine sb_iast (pc' := 35) rfl aI_103 o1.1 o1.2  dX11_back_34 ?_
    refine sb_iinc (pc' := 38) rfl rfl (L' := [some (.ref (ad 102)), some (vi (x1 + 1))]) rfl (by decide) dX11_back_35 ?_
    refine sb_goto (tgt := 16) (by decide) dX11_back_38 ?_
    obtain ⟨o2, H⟩ := H
    exact (H o2 (SR_setI hS (SR_ia hS _ _)))
theorem bX11_count_0 {g : AG} {ad : Nat → Nat} {d : Nat} {Q : AO → SG → Prop} {rc rs : Nat} {σ : SG} {x1 : Int}  (hx1 : iR x1) (hS : SR σ) (H : ((¬ x1 = 9 → Cl g ad d mX11_isIn 0 0 [(vi x1), (vi 0), (vi 8)] (setS σ 102 0 0) (Ki fun r1 s1 => ((r1 = 0 → (iR ((-1)) → SR s1 → Q (.inl (some (vi ((-1))))) s1)) ∧ (¬ r1 = 0 → (0 ≤ x1 ∧ x1 < 855) ∧ (iR (ia s1 103 x1) → SR s1 → Q (.inl (some (vi (ia s1 103 x1)))) s1))))) ∧ (x1 = 9 → (iR x1 → iR 0 → iR 0 → SR (setS σ 102 0 0) → Wb g ad d mX11_count Q 15 [some (.ref (ad 102)), some (vi x1), some (vi 0), some (vi 0)] [] (setS σ 102 0 0) rc rs)))) : Wb g ad d mX11_count Q 0 [some (.ref (ad 102)), some (vi x1), none, none] [] σ rc rs := by
  refine sb_aload_n (pc' := 1) rfl rfl dX11_count_0 ?_
  refine sb_iconst (pc' := 2) rfl dX11_count_1 ?_
  refine sb_putI (pc' := 5) rfl fi_102_0 (Or.inl rfl) wd_1550 dX11_count_2 ?_
  refine sb_iload_n (pc' := 6) rfl rfl dX11_count_5 ?_
  refine sb_bipush (pc' := 8) rfl (z := 9) (by decide) dX11_count_6 ?_
  refine sb_icmp_ne (pc' := 11) (tgt := 51) rfl (by decide) hx1 (iR_lit rfl) dX11_count_8 ?_ ?_
  · intro cc; have H := H.1 cc
    refine sb_iload_n (pc' := 52) rfl rfl dX11_count_51 ?_
    refine sb_iconst (pc' := 53) rfl dX11_count_52 ?_
    refine sb_bipush (pc' := 55) rfl (z := 8) (by decide) dX11_count_53 ?_
    obtain ⟨d1, hd1, H⟩ := H
    refine sb_callS (pc' := 58) rfl rfl (rc := rc) (rs := rs) (mc' := 0) (ms' := 0) (As := [(vi x1), (vi 0), (vi 8)]) (st := [])  rfl rfl (Nat.le_of_ble_eq_true rfl) hd1 kX11_isIn ⟨wd_1719, wd_1720⟩ dX11_count_55 (Eb.mono H ?_)
    rintro o s1 ⟨r1, rfl, hr1, hs1, H⟩
    show Wb g ad d mX11_count Q 58 [some (.ref (ad 102)), some (vi x1), none, none] [(vi r1)] s1 rc rs
    refine sb_if_eq (pc' := 61) (tgt := 70) rfl (by decide) hr1 dX11_count_58 ?_ ?_
    · intro cc; have H := H.1 cc
      refine sb_iconst (pc' := 71) rfl dX11_count_70 ?_
      exact sb_iret rfl rfl dX11_count_71 (H (iR_lit rfl) hs1)
    · intro cc; have H := H.2 cc
      refine sb_aload_n (pc' := 62) rfl rfl dX11_count_61 ?_
      refine sb_getC (pc' := 65) rfl fc_102_1 wd_1551 dX11_count_62 ?_
      refine sb_iload_n (pc' := 66) rfl rfl dX11_count_65 ?_
      obtain ⟨o2, H⟩ := H
      refine sb_iald (pc' := 67) rfl aI_103 o2.1 o2.2 dX11_count_66 ?_
      refine sb_goto (tgt := 71) (by decide) dX11_count_67 ?_
      exact sb_iret rfl rfl dX11_count_71 (H (SR_ia hs1 _ _) hs1)
  · intro cc; have H := H.2 cc
    refine sb_iconst (pc' := 12) rfl dX11_count_11 ?_
    refine sb_istore_n (pc' := 13) rfl (L' := [some (.ref (ad 102)), some (vi x1), some (vi 0), none]) rfl (by decide) dX11_count_12 ?_
    refine sb_iconst (pc' := 14) rfl dX11_count_13 ?_
    refine sb_istore_n (pc' := 15) rfl (L' := [some (.ref (ad 102)), some (vi x1), some (vi 0), some (vi 0)]) rfl (by decide) dX11_count_14 ?_
    exact (H hx1 (iR_lit rfl) (iR_lit rfl) (SR_setS hS (iR_lit rfl)))
theorem bX11_count_15 {g : AG} {ad : Nat → Nat} {d : Nat} {Q : AO → SG → Prop} {rc rs : Nat} {σ : SG} {x1 x2 x3 : Int}  (hx1 : iR x1) (hx2 : iR x2) (hx3 : iR x3) (hS : SR σ) (H : (((ia σ 103 1) ≤ x3 → (iR x2 → SR σ → Q (.inl (some (vi x2))) σ)) ∧ (¬ (ia σ 103 1) ≤ x3 → Cl g ad d mX11_of 0 0 [(.ref (ad 102)), (vi x3), (vi 9)] σ (Ki fun r1 s1 => ((¬ r1 = 0 → iR (x2 + 0) ∧ iR (x3 + 1) ∧ (iR x1 → iR (x2 + 0) → iR (x3 + 1) → SR s1 → Wb g ad d mX11_count Q 15 [some (.ref (ad 102)), some (vi x1), some (vi (x2 + 0)), some (vi (x3 + 1))] [] s1 rc rs)) ∧ (r1 = 0 → iR (x2 + 1) ∧ iR (x3 + 1) ∧ (iR x1 → iR (x2 + 1) → iR (x3 + 1) → SR s1 → Wb g ad d mX11_count Q 15 [some (.ref (ad 102)), some (vi x1), some (vi (x2 + 1)), some (vi (x3 + 1))] [] s1 rc rs))))))) : Wb g ad d mX11_count Q 15 [some (.ref (ad 102)), some (vi x1), some (vi x2), some (vi x3)] [] σ rc rs := by
  refine sb_iload_n (pc' := 16) rfl rfl dX11_count_15 ?_
  refine sb_aload_n (pc' := 17) rfl rfl dX11_count_16 ?_
  refine sb_getC (pc' := 20) rfl fc_102_1 wd_1551 dX11_count_17 ?_
  refine sb_iconst (pc' := 21) rfl dX11_count_20 ?_
  refine sb_iald (pc' := 22) rfl aI_103 (by decide) (by decide) dX11_count_21 ?_
  refine sb_icmp_ge (pc' := 25) (tgt := 49) rfl (by decide) hx3 (SR_ia hS _ _) dX11_count_22 ?_ ?_
  · intro cc; have H := H.1 cc
    refine sb_iload_n (pc' := 50) rfl rfl dX11_count_49 ?_
    exact sb_iret rfl rfl dX11_count_50 (H hx2 hS)
  · intro cc; have H := H.2 cc
    refine sb_iload_n (pc' := 26) rfl rfl dX11_count_25 ?_
    refine sb_aload_n (pc' := 27) rfl rfl dX11_count_26 ?_
    refine sb_iload_n (pc' := 28) rfl rfl dX11_count_27 ?_
    refine sb_bipush (pc' := 30) rfl (z := 9) (by decide) dX11_count_28 ?_
    obtain ⟨d1, hd1, H⟩ := H
    refine sb_callV (pc' := 33) rfl rfl (rc := rc) (rs := rs) (mc' := 0) (ms' := 0) (As := [(vi x3), (vi 9)]) (st := [(vi x2)]) of_102 rfl rfl (Nat.le_of_ble_eq_true rfl) hd1 kX11_of ⟨wd_1782, wd_1784, wd_112⟩ dX11_count_30 (Eb.mono H ?_)
    rintro o s1 ⟨r1, rfl, hr1, hs1, H⟩
    show Wb g ad d mX11_count Q 33 [some (.ref (ad 102)), some (vi x1), some (vi x2), some (vi x3)] [(vi r1), (vi x2)] s1 rc rs
    refine sb_if_ne (pc' := 36) (tgt := 40) rfl (by decide) hr1 dX11_count_33 ?_ ?_
    · intro cc; have H := H.1 cc
      refine sb_iconst (pc' := 41) rfl dX11_count_40 ?_
      refine sb_iadd (pc' := 42) rfl dX11_count_41 ?_
      refine sb_istore_n (pc' := 43) rfl (L' := [some (.ref (ad 102)), some (vi x1), some (vi (x2 + 0)), some (vi x3)]) rfl (by decide) dX11_count_42 ?_
      refine sb_iinc (pc' := 46) rfl rfl (L' := [some (.ref (ad 102)), some (vi x1), some (vi (x2 + 0)), some (vi (x3 + 1))]) rfl (by decide) dX11_count_43 ?_
      refine sb_goto (tgt := 15) (by decide) dX11_count_46 ?_
      obtain ⟨o2, H⟩ := H
      obtain ⟨o3, H⟩ := H
      exact (H hx1 o2 o3 hs1)
    · intro cc; have H := H.2 cc
      refine sb_iconst (pc' := 37) rfl dX11_count_36 ?_
      refine sb_goto (tgt := 41) (by decide) dX11_count_37 ?_
      refine sb_iadd (pc' := 42) rfl dX11_count_41 ?_
      refine sb_istore_n (pc' := 43) rfl (L' := [some (.ref (ad 102)), some (vi x1), some (vi (x2 + 1)), some (vi x3)]) rfl (by decide) dX11_count_42 ?_
      refine sb_iinc (pc' := 46) rfl rfl (L' := [some (.ref (ad 102)), some (vi x1), some (vi (x2 + 1)), some (vi (x3 + 1))]) rfl (by decide) dX11_count_43 ?_
      refine sb_goto (tgt := 15) (by decide) dX11_count_46 ?_
      obtain ⟨o4, H⟩ := H
      obtain ⟨o5, H⟩ := H
      exact (H hx1 o4 o5 hs1)
theorem bJ6_bitCount_0f7a4_0 {g : AG} {ad : Nat → Nat} {d : Nat} {Q : AO → SG → Prop} {rc rs : Nat} {σ : SG} {x0 : Int}  (hx0 : iR x0) (hS : SR σ) (H : (iR (bAnd (((bAnd (((bAnd (x0 - (bAnd (bUshr x0 1) 1431655765)) 858993459) + (bAnd (bUshr (x0 - (bAnd (bUshr x0 1) 1431655765)) 2) 858993459)) + (bUshr ((bAnd (x0 - (bAnd (bUshr x0 1) 1431655765)) 858993459) + (bAnd (bUshr (x0 - (bAnd (bUshr x0 1) 1431655765)) 2) 858993459)) 4)) 252645135) + (bUshr (bAnd (((bAnd (x0 - (bAnd (bUshr x0 1) 1431655765)) 858993459) + (bAnd (bUshr (x0 - (bAnd (bUshr x0 1) 1431655765)) 2) 858993459)) + (bUshr ((bAnd (x0 - (bAnd (bUshr x0 1) 1431655765)) 858993459) + (bAnd (bUshr (x0 - (bAnd (bUshr x0 1) 1431655765)) 2) 858993459)) 4)) 252645135) 8)) + (bUshr ((bAnd (((bAnd (x0 - (bAnd (bUshr x0 1) 1431655765)) 858993459) + (bAnd (bUshr (x0 - (bAnd (bUshr x0 1) 1431655765)) 2) 858993459)) + (bUshr ((bAnd (x0 - (bAnd (bUshr x0 1) 1431655765)) 858993459) + (bAnd (bUshr (x0 - (bAnd (bUshr x0 1) 1431655765)) 2) 858993459)) 4)) 252645135) + (bUshr (bAnd (((bAnd (x0 - (bAnd (bUshr x0 1) 1431655765)) 858993459) + (bAnd (bUshr (x0 - (bAnd (bUshr x0 1) 1431655765)) 2) 858993459)) + (bUshr ((bAnd (x0 - (bAnd (bUshr x0 1) 1431655765)) 858993459) + (bAnd (bUshr (x0 - (bAnd (bUshr x0 1) 1431655765)) 2) 858993459)) 4)) 252645135) 8)) 16)) 63) → SR σ → Q (.inl (some (vi (bAnd (((bAnd (((bAnd (x0 - (bAnd (bUshr x0 1) 1431655765)) 858993459) + (bAnd (bUshr (x0 - (bAnd (bUshr x0 1) 1431655765)) 2) 858993459)) + (bUshr ((bAnd (x0 - (bAnd (bUshr x0 1) 1431655765)) 858993459) + (bAnd (bUshr (x0 - (bAnd (bUshr x0 1) 1431655765)) 2) 858993459)) 4)) 252645135) + (bUshr (bAnd (((bAnd (x0 - (bAnd (bUshr x0 1) 1431655765)) 858993459) + (bAnd (bUshr (x0 - (bAnd (bUshr x0 1) 1431655765)) 2) 858993459)) + (bUshr ((bAnd (x0 - (bAnd (bUshr x0 1) 1431655765)) 858993459) + (bAnd (bUshr (x0 - (bAnd (bUshr x0 1) 1431655765)) 2) 858993459)) 4)) 252645135) 8)) + (bUshr ((bAnd (((bAnd (x0 - (bAnd (bUshr x0 1) 1431655765)) 858993459) + (bAnd (bUshr (x0 - (bAnd (bUshr x0 1) 1431655765)) 2) 858993459)) + (bUshr ((bAnd (x0 - (bAnd (bUshr x0 1) 1431655765)) 858993459) + (bAnd (bUshr (x0 - (bAnd (bUshr x0 1) 1431655765)) 2) 858993459)) 4)) 252645135) + (bUshr (bAnd (((bAnd (x0 - (bAnd (bUshr x0 1) 1431655765)) 858993459) + (bAnd (bUshr (x0 - (bAnd (bUshr x0 1) 1431655765)) 2) 858993459)) + (bUshr ((bAnd (x0 - (bAnd (bUshr x0 1) 1431655765)) 858993459) + (bAnd (bUshr (x0 - (bAnd (bUshr x0 1) 1431655765)) 2) 858993459)) 4)) 252645135) 8)) 16)) 63)))) σ)) : Wb g ad d mJ6_bitCount_0f7a4 Q 0 [some (vi x0)] [] σ rc rs := by
  refine sb_iload_n (pc' := 1) rfl rfl dJ6_bitCount_0f7a4_0 ?_
  refine sb_iload_n (pc' := 2) rfl rfl dJ6_bitCount_0f7a4_1 ?_
  refine sb_iconst (pc' := 3) rfl dJ6_bitCount_0f7a4_2 ?_
  refine sb_iushr (pc' := 4) rfl dJ6_bitCount_0f7a4_3 ?_
  refine sb_ldcw (pc' := 7) rfl (z := 1431655765) rfl wd_749 dJ6_bitCount_0f7a4_4 ?_
  refine sb_iand (pc' := 8) rfl dJ6_bitCount_0f7a4_7 ?_
  refine sb_isub (pc' := 9) rfl dJ6_bitCount_0f7a4_8 ?_
  refine sb_istore_n (pc' := 10) rfl (L' := [some (vi (x0 - (bAnd (bUshr x0 1) 1431655765)))]) rfl (by decide) dJ6_bitCount_0f7a4_9 ?_
  refine sb_iload_n (pc' := 11) rfl rfl dJ6_bitCount_0f7a4_10 ?_
  refine sb_ldcw (pc' := 14) rfl (z := 858993459) rfl wd_750 dJ6_bitCount_0f7a4_11 ?_
  refine sb_iand (pc' := 15) rfl dJ6_bitCount_0f7a4_14 ?_
  refine sb_iload_n (pc' := 16) rfl rfl dJ6_bitCount_0f7a4_15 ?_
  refine sb_iconst (pc' := 17) rfl dJ6_bitCount_0f7a4_16 ?_
  refine sb_iushr (pc' := 18) rfl dJ6_bitCount_0f7a4_17 ?_
  refine sb_ldcw (pc' := 21) rfl (z := 858993459) rfl wd_750 dJ6_bitCount_0f7a4_18 ?_
  refine sb_iand (pc' := 22) rfl dJ6_bitCount_0f7a4_21 ?_
  refine sb_iadd (pc' := 23) rfl dJ6_bitCount_0f7a4_22 ?_
  refine sb_istore_n (pc' := 24) rfl (L' := [some (vi ((bAnd (x0 - (bAnd (bUshr x0 1) 1431655765)) 858993459) + (bAnd (bUshr (x0 - (bAnd (bUshr x0 1) 1431655765)) 2) 858993459)))]) rfl (by decide) dJ6_bitCount_0f7a4_23 ?_
  refine sb_iload_n (pc' := 25) rfl rfl dJ6_bitCount_0f7a4_24 ?_
  refine sb_iload_n (pc' := 26) rfl rfl dJ6_bitCount_0f7a4_25 ?_
  refine sb_iconst (pc' := 27) rfl dJ6_bitCount_0f7a4_26 ?_
  refine sb_iushr (pc' := 28) rfl dJ6_bitCount_0f7a4_27 ?_
  refine sb_iadd (pc' := 29) rfl dJ6_bitCount_0f7a4_28 ?_
  refine sb_ldcw (pc' := 32) rfl (z := 252645135) rfl wd_751 dJ6_bitCount_0f7a4_29 ?_
  refine sb_iand (pc' := 33) rfl dJ6_bitCount_0f7a4_32 ?_
  refine sb_istore_n (pc' := 34) rfl (L' := [some (vi (bAnd (((bAnd (x0 - (bAnd (bUshr x0 1) 1431655765)) 858993459) + (bAnd (bUshr (x0 - (bAnd (bUshr x0 1) 1431655765)) 2) 858993459)) + (bUshr ((bAnd (x0 - (bAnd (bUshr x0 1) 1431655765)) 858993459) + (bAnd (bUshr (x0 - (bAnd (bUshr x0 1) 1431655765)) 2) 858993459)) 4)) 252645135))]) rfl (by decide) dJ6_bitCount_0f7a4_33 ?_
  refine sb_iload_n (pc' := 35) rfl rfl dJ6_bitCount_0f7a4_34 ?_
  refine sb_iload_n (pc' := 36) rfl rfl dJ6_bitCount_0f7a4_35 ?_
  refine sb_bipush (pc' := 38) rfl (z := 8) (by decide) dJ6_bitCount_0f7a4_36 ?_
  refine sb_iushr (pc' := 39) rfl dJ6_bitCount_0f7a4_38 ?_
  refine sb_iadd (pc' := 40) rfl dJ6_bitCount_0f7a4_39 ?_
  refine sb_istore_n (pc' := 41) rfl (L' := [some (vi ((bAnd (((bAnd (x0 - (bAnd (bUshr x0 1) 1431655765)) 858993459) + (bAnd (bUshr (x0 - (bAnd (bUshr x0 1) 1431655765)) 2) 858993459)) + (bUshr ((bAnd (x0 - (bAnd (bUshr x0 1) 1431655765)) 858993459) + (bAnd (bUshr (x0 - (bAnd (bUshr x0 1) 1431655765)) 2) 858993459)) 4)) 252645135) + (bUshr (bAnd (((bAnd (x0 - (bAnd (bUshr x0 1) 1431655765)) 858993459) + (bAnd (bUshr (x0 - (bAnd (bUshr x0 1) 1431655765)) 2) 858993459)) + (bUshr ((bAnd (x0 - (bAnd (bUshr x0 1) 1431655765)) 858993459) + (bAnd (bUshr (x0 - (bAnd (bUshr x0 1) 1431655765)) 2) 858993459)) 4)) 252645135) 8)))]) rfl (by decide) dJ6_bitCount_0f7a4_40 ?_
  refine sb_iload_n (pc' := 42) rfl rfl dJ6_bitCount_0f7a4_41 ?_
  refine sb_iload_n (pc' := 43) rfl rfl dJ6_bitCount_0f7a4_42 ?_
  refine sb_bipush (pc' := 45) rfl (z := 16) (by decide) dJ6_bitCount_0f7a4_43 ?_
  refine sb_iushr (pc' := 46) rfl dJ6_bitCount_0f7a4_45 ?_
  refine sb_iadd (pc' := 47) rfl dJ6_bitCount_0f7a4_46 ?_
  refine sb_istore_n (pc' := 48) rfl (L' := [some (vi (((bAnd (((bAnd (x0 - (bAnd (bUshr x0 1) 1431655765)) 858993459) + (bAnd (bUshr (x0 - (bAnd (bUshr x0 1) 1431655765)) 2) 858993459)) + (bUshr ((bAnd (x0 - (bAnd (bUshr x0 1) 1431655765)) 858993459) + (bAnd (bUshr (x0 - (bAnd (bUshr x0 1) 1431655765)) 2) 858993459)) 4)) 252645135) + (bUshr (bAnd (((bAnd (x0 - (bAnd (bUshr x0 1) 1431655765)) 858993459) + (bAnd (bUshr (x0 - (bAnd (bUshr x0 1) 1431655765)) 2) 858993459)) + (bUshr ((bAnd (x0 - (bAnd (bUshr x0 1) 1431655765)) 858993459) + (bAnd (bUshr (x0 - (bAnd (bUshr x0 1) 1431655765)) 2) 858993459)) 4)) 252645135) 8)) + (bUshr ((bAnd (((bAnd (x0 - (bAnd (bUshr x0 1) 1431655765)) 858993459) + (bAnd (bUshr (x0 - (bAnd (bUshr x0 1) 1431655765)) 2) 858993459)) + (bUshr ((bAnd (x0 - (bAnd (bUshr x0 1) 1431655765)) 858993459) + (bAnd (bUshr (x0 - (bAnd (bUshr x0 1) 1431655765)) 2) 858993459)) 4)) 252645135) + (bUshr (bAnd (((bAnd (x0 - (bAnd (bUshr x0 1) 1431655765)) 858993459) + (bAnd (bUshr (x0 - (bAnd (bUshr x0 1) 1431655765)) 2) 858993459)) + (bUshr ((bAnd (x0 - (bAnd (bUshr x0 1) 1431655765)) 858993459) + (bAnd (bUshr (x0 - (bAnd (bUshr x0 1) 1431655765)) 2) 858993459)) 4)) 252645135) 8)) 16)))]) rfl (by decide) dJ6_bitCount_0f7a4_47 ?_
  refine sb_iload_n (pc' := 49) rfl rfl dJ6_bitCount_0f7a4_48 ?_
  refine sb_bipush (pc' := 51) rfl (z := 63) (by decide) dJ6_bitCount_0f7a4_49 ?_
  refine sb_iand (pc' := 52) rfl dJ6_bitCount_0f7a4_51 ?_
  exact sb_iret rfl rfl dJ6_bitCount_0f7a4_52 (H (iR_b _) hS)
theorem bJ9_abs_0f7a4_0 {g : AG} {ad : Nat → Nat} {d : Nat} {Q : AO → SG → Prop} {rc rs : Nat} {σ : SG} {x0 : Int}  (hx0 : iR x0) (hS : SR σ) (H : ((0 ≤ x0 → (iR x0 → SR σ → Q (.inl (some (vi x0))) σ)) ∧ (¬ 0 ≤ x0 → iR (-x0) ∧ (iR (-x0) → SR σ → Q (.inl (some (vi (-x0)))) σ)))) : Wb g ad d mJ9_abs_0f7a4 Q 0 [some (vi x0)] [] σ rc rs := by
  refine sb_iload_n (pc' := 1) rfl rfl dJ9_abs_0f7a4_0 ?_
  refine sb_if_ge (pc' := 4) (tgt := 9) rfl (by decide) hx0 dJ9_abs_0f7a4_1 ?_ ?_
  · intro cc; have H := H.1 cc
    refine sb_iload_n (pc' := 10) rfl rfl dJ9_abs_0f7a4_9 ?_
    exact sb_iret rfl rfl dJ9_abs_0f7a4_10 (H hx0 hS)
  · intro cc; have H := H.2 cc
    refine sb_iload_n (pc' := 5) rfl rfl dJ9_abs_0f7a4_4 ?_
    refine sb_ineg (pc' := 6) rfl dJ9_abs_0f7a4_5 ?_
    refine sb_goto (tgt := 10) (by decide) dJ9_abs_0f7a4_6 ?_
    obtain ⟨o1, H⟩ := H
    exact sb_iret rfl rfl dJ9_abs_0f7a4_10 (H o1 hS)
theorem bJ9_max_7cf53_0 {g : AG} {ad : Nat → Nat} {d : Nat} {Q : AO → SG → Prop} {rc rs : Nat} {σ : SG} {x0 x1 : Int}  (hx0 : iR x0) (hx1 : iR x1) (hS : SR σ) (H : ((x0 < x1 → (iR x1 → SR σ → Q (.inl (some (vi x1))) σ)) ∧ (¬ x0 < x1 → (iR x0 → SR σ → Q (.inl (some (vi x0))) σ)))) : Wb g ad d mJ9_max_7cf53 Q 0 [some (vi x0), some (vi x1)] [] σ rc rs := by
  refine sb_iload_n (pc' := 1) rfl rfl dJ9_max_7cf53_0 ?_
  refine sb_iload_n (pc' := 2) rfl rfl dJ9_max_7cf53_1 ?_
  refine sb_icmp_lt (pc' := 5) (tgt := 9) rfl (by decide) hx0 hx1 dJ9_max_7cf53_2 ?_ ?_
  · intro cc; have H := H.1 cc
    refine sb_iload_n (pc' := 10) rfl rfl dJ9_max_7cf53_9 ?_
    exact sb_iret rfl rfl dJ9_max_7cf53_10 (H hx1 hS)
  · intro cc; have H := H.2 cc
    refine sb_iload_n (pc' := 6) rfl rfl dJ9_max_7cf53_5 ?_
    refine sb_goto (tgt := 10) (by decide) dJ9_max_7cf53_6 ?_
    exact sb_iret rfl rfl dJ9_max_7cf53_10 (H hx0 hS)
theorem bJ9_min_7cf53_0 {g : AG} {ad : Nat → Nat} {d : Nat} {Q : AO → SG → Prop} {rc rs : Nat} {σ : SG} {x0 x1 : Int}  (hx0 : iR x0) (hx1 : iR x1) (hS : SR σ) (H : ((x1 < x0 → (iR x1 → SR σ → Q (.inl (some (vi x1))) σ)) ∧ (¬ x1 < x0 → (iR x0 → SR σ → Q (.inl (some (vi x0))) σ)))) : Wb g ad d mJ9_min_7cf53 Q 0 [some (vi x0), some (vi x1)] [] σ rc rs := by
  refine sb_iload_n (pc' := 1) rfl rfl dJ9_min_7cf53_0 ?_
  refine sb_iload_n (pc' := 2) rfl rfl dJ9_min_7cf53_1 ?_
  refine sb_icmp_gt (pc' := 5) (tgt := 9) rfl (by decide) hx0 hx1 dJ9_min_7cf53_2 ?_ ?_
  · intro cc; have H := H.1 cc
    refine sb_iload_n (pc' := 10) rfl rfl dJ9_min_7cf53_9 ?_
    exact sb_iret rfl rfl dJ9_min_7cf53_10 (H hx1 hS)
  · intro cc; have H := H.2 cc
    refine sb_iload_n (pc' := 6) rfl rfl dJ9_min_7cf53_5 ?_
    refine sb_goto (tgt := 10) (by decide) dJ9_min_7cf53_6 ?_
    exact sb_iret rfl rfl dJ9_min_7cf53_10 (H hx0 hS)
theorem bJ7_fill_53178_0 {g : AG} {ad : Nat → Nat} {d : Nat} {Q : AO → SG → Prop} {rc rs : Nat} {σ : SG} {x1 : Int} {c0 n0 : Nat} (hc0 : aI c0 n0) (hx1 : iR x1) (hS : SR σ) (H : iR (((n0 : Nat) : Int)) ∧ (iR x1 → iR 0 → iR (((n0 : Nat) : Int)) → SR σ → Wb g ad d mJ7_fill_53178 Q 5 [some (.ref (ad c0)), some (vi x1), some (vi 0), some (vi (((n0 : Nat) : Int)))] [] σ rc rs)) : Wb g ad d mJ7_fill_53178 Q 0 [some (.ref (ad c0)), some (vi x1), none, none] [] σ rc rs := by
  refine sb_iconst (pc' := 1) rfl dJ7_fill_53178_0 ?_
  refine sb_istore_n (pc' := 2) rfl (L' := [some (.ref (ad c0)), some (vi x1), some (vi 0), none]) rfl (by decide) dJ7_fill_53178_1 ?_
  refine sb_aload_n (pc' := 3) rfl rfl dJ7_fill_53178_2 ?_
  refine sb_alen (pc' := 4) rfl (z := (n0 : Nat)) (Or.inl rfl) hc0.1 rfl dJ7_fill_53178_3 ?_
  refine sb_istore_n (pc' := 5) rfl (L' := [some (.ref (ad c0)), some (vi x1), some (vi 0), some (vi (((n0 : Nat) : Int)))]) rfl (by decide) dJ7_fill_53178_4 ?_
  obtain ⟨o1, H⟩ := H
  exact (H hx1 (iR_lit rfl) o1 hS)
theorem bJ7_fill_53178_5 {g : AG} {ad : Nat → Nat} {d : Nat} {Q : AO → SG → Prop} {rc rs : Nat} {σ : SG} {x1 x2 x3 : Int} {c0 n0 : Nat} (hc0 : aI c0 n0) (hx1 : iR x1) (hx2 : iR x2) (hx3 : iR x3) (hS : SR σ) (H : ((x3 ≤ x2 → (SR σ → Q (.inl none) σ)) ∧ (¬ x3 ≤ x2 → (0 ≤ x2 ∧ x2 < n0) ∧ iR (x2 + 1) ∧ (iR x1 → iR (x2 + 1) → iR x3 → SR (setI σ c0 x2 x1) → Wb g ad d mJ7_fill_53178 Q 5 [some (.ref (ad c0)), some (vi x1), some (vi (x2 + 1)), some (vi x3)] [] (setI σ c0 x2 x1) rc rs)))) : Wb g ad d mJ7_fill_53178 Q 5 [some (.ref (ad c0)), some (vi x1), some (vi x2), some (vi x3)] [] σ rc rs := by
  refine sb_iload_n (pc' := 6) rfl rfl dJ7_fill_53178_5 ?_
  refine sb_iload_n (pc' := 7) rfl rfl dJ7_fill_53178_6 ?_
  refine sb_icmp_ge (pc' := 10) (tgt := 20) rfl (by decide) hx2 hx3 dJ7_fill_53178_7 ?_ ?_
  · intro cc; have H := H.1 cc
    exact sb_vret rfl dJ7_fill_53178_20 (H hS)
  · intro cc; have H := H.2 cc
    refine sb_aload_n (pc' := 11) rfl rfl dJ7_fill_53178_10 ?_
    refine sb_iload_n (pc' := 12) rfl rfl dJ7_fill_53178_11 ?_
    refine sb_iload_n (pc' := 13) rfl rfl dJ7_fill_53178_12 ?_
    obtain ⟨o1, H⟩ := H
    refine sb_iast (pc' := 14) rfl hc0 o1.1 o1.2  dJ7_fill_53178_13 ?_
    refine sb_iinc (pc' := 17) rfl rfl (L' := [some (.ref (ad c0)), some (vi x1), some (vi (x2 + 1)), some (vi x3)]) rfl (by decide) dJ7_fill_53178_14 ?_
    refine sb_goto (tgt := 5) (by decide) dJ7_fill_53178_17 ?_
    obtain ⟨o2, H⟩ := H
    exact (H hx1 o2 hx3 (SR_setI hS hx1))
end BL

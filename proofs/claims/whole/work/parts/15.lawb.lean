section LW
theorem wc_1088 : Jvm.Cond.castable "java/lang/IllegalArgumentException" "java/lang/IllegalArgumentException" ∈ lw_tbl := List.mem_of_getElem? (i := 1088) (by decide +kernel)
theorem wc_1233 : Jvm.Cond.castable "java/lang/UnsupportedOperationException" "java/lang/UnsupportedOperationException" ∈ lw_tbl := List.mem_of_getElem? (i := 1233) (by decide +kernel)
theorem wc_1261 : Jvm.Cond.castable "java/lang/IndexOutOfBoundsException" "java/lang/IndexOutOfBoundsException" ∈ lw_tbl := List.mem_of_getElem? (i := 1261) (by decide +kernel)
theorem wc_1294 : Jvm.Cond.castable "java/util/NoSuchElementException" "java/util/NoSuchElementException" ∈ lw_tbl := List.mem_of_getElem? (i := 1294) (by decide +kernel)
theorem kHL_book : ae_mH mL_book 2 := ⟨rfl, wd_997, rfl, wd_164, ⟨by decide +kernel, by decide +kernel, by decide +kernel⟩, by decide⟩
theorem cat_L_book_0 : ae_cat mL_book 3 "java/lang/IllegalArgumentException" 11 := ⟨[], ⟨0, 8, 11, 13⟩, [], "java/lang/IllegalArgumentException", rfl, (fun z hz => absurd hz List.not_mem_nil), rfl, by decide, wd_998, wc_1088, rfl⟩
theorem bL_book_0 {g : AG} {ad : Nat → Nat} {d : Nat} {Q : AO → SG → Prop} {rc rs : Nat} {σ : SG}    (hS : SR σ) (H : Cl g ad d mX10_book 1 6 [(.ref (ad 0))] σ (Kx (Ki fun r1 s1 => (iR 0 → SR (setL s1 131 0 r1) → Q (.inl (some (vi 0))) (setL s1 131 0 r1))) (fun E s1 => (E = "java/lang/IllegalArgumentException" ∧ (iR 1 → SR s1 → Q (.inl (some (vi 1))) s1))))) : Wb g ad d mL_book Q 0 [some (.ref (ad 0)), some (.ref (ad 131)), none] [] σ (rc + 1) (rs + 6) := by
  refine sb_aload_n (pc' := 1) rfl rfl dL_book_0 ?_
  refine sb_iconst (pc' := 2) rfl dL_book_1 ?_
  refine sb_aload_n (pc' := 3) rfl rfl dL_book_2 ?_
  obtain ⟨d1, hd1, H⟩ := H
  refine sb_callVH (pc' := 6) rfl (rc := rc) (rs := rs) (mc' := 1) (ms' := 6) (As := []) (st := [(vi 0), (.ref (ad 131))]) of_0 rfl rfl (Nat.le_of_ble_eq_true rfl) hd1 kX10_book ⟨wd_999, wd_1000, wd_1001⟩ dL_book_3 (Eb.mono H ?_)
  rintro o s1 (⟨r1, rfl, hr1, hs1, H⟩ | ⟨E, rfl, hs1, H⟩)
  case inr =>
    refine Or.inr ?_
    rcases H with ⟨rfl, H⟩
    · refine ⟨_, 11, rfl, cat_L_book_0, fun q9 => ?_⟩
      refine sb_astore_n (pc' := 12) rfl (L' := [some (.ref (ad 0)), some (.ref (ad 131)), some (.ref q9)]) rfl (by decide) dL_book_11 ?_
      refine Wb.forget [true, true, false] ?_
      show Wb g ad d mL_book Q 12 [some (.ref (ad 0)), some (.ref (ad 131)), none] [] s1 rc rs
      refine sb_iconst (pc' := 13) rfl dL_book_12 ?_
      exact sb_iret rfl rfl dL_book_13 (H (iR_lit rfl) hs1)
  refine Or.inl ⟨_, rfl, ?_⟩
  show Wb g ad d mL_book Q 6 [some (.ref (ad 0)), some (.ref (ad 131)), none] [(vi r1), (vi 0), (.ref (ad 131))] s1 rc rs
  refine sb_i2l (pc' := 7) rfl hr1 dL_book_6 ?_
  refine sb_last (pc' := 8) rfl aL_131 (by decide) (by decide)  dL_book_7 ?_
  refine sb_goto (tgt := 14) (by decide) dL_book_8 ?_
  refine sb_iconst (pc' := 15) rfl dL_book_14 ?_
  exact sb_iret rfl rfl dL_book_15 (H (iR_lit rfl) (SR_setL hs1 hr1.l))
theorem kHL_fluency : ae_mH mL_fluency 2 := ⟨rfl, wd_1161, rfl, wd_164, ⟨by decide +kernel, by decide +kernel, by decide +kernel⟩, by decide⟩
theorem cat_L_fluency_0 : ae_cat mL_fluency 3 "java/lang/IllegalArgumentException" 11 := ⟨[], ⟨0, 8, 11, 13⟩, [], "java/lang/IllegalArgumentException", rfl, (fun z hz => absurd hz List.not_mem_nil), rfl, by decide, wd_998, wc_1088, rfl⟩
theorem bL_fluency_0 {g : AG} {ad : Nat → Nat} {d : Nat} {Q : AO → SG → Prop} {rc rs : Nat} {σ : SG}    (hS : SR σ) (H : Cl g ad d mX10_fluency 1 6 [(.ref (ad 0))] σ (Kx (Ki fun r1 s1 => (iR 0 → SR (setL s1 131 0 r1) → Q (.inl (some (vi 0))) (setL s1 131 0 r1))) (fun E s1 => (E = "java/lang/IllegalArgumentException" ∧ (iR 1 → SR s1 → Q (.inl (some (vi 1))) s1))))) : Wb g ad d mL_fluency Q 0 [some (.ref (ad 0)), some (.ref (ad 131)), none] [] σ (rc + 1) (rs + 6) := by
  refine sb_aload_n (pc' := 1) rfl rfl dL_fluency_0 ?_
  refine sb_iconst (pc' := 2) rfl dL_fluency_1 ?_
  refine sb_aload_n (pc' := 3) rfl rfl dL_fluency_2 ?_
  obtain ⟨d1, hd1, H⟩ := H
  refine sb_callVH (pc' := 6) rfl (rc := rc) (rs := rs) (mc' := 1) (ms' := 6) (As := []) (st := [(vi 0), (.ref (ad 131))]) of_0 rfl rfl (Nat.le_of_ble_eq_true rfl) hd1 kX10_fluency ⟨wd_1162, wd_1163, wd_1164⟩ dL_fluency_3 (Eb.mono H ?_)
  rintro o s1 (⟨r1, rfl, hr1, hs1, H⟩ | ⟨E, rfl, hs1, H⟩)
  case inr =>
    refine Or.inr ?_
    rcases H with ⟨rfl, H⟩
    · refine ⟨_, 11, rfl, cat_L_fluency_0, fun q9 => ?_⟩
      refine sb_astore_n (pc' := 12) rfl (L' := [some (.ref (ad 0)), some (.ref (ad 131)), some (.ref q9)]) rfl (by decide) dL_fluency_11 ?_
      refine Wb.forget [true, true, false] ?_
      show Wb g ad d mL_fluency Q 12 [some (.ref (ad 0)), some (.ref (ad 131)), none] [] s1 rc rs
      refine sb_iconst (pc' := 13) rfl dL_fluency_12 ?_
      exact sb_iret rfl rfl dL_fluency_13 (H (iR_lit rfl) hs1)
  refine Or.inl ⟨_, rfl, ?_⟩
  show Wb g ad d mL_fluency Q 6 [some (.ref (ad 0)), some (.ref (ad 131)), none] [(vi r1), (vi 0), (.ref (ad 131))] s1 rc rs
  refine sb_i2l (pc' := 7) rfl hr1 dL_fluency_6 ?_
  refine sb_last (pc' := 8) rfl aL_131 (by decide) (by decide)  dL_fluency_7 ?_
  refine sb_goto (tgt := 14) (by decide) dL_fluency_8 ?_
  refine sb_iconst (pc' := 15) rfl dL_fluency_14 ?_
  exact sb_iret rfl rfl dL_fluency_15 (H (iR_lit rfl) (SR_setL hs1 hr1.l))
theorem kHL_sentence : ae_mH mL_sentence 2 := ⟨rfl, wd_1180, rfl, wd_164, ⟨by decide +kernel, by decide +kernel, by decide +kernel⟩, by decide⟩
theorem cat_L_sentence_0 : ae_cat mL_sentence 3 "java/lang/IllegalArgumentException" 11 := ⟨[], ⟨0, 8, 11, 13⟩, [], "java/lang/IllegalArgumentException", rfl, (fun z hz => absurd hz List.not_mem_nil), rfl, by decide, wd_998, wc_1088, rfl⟩
theorem bL_sentence_0 {g : AG} {ad : Nat → Nat} {d : Nat} {Q : AO → SG → Prop} {rc rs : Nat} {σ : SG}    (hS : SR σ) (H : Cl g ad d mX10_sentence 1 6 [(.ref (ad 0))] σ (Kx (Ki fun r1 s1 => (iR 0 → SR (setL s1 131 0 r1) → Q (.inl (some (vi 0))) (setL s1 131 0 r1))) (fun E s1 => (E = "java/lang/IllegalArgumentException" ∧ (iR 1 → SR s1 → Q (.inl (some (vi 1))) s1))))) : Wb g ad d mL_sentence Q 0 [some (.ref (ad 0)), some (.ref (ad 131)), none] [] σ (rc + 1) (rs + 6) := by
  refine sb_aload_n (pc' := 1) rfl rfl dL_sentence_0 ?_
  refine sb_iconst (pc' := 2) rfl dL_sentence_1 ?_
  refine sb_aload_n (pc' := 3) rfl rfl dL_sentence_2 ?_
  obtain ⟨d1, hd1, H⟩ := H
  refine sb_callVH (pc' := 6) rfl (rc := rc) (rs := rs) (mc' := 1) (ms' := 6) (As := []) (st := [(vi 0), (.ref (ad 131))]) of_0 rfl rfl (Nat.le_of_ble_eq_true rfl) hd1 kX10_sentence ⟨wd_1181, wd_1182, wd_1183⟩ dL_sentence_3 (Eb.mono H ?_)
  rintro o s1 (⟨r1, rfl, hr1, hs1, H⟩ | ⟨E, rfl, hs1, H⟩)
  case inr =>
    refine Or.inr ?_
    rcases H with ⟨rfl, H⟩
    · refine ⟨_, 11, rfl, cat_L_sentence_0, fun q9 => ?_⟩
      refine sb_astore_n (pc' := 12) rfl (L' := [some (.ref (ad 0)), some (.ref (ad 131)), some (.ref q9)]) rfl (by decide) dL_sentence_11 ?_
      refine Wb.forget [true, true, false] ?_
      show Wb g ad d mL_sentence Q 12 [some (.ref (ad 0)), some (.ref (ad 131)), none] [] s1 rc rs
      refine sb_iconst (pc' := 13) rfl dL_sentence_12 ?_
      exact sb_iret rfl rfl dL_sentence_13 (H (iR_lit rfl) hs1)
  refine Or.inl ⟨_, rfl, ?_⟩
  show Wb g ad d mL_sentence Q 6 [some (.ref (ad 0)), some (.ref (ad 131)), none] [(vi r1), (vi 0), (.ref (ad 131))] s1 rc rs
  refine sb_i2l (pc' := 7) rfl hr1 dL_sentence_6 ?_
  refine sb_last (pc' := 8) rfl aL_131 (by decide) (by decide)  dL_sentence_7 ?_
  refine sb_goto (tgt := 14) (by decide) dL_sentence_8 ?_
  refine sb_iconst (pc' := 15) rfl dL_sentence_14 ?_
  exact sb_iret rfl rfl dL_sentence_15 (H (iR_lit rfl) (SR_setL hs1 hr1.l))
theorem kHL_learn : ae_mH mL_learn 2 := ⟨rfl, wd_1195, rfl, wd_164, ⟨by decide +kernel, by decide +kernel, by decide +kernel⟩, by decide⟩
theorem cat_L_learn_0 : ae_cat mL_learn 3 "java/lang/IllegalArgumentException" 11 := ⟨[], ⟨0, 8, 11, 13⟩, [⟨0, 8, 14, 24⟩], "java/lang/IllegalArgumentException", rfl, (fun z hz => absurd hz List.not_mem_nil), rfl, by decide, wd_998, wc_1088, rfl⟩
theorem cat_L_learn_1 : ae_cat mL_learn 3 "java/lang/UnsupportedOperationException" 14 := ⟨[⟨0, 8, 11, 13⟩], ⟨0, 8, 14, 24⟩, [], "java/lang/UnsupportedOperationException", rfl, (fun z hz => by rw [List.mem_singleton.mp hz]; exact Or.inr ⟨by decide, "java/lang/IllegalArgumentException", wd_998, by decide⟩), rfl, by decide, wd_1196, wc_1233, rfl⟩
theorem bL_learn_0 {g : AG} {ad : Nat → Nat} {d : Nat} {Q : AO → SG → Prop} {rc rs : Nat} {σ : SG}    (hS : SR σ) (H : Cl g ad d mX10_learn 2 12 [(.ref (ad 0))] σ (Kx (Ki fun r1 s1 => (iR 0 → SR (setL s1 131 0 r1) → Q (.inl (some (vi 0))) (setL s1 131 0 r1))) (fun E s1 => (E = "java/lang/IllegalArgumentException" ∧ (iR 1 → SR s1 → Q (.inl (some (vi 1))) s1)) ∨ (E = "java/lang/UnsupportedOperationException" ∧ (iR 2 → SR s1 → Q (.inl (some (vi 2))) s1))))) : Wb g ad d mL_learn Q 0 [some (.ref (ad 0)), some (.ref (ad 131)), none] [] σ (rc + 2) (rs + 12) := by
  refine sb_aload_n (pc' := 1) rfl rfl dL_learn_0 ?_
  refine sb_iconst (pc' := 2) rfl dL_learn_1 ?_
  refine sb_aload_n (pc' := 3) rfl rfl dL_learn_2 ?_
  obtain ⟨d1, hd1, H⟩ := H
  refine sb_callVH (pc' := 6) rfl (rc := rc) (rs := rs) (mc' := 2) (ms' := 12) (As := []) (st := [(vi 0), (.ref (ad 131))]) of_0 rfl rfl (Nat.le_of_ble_eq_true rfl) hd1 kX10_learn ⟨wd_1197, wd_1198, wd_1199⟩ dL_learn_3 (Eb.mono H ?_)
  rintro o s1 (⟨r1, rfl, hr1, hs1, H⟩ | ⟨E, rfl, hs1, H⟩)
  case inr =>
    refine Or.inr ?_
    rcases H with ⟨rfl, H⟩ | ⟨rfl, H⟩
    · refine ⟨_, 11, rfl, cat_L_learn_0, fun q9 => ?_⟩
      refine sb_astore_n (pc' := 12) rfl (L' := [some (.ref (ad 0)), some (.ref (ad 131)), some (.ref q9)]) rfl (by decide) dL_learn_11 ?_
      refine Wb.forget [true, true, false] ?_
      show Wb g ad d mL_learn Q 12 [some (.ref (ad 0)), some (.ref (ad 131)), none] [] s1 rc rs
      refine sb_iconst (pc' := 13) rfl dL_learn_12 ?_
      exact sb_iret rfl rfl dL_learn_13 (H (iR_lit rfl) hs1)
    · refine ⟨_, 14, rfl, cat_L_learn_1, fun q9 => ?_⟩
      refine sb_astore_n (pc' := 15) rfl (L' := [some (.ref (ad 0)), some (.ref (ad 131)), some (.ref q9)]) rfl (by decide) dL_learn_14 ?_
      refine Wb.forget [true, true, false] ?_
      show Wb g ad d mL_learn Q 15 [some (.ref (ad 0)), some (.ref (ad 131)), none] [] s1 rc rs
      refine sb_iconst (pc' := 16) rfl dL_learn_15 ?_
      exact sb_iret rfl rfl dL_learn_16 (H (iR_lit rfl) hs1)
  refine Or.inl ⟨_, rfl, ?_⟩
  show Wb g ad d mL_learn Q 6 [some (.ref (ad 0)), some (.ref (ad 131)), none] [(vi r1), (vi 0), (.ref (ad 131))] s1 rc rs
  refine sb_i2l (pc' := 7) rfl hr1 dL_learn_6 ?_
  refine sb_last (pc' := 8) rfl aL_131 (by decide) (by decide)  dL_learn_7 ?_
  refine sb_goto (tgt := 17) (by decide) dL_learn_8 ?_
  refine sb_iconst (pc' := 18) rfl dL_learn_17 ?_
  exact sb_iret rfl rfl dL_learn_18 (H (iR_lit rfl) (SR_setL hs1 hr1.l))
theorem kHL_letter : ae_mH mL_letter 4 := ⟨rfl, wd_1249, rfl, wd_164, ⟨by decide +kernel, by decide +kernel, by decide +kernel⟩, by decide⟩
theorem cat_L_letter_0 : ae_cat mL_letter 5 "java/lang/IndexOutOfBoundsException" 13 := ⟨[], ⟨0, 10, 13, 30⟩, [], "java/lang/IndexOutOfBoundsException", rfl, (fun z hz => absurd hz List.not_mem_nil), rfl, by decide, wd_1250, wc_1261, rfl⟩
theorem bL_letter_0 {g : AG} {ad : Nat → Nat} {d : Nat} {Q : AO → SG → Prop} {rc rs : Nat} {σ : SG} {x1 x2 : Int}  (hx1 : iR x1) (hx2 : iR x2) (hS : SR σ) (H : Cl g ad d mX10_letter 1 6 [(.ref (ad 0)), (vi x1), (vi x2)] σ (Kx (Ki fun r1 s1 => (iR 0 → SR (setL s1 131 0 r1) → Q (.inl (some (vi 0))) (setL s1 131 0 r1))) (fun E s1 => (E = "java/lang/IndexOutOfBoundsException" ∧ (iR 1 → SR s1 → Q (.inl (some (vi 1))) s1))))) : Wb g ad d mL_letter Q 0 [some (.ref (ad 0)), some (vi x1), some (vi x2), some (.ref (ad 131)), none] [] σ (rc + 1) (rs + 6) := by
  refine sb_aload_n (pc' := 1) rfl rfl dL_letter_0 ?_
  refine sb_iconst (pc' := 2) rfl dL_letter_1 ?_
  refine sb_aload_n (pc' := 3) rfl rfl dL_letter_2 ?_
  refine sb_iload_n (pc' := 4) rfl rfl dL_letter_3 ?_
  refine sb_iload_n (pc' := 5) rfl rfl dL_letter_4 ?_
  obtain ⟨d1, hd1, H⟩ := H
  refine sb_callVH (pc' := 8) rfl (rc := rc) (rs := rs) (mc' := 1) (ms' := 6) (As := [(vi x1), (vi x2)]) (st := [(vi 0), (.ref (ad 131))]) of_0 rfl rfl (Nat.le_of_ble_eq_true rfl) hd1 kX10_letter ⟨wd_1251, wd_1252, wd_1253⟩ dL_letter_5 (Eb.mono H ?_)
  rintro o s1 (⟨r1, rfl, hr1, hs1, H⟩ | ⟨E, rfl, hs1, H⟩)
  case inr =>
    refine Or.inr ?_
    rcases H with ⟨rfl, H⟩
    · refine ⟨_, 13, rfl, cat_L_letter_0, fun q9 => ?_⟩
      refine sb_astore (pc' := 15) rfl (L' := [some (.ref (ad 0)), some (vi x1), some (vi x2), some (.ref (ad 131)), some (.ref q9)]) rfl (by decide) dL_letter_13 ?_
      refine Wb.forget [true, true, true, true, false] ?_
      show Wb g ad d mL_letter Q 15 [some (.ref (ad 0)), some (vi x1), some (vi x2), some (.ref (ad 131)), none] [] s1 rc rs
      refine sb_iconst (pc' := 16) rfl dL_letter_15 ?_
      exact sb_iret rfl rfl dL_letter_16 (H (iR_lit rfl) hs1)
  refine Or.inl ⟨_, rfl, ?_⟩
  show Wb g ad d mL_letter Q 8 [some (.ref (ad 0)), some (vi x1), some (vi x2), some (.ref (ad 131)), none] [(vi r1), (vi 0), (.ref (ad 131))] s1 rc rs
  refine sb_i2l (pc' := 9) rfl hr1 dL_letter_8 ?_
  refine sb_last (pc' := 10) rfl aL_131 (by decide) (by decide)  dL_letter_9 ?_
  refine sb_goto (tgt := 17) (by decide) dL_letter_10 ?_
  refine sb_iconst (pc' := 18) rfl dL_letter_17 ?_
  exact sb_iret rfl rfl dL_letter_18 (H (iR_lit rfl) (SR_setL hs1 hr1.l))
theorem kHL_phrase : ae_mH mL_phrase 4 := ⟨rfl, wd_1277, rfl, wd_164, ⟨by decide +kernel, by decide +kernel, by decide +kernel⟩, by decide⟩
theorem cat_L_phrase_0 : ae_cat mL_phrase 5 "java/lang/IndexOutOfBoundsException" 13 := ⟨[], ⟨0, 10, 13, 30⟩, [⟨0, 10, 17, 35⟩], "java/lang/IndexOutOfBoundsException", rfl, (fun z hz => absurd hz List.not_mem_nil), rfl, by decide, wd_1250, wc_1261, rfl⟩
theorem cat_L_phrase_1 : ae_cat mL_phrase 5 "java/util/NoSuchElementException" 17 := ⟨[⟨0, 10, 13, 30⟩], ⟨0, 10, 17, 35⟩, [], "java/util/NoSuchElementException", rfl, (fun z hz => by rw [List.mem_singleton.mp hz]; exact Or.inr ⟨by decide, "java/lang/IndexOutOfBoundsException", wd_1250, by decide⟩), rfl, by decide, wd_1278, wc_1294, rfl⟩
theorem bL_phrase_0 {g : AG} {ad : Nat → Nat} {d : Nat} {Q : AO → SG → Prop} {rc rs : Nat} {σ : SG} {x1 x2 : Int}  (hx1 : iR x1) (hx2 : iR x2) (hS : SR σ) (H : Cl g ad d mX10_phrase 2 12 [(.ref (ad 0)), (vi x1), (vi x2)] σ (Kx (Ki fun r1 s1 => (iR 0 → SR (setL s1 131 0 r1) → Q (.inl (some (vi 0))) (setL s1 131 0 r1))) (fun E s1 => (E = "java/lang/IndexOutOfBoundsException" ∧ (iR 1 → SR s1 → Q (.inl (some (vi 1))) s1)) ∨ (E = "java/util/NoSuchElementException" ∧ (iR 2 → SR s1 → Q (.inl (some (vi 2))) s1))))) : Wb g ad d mL_phrase Q 0 [some (.ref (ad 0)), some (vi x1), some (vi x2), some (.ref (ad 131)), none] [] σ (rc + 2) (rs + 12) := by
  refine sb_aload_n (pc' := 1) rfl rfl dL_phrase_0 ?_
  refine sb_iconst (pc' := 2) rfl dL_phrase_1 ?_
  refine sb_aload_n (pc' := 3) rfl rfl dL_phrase_2 ?_
  refine sb_iload_n (pc' := 4) rfl rfl dL_phrase_3 ?_
  refine sb_iload_n (pc' := 5) rfl rfl dL_phrase_4 ?_
  obtain ⟨d1, hd1, H⟩ := H
  refine sb_callVH (pc' := 8) rfl (rc := rc) (rs := rs) (mc' := 2) (ms' := 12) (As := [(vi x1), (vi x2)]) (st := [(vi 0), (.ref (ad 131))]) of_0 rfl rfl (Nat.le_of_ble_eq_true rfl) hd1 kX10_phrase ⟨wd_1279, wd_1280, wd_1281⟩ dL_phrase_5 (Eb.mono H ?_)
  rintro o s1 (⟨r1, rfl, hr1, hs1, H⟩ | ⟨E, rfl, hs1, H⟩)
  case inr =>
    refine Or.inr ?_
    rcases H with ⟨rfl, H⟩ | ⟨rfl, H⟩
    · refine ⟨_, 13, rfl, cat_L_phrase_0, fun q9 => ?_⟩
      refine sb_astore (pc' := 15) rfl (L' := [some (.ref (ad 0)), some (vi x1), some (vi x2), some (.ref (ad 131)), some (.ref q9)]) rfl (by decide) dL_phrase_13 ?_
      refine Wb.forget [true, true, true, true, false] ?_
      show Wb g ad d mL_phrase Q 15 [some (.ref (ad 0)), some (vi x1), some (vi x2), some (.ref (ad 131)), none] [] s1 rc rs
      refine sb_iconst (pc' := 16) rfl dL_phrase_15 ?_
      exact sb_iret rfl rfl dL_phrase_16 (H (iR_lit rfl) hs1)
    · refine ⟨_, 17, rfl, cat_L_phrase_1, fun q9 => ?_⟩
      refine sb_astore (pc' := 19) rfl (L' := [some (.ref (ad 0)), some (vi x1), some (vi x2), some (.ref (ad 131)), some (.ref q9)]) rfl (by decide) dL_phrase_17 ?_
      refine Wb.forget [true, true, true, true, false] ?_
      show Wb g ad d mL_phrase Q 19 [some (.ref (ad 0)), some (vi x1), some (vi x2), some (.ref (ad 131)), none] [] s1 rc rs
      refine sb_iconst (pc' := 20) rfl dL_phrase_19 ?_
      exact sb_iret rfl rfl dL_phrase_20 (H (iR_lit rfl) hs1)
  refine Or.inl ⟨_, rfl, ?_⟩
  show Wb g ad d mL_phrase Q 8 [some (.ref (ad 0)), some (vi x1), some (vi x2), some (.ref (ad 131)), none] [(vi r1), (vi 0), (.ref (ad 131))] s1 rc rs
  refine sb_i2l (pc' := 9) rfl hr1 dL_phrase_8 ?_
  refine sb_last (pc' := 10) rfl aL_131 (by decide) (by decide)  dL_phrase_9 ?_
  refine sb_goto (tgt := 21) (by decide) dL_phrase_10 ?_
  refine sb_iconst (pc' := 22) rfl dL_phrase_21 ?_
  exact sb_iret rfl rfl dL_phrase_22 (H (iR_lit rfl) (SR_setL hs1 hr1.l))
theorem kHL_part : ae_mH mL_part 5 := ⟨rfl, wd_1310, rfl, wd_164, ⟨by decide +kernel, by decide +kernel, by decide +kernel⟩, by decide⟩
theorem cat_L_part_0 : ae_cat mL_part 7 "java/lang/IndexOutOfBoundsException" 15 := ⟨[], ⟨0, 12, 15, 30⟩, [], "java/lang/IndexOutOfBoundsException", rfl, (fun z hz => absurd hz List.not_mem_nil), rfl, by decide, wd_1250, wc_1261, rfl⟩
theorem bL_part_0 {g : AG} {ad : Nat → Nat} {d : Nat} {Q : AO → SG → Prop} {rc rs : Nat} {σ : SG} {x1 x2 x3 : Int}  (hx1 : iR x1) (hx2 : iR x2) (hx3 : iR x3) (hS : SR σ) (H : Cl g ad d mX10_part 1 6 [(.ref (ad 0)), (vi x1), (vi x2), (vi x3)] σ (Kx (Ki fun r1 s1 => (iR 0 → SR (setL s1 131 0 r1) → Q (.inl (some (vi 0))) (setL s1 131 0 r1))) (fun E s1 => (E = "java/lang/IndexOutOfBoundsException" ∧ (iR 1 → SR s1 → Q (.inl (some (vi 1))) s1))))) : Wb g ad d mL_part Q 0 [some (.ref (ad 0)), some (vi x1), some (vi x2), some (vi x3), some (.ref (ad 131)), none] [] σ (rc + 1) (rs + 6) := by
  refine sb_aload (pc' := 2) rfl rfl dL_part_0 ?_
  refine sb_iconst (pc' := 3) rfl dL_part_2 ?_
  refine sb_aload_n (pc' := 4) rfl rfl dL_part_3 ?_
  refine sb_iload_n (pc' := 5) rfl rfl dL_part_4 ?_
  refine sb_iload_n (pc' := 6) rfl rfl dL_part_5 ?_
  refine sb_iload_n (pc' := 7) rfl rfl dL_part_6 ?_
  obtain ⟨d1, hd1, H⟩ := H
  refine sb_callVH (pc' := 10) rfl (rc := rc) (rs := rs) (mc' := 1) (ms' := 6) (As := [(vi x1), (vi x2), (vi x3)]) (st := [(vi 0), (.ref (ad 131))]) of_0 rfl rfl (Nat.le_of_ble_eq_true rfl) hd1 kX10_part ⟨wd_1311, wd_1312, wd_1313⟩ dL_part_7 (Eb.mono H ?_)
  rintro o s1 (⟨r1, rfl, hr1, hs1, H⟩ | ⟨E, rfl, hs1, H⟩)
  case inr =>
    refine Or.inr ?_
    rcases H with ⟨rfl, H⟩
    · refine ⟨_, 15, rfl, cat_L_part_0, fun q9 => ?_⟩
      refine sb_astore (pc' := 17) rfl (L' := [some (.ref (ad 0)), some (vi x1), some (vi x2), some (vi x3), some (.ref (ad 131)), some (.ref q9)]) rfl (by decide) dL_part_15 ?_
      refine Wb.forget [true, true, true, true, true, false] ?_
      show Wb g ad d mL_part Q 17 [some (.ref (ad 0)), some (vi x1), some (vi x2), some (vi x3), some (.ref (ad 131)), none] [] s1 rc rs
      refine sb_iconst (pc' := 18) rfl dL_part_17 ?_
      exact sb_iret rfl rfl dL_part_18 (H (iR_lit rfl) hs1)
  refine Or.inl ⟨_, rfl, ?_⟩
  show Wb g ad d mL_part Q 10 [some (.ref (ad 0)), some (vi x1), some (vi x2), some (vi x3), some (.ref (ad 131)), none] [(vi r1), (vi 0), (.ref (ad 131))] s1 rc rs
  refine sb_i2l (pc' := 11) rfl hr1 dL_part_10 ?_
  refine sb_last (pc' := 12) rfl aL_131 (by decide) (by decide)  dL_part_11 ?_
  refine sb_goto (tgt := 19) (by decide) dL_part_12 ?_
  refine sb_iconst (pc' := 20) rfl dL_part_19 ?_
  exact sb_iret rfl rfl dL_part_20 (H (iR_lit rfl) (SR_setL hs1 hr1.l))
theorem kHL_after : ae_mH mL_after 4 := ⟨rfl, wd_1317, rfl, wd_164, ⟨by decide +kernel, by decide +kernel, by decide +kernel⟩, by decide⟩
theorem cat_L_after_0 : ae_cat mL_after 5 "java/lang/IndexOutOfBoundsException" 13 := ⟨[], ⟨0, 10, 13, 30⟩, [], "java/lang/IndexOutOfBoundsException", rfl, (fun z hz => absurd hz List.not_mem_nil), rfl, by decide, wd_1250, wc_1261, rfl⟩
theorem bL_after_0 {g : AG} {ad : Nat → Nat} {d : Nat} {Q : AO → SG → Prop} {rc rs : Nat} {σ : SG} {x1 x2 : Int}  (hx1 : iR x1) (hx2 : iR x2) (hS : SR σ) (H : Cl g ad d mX10_after 2 12 [(.ref (ad 0)), (vi x1), (vi x2)] σ (Kx (Ki fun r1 s1 => (iR 0 → SR (setL s1 131 0 r1) → Q (.inl (some (vi 0))) (setL s1 131 0 r1))) (fun E s1 => (E = "java/lang/IndexOutOfBoundsException" ∧ (iR 1 → SR s1 → Q (.inl (some (vi 1))) s1))))) : Wb g ad d mL_after Q 0 [some (.ref (ad 0)), some (vi x1), some (vi x2), some (.ref (ad 131)), none] [] σ (rc + 2) (rs + 12) := by
  refine sb_aload_n (pc' := 1) rfl rfl dL_after_0 ?_
  refine sb_iconst (pc' := 2) rfl dL_after_1 ?_
  refine sb_aload_n (pc' := 3) rfl rfl dL_after_2 ?_
  refine sb_iload_n (pc' := 4) rfl rfl dL_after_3 ?_
  refine sb_iload_n (pc' := 5) rfl rfl dL_after_4 ?_
  obtain ⟨d1, hd1, H⟩ := H
  refine sb_callVH (pc' := 8) rfl (rc := rc) (rs := rs) (mc' := 2) (ms' := 12) (As := [(vi x1), (vi x2)]) (st := [(vi 0), (.ref (ad 131))]) of_0 rfl rfl (Nat.le_of_ble_eq_true rfl) hd1 kX10_after ⟨wd_1318, wd_1319, wd_1320⟩ dL_after_5 (Eb.mono H ?_)
  rintro o s1 (⟨r1, rfl, hr1, hs1, H⟩ | ⟨E, rfl, hs1, H⟩)
  case inr =>
    refine Or.inr ?_
    rcases H with ⟨rfl, H⟩
    · refine ⟨_, 13, rfl, cat_L_after_0, fun q9 => ?_⟩
      refine sb_astore (pc' := 15) rfl (L' := [some (.ref (ad 0)), some (vi x1), some (vi x2), some (.ref (ad 131)), some (.ref q9)]) rfl (by decide) dL_after_13 ?_
      refine Wb.forget [true, true, true, true, false] ?_
      show Wb g ad d mL_after Q 15 [some (.ref (ad 0)), some (vi x1), some (vi x2), some (.ref (ad 131)), none] [] s1 rc rs
      refine sb_iconst (pc' := 16) rfl dL_after_15 ?_
      exact sb_iret rfl rfl dL_after_16 (H (iR_lit rfl) hs1)
  refine Or.inl ⟨_, rfl, ?_⟩
  show Wb g ad d mL_after Q 8 [some (.ref (ad 0)), some (vi x1), some (vi x2), some (.ref (ad 131)), none] [(vi r1), (vi 0), (.ref (ad 131))] s1 rc rs
  refine sb_i2l (pc' := 9) rfl hr1 dL_after_8 ?_
  refine sb_last (pc' := 10) rfl aL_131 (by decide) (by decide)  dL_after_9 ?_
  refine sb_goto (tgt := 17) (by decide) dL_after_10 ?_
  refine sb_iconst (pc' := 18) rfl dL_after_17 ?_
  exact sb_iret rfl rfl dL_after_18 (H (iR_lit rfl) (SR_setL hs1 hr1.l))
theorem kHL_place : ae_mH mL_place 3 := ⟨rfl, wd_1325, rfl, wd_164, ⟨by decide +kernel, by decide +kernel, by decide +kernel⟩, by decide⟩
theorem cat_L_place_0 : ae_cat mL_place 4 "java/lang/IndexOutOfBoundsException" 12 := ⟨[], ⟨0, 9, 12, 30⟩, [], "java/lang/IndexOutOfBoundsException", rfl, (fun z hz => absurd hz List.not_mem_nil), rfl, by decide, wd_1250, wc_1261, rfl⟩
theorem bL_place_0 {g : AG} {ad : Nat → Nat} {d : Nat} {Q : AO → SG → Prop} {rc rs : Nat} {σ : SG} {x1 : Int}  (hx1 : iR x1) (hS : SR σ) (H : Cl g ad d mX10_place 1 6 [(.ref (ad 0)), (vi x1)] σ (Kx (Ki fun r1 s1 => (iR 0 → SR (setL s1 131 0 r1) → Q (.inl (some (vi 0))) (setL s1 131 0 r1))) (fun E s1 => (E = "java/lang/IndexOutOfBoundsException" ∧ (iR 1 → SR s1 → Q (.inl (some (vi 1))) s1))))) : Wb g ad d mL_place Q 0 [some (.ref (ad 0)), some (vi x1), some (.ref (ad 131)), none] [] σ (rc + 1) (rs + 6) := by
  refine sb_aload_n (pc' := 1) rfl rfl dL_place_0 ?_
  refine sb_iconst (pc' := 2) rfl dL_place_1 ?_
  refine sb_aload_n (pc' := 3) rfl rfl dL_place_2 ?_
  refine sb_iload_n (pc' := 4) rfl rfl dL_place_3 ?_
  obtain ⟨d1, hd1, H⟩ := H
  refine sb_callVH (pc' := 7) rfl (rc := rc) (rs := rs) (mc' := 1) (ms' := 6) (As := [(vi x1)]) (st := [(vi 0), (.ref (ad 131))]) of_0 rfl rfl (Nat.le_of_ble_eq_true rfl) hd1 kX10_place ⟨wd_1326, wd_1327, wd_1328⟩ dL_place_4 (Eb.mono H ?_)
  rintro o s1 (⟨r1, rfl, hr1, hs1, H⟩ | ⟨E, rfl, hs1, H⟩)
  case inr =>
    refine Or.inr ?_
    rcases H with ⟨rfl, H⟩
    · refine ⟨_, 12, rfl, cat_L_place_0, fun q9 => ?_⟩
      refine sb_astore_n (pc' := 13) rfl (L' := [some (.ref (ad 0)), some (vi x1), some (.ref (ad 131)), some (.ref q9)]) rfl (by decide) dL_place_12 ?_
      refine Wb.forget [true, true, true, false] ?_
      show Wb g ad d mL_place Q 13 [some (.ref (ad 0)), some (vi x1), some (.ref (ad 131)), none] [] s1 rc rs
      refine sb_iconst (pc' := 14) rfl dL_place_13 ?_
      exact sb_iret rfl rfl dL_place_14 (H (iR_lit rfl) hs1)
  refine Or.inl ⟨_, rfl, ?_⟩
  show Wb g ad d mL_place Q 7 [some (.ref (ad 0)), some (vi x1), some (.ref (ad 131)), none] [(vi r1), (vi 0), (.ref (ad 131))] s1 rc rs
  refine sb_i2l (pc' := 8) rfl hr1 dL_place_7 ?_
  refine sb_last (pc' := 9) rfl aL_131 (by decide) (by decide)  dL_place_8 ?_
  refine sb_goto (tgt := 15) (by decide) dL_place_9 ?_
  refine sb_iconst (pc' := 16) rfl dL_place_15 ?_
  exact sb_iret rfl rfl dL_place_16 (H (iR_lit rfl) (SR_setL hs1 hr1.l))
theorem kHL_put : ae_mH mL_put 4 := ⟨rfl, wd_1337, rfl, wd_164, ⟨by decide +kernel, by decide +kernel, by decide +kernel⟩, by decide⟩
theorem cat_L_put_0 : ae_cat mL_put 5 "java/lang/IndexOutOfBoundsException" 13 := ⟨[], ⟨0, 10, 13, 30⟩, [], "java/lang/IndexOutOfBoundsException", rfl, (fun z hz => absurd hz List.not_mem_nil), rfl, by decide, wd_1250, wc_1261, rfl⟩
theorem bL_put_0 {g : AG} {ad : Nat → Nat} {d : Nat} {Q : AO → SG → Prop} {rc rs : Nat} {σ : SG} {x1 x2 : Int}  (hx1 : iR x1) (hx2 : iR x2) (hS : SR σ) (H : Cl g ad d mX10_put 2 12 [(.ref (ad 0)), (vi x1), (vi x2)] σ (Kx (Ki fun r1 s1 => (iR 0 → SR (setL s1 131 0 r1) → Q (.inl (some (vi 0))) (setL s1 131 0 r1))) (fun E s1 => (E = "java/lang/IndexOutOfBoundsException" ∧ (iR 1 → SR s1 → Q (.inl (some (vi 1))) s1))))) : Wb g ad d mL_put Q 0 [some (.ref (ad 0)), some (vi x1), some (vi x2), some (.ref (ad 131)), none] [] σ (rc + 2) (rs + 12) := by
  refine sb_aload_n (pc' := 1) rfl rfl dL_put_0 ?_
  refine sb_iconst (pc' := 2) rfl dL_put_1 ?_
  refine sb_aload_n (pc' := 3) rfl rfl dL_put_2 ?_
  refine sb_iload_n (pc' := 4) rfl rfl dL_put_3 ?_
  refine sb_iload_n (pc' := 5) rfl rfl dL_put_4 ?_
  obtain ⟨d1, hd1, H⟩ := H
  refine sb_callVH (pc' := 8) rfl (rc := rc) (rs := rs) (mc' := 2) (ms' := 12) (As := [(vi x1), (vi x2)]) (st := [(vi 0), (.ref (ad 131))]) of_0 rfl rfl (Nat.le_of_ble_eq_true rfl) hd1 kX10_put ⟨wd_1338, wd_1339, wd_1340⟩ dL_put_5 (Eb.mono H ?_)
  rintro o s1 (⟨r1, rfl, hr1, hs1, H⟩ | ⟨E, rfl, hs1, H⟩)
  case inr =>
    refine Or.inr ?_
    rcases H with ⟨rfl, H⟩
    · refine ⟨_, 13, rfl, cat_L_put_0, fun q9 => ?_⟩
      refine sb_astore (pc' := 15) rfl (L' := [some (.ref (ad 0)), some (vi x1), some (vi x2), some (.ref (ad 131)), some (.ref q9)]) rfl (by decide) dL_put_13 ?_
      refine Wb.forget [true, true, true, true, false] ?_
      show Wb g ad d mL_put Q 15 [some (.ref (ad 0)), some (vi x1), some (vi x2), some (.ref (ad 131)), none] [] s1 rc rs
      refine sb_iconst (pc' := 16) rfl dL_put_15 ?_
      exact sb_iret rfl rfl dL_put_16 (H (iR_lit rfl) hs1)
  refine Or.inl ⟨_, rfl, ?_⟩
  show Wb g ad d mL_put Q 8 [some (.ref (ad 0)), some (vi x1), some (vi x2), some (.ref (ad 131)), none] [(vi r1), (vi 0), (.ref (ad 131))] s1 rc rs
  refine sb_i2l (pc' := 9) rfl hr1 dL_put_8 ?_
  refine sb_last (pc' := 10) rfl aL_131 (by decide) (by decide)  dL_put_9 ?_
  refine sb_goto (tgt := 17) (by decide) dL_put_10 ?_
  refine sb_iconst (pc' := 18) rfl dL_put_17 ?_
  exact sb_iret rfl rfl dL_put_18 (H (iR_lit rfl) (SR_setL hs1 hr1.l))
theorem kHL_price : ae_mH mL_price 4 := ⟨rfl, wd_1344, rfl, wd_164, ⟨by decide +kernel, by decide +kernel, by decide +kernel⟩, by decide⟩
theorem cat_L_price_0 : ae_cat mL_price 5 "java/lang/IndexOutOfBoundsException" 13 := ⟨[], ⟨0, 10, 13, 30⟩, [⟨0, 10, 17, 13⟩], "java/lang/IndexOutOfBoundsException", rfl, (fun z hz => absurd hz List.not_mem_nil), rfl, by decide, wd_1250, wc_1261, rfl⟩
theorem cat_L_price_1 : ae_cat mL_price 5 "java/lang/IllegalArgumentException" 17 := ⟨[⟨0, 10, 13, 30⟩], ⟨0, 10, 17, 13⟩, [], "java/lang/IllegalArgumentException", rfl, (fun z hz => by rw [List.mem_singleton.mp hz]; exact Or.inr ⟨by decide, "java/lang/IndexOutOfBoundsException", wd_1250, by decide⟩), rfl, by decide, wd_998, wc_1088, rfl⟩
theorem bL_price_0 {g : AG} {ad : Nat → Nat} {d : Nat} {Q : AO → SG → Prop} {rc rs : Nat} {σ : SG} {x1 x2 : Int}  (hx1 : iR x1) (hx2 : iR x2) (hS : SR σ) (H : Cl g ad d mX10_price 2 12 [(.ref (ad 0)), (vi x1), (vi x2)] σ (Kx (Ki fun r1 s1 => (iR 0 → SR (setL s1 131 0 r1) → Q (.inl (some (vi 0))) (setL s1 131 0 r1))) (fun E s1 => (E = "java/lang/IndexOutOfBoundsException" ∧ (iR 1 → SR s1 → Q (.inl (some (vi 1))) s1)) ∨ (E = "java/lang/IllegalArgumentException" ∧ (iR 2 → SR s1 → Q (.inl (some (vi 2))) s1))))) : Wb g ad d mL_price Q 0 [some (.ref (ad 0)), some (vi x1), some (vi x2), some (.ref (ad 131)), none] [] σ (rc + 2) (rs + 12) := by
  refine sb_aload_n (pc' := 1) rfl rfl dL_price_0 ?_
  refine sb_iconst (pc' := 2) rfl dL_price_1 ?_
  refine sb_aload_n (pc' := 3) rfl rfl dL_price_2 ?_
  refine sb_iload_n (pc' := 4) rfl rfl dL_price_3 ?_
  refine sb_iload_n (pc' := 5) rfl rfl dL_price_4 ?_
  obtain ⟨d1, hd1, H⟩ := H
  refine sb_callVH (pc' := 8) rfl (rc := rc) (rs := rs) (mc' := 2) (ms' := 12) (As := [(vi x1), (vi x2)]) (st := [(vi 0), (.ref (ad 131))]) of_0 rfl rfl (Nat.le_of_ble_eq_true rfl) hd1 kX10_price ⟨wd_1345, wd_1346, wd_1347⟩ dL_price_5 (Eb.mono H ?_)
  rintro o s1 (⟨r1, rfl, hr1, hs1, H⟩ | ⟨E, rfl, hs1, H⟩)
  case inr =>
    refine Or.inr ?_
    rcases H with ⟨rfl, H⟩ | ⟨rfl, H⟩
    · refine ⟨_, 13, rfl, cat_L_price_0, fun q9 => ?_⟩
      refine sb_astore (pc' := 15) rfl (L' := [some (.ref (ad 0)), some (vi x1), some (vi x2), some (.ref (ad 131)), some (.ref q9)]) rfl (by decide) dL_price_13 ?_
      refine Wb.forget [true, true, true, true, false] ?_
      show Wb g ad d mL_price Q 15 [some (.ref (ad 0)), some (vi x1), some (vi x2), some (.ref (ad 131)), none] [] s1 rc rs
      refine sb_iconst (pc' := 16) rfl dL_price_15 ?_
      exact sb_iret rfl rfl dL_price_16 (H (iR_lit rfl) hs1)
    · refine ⟨_, 17, rfl, cat_L_price_1, fun q9 => ?_⟩
      refine sb_astore (pc' := 19) rfl (L' := [some (.ref (ad 0)), some (vi x1), some (vi x2), some (.ref (ad 131)), some (.ref q9)]) rfl (by decide) dL_price_17 ?_
      refine Wb.forget [true, true, true, true, false] ?_
      show Wb g ad d mL_price Q 19 [some (.ref (ad 0)), some (vi x1), some (vi x2), some (.ref (ad 131)), none] [] s1 rc rs
      refine sb_iconst (pc' := 20) rfl dL_price_19 ?_
      exact sb_iret rfl rfl dL_price_20 (H (iR_lit rfl) hs1)
  refine Or.inl ⟨_, rfl, ?_⟩
  show Wb g ad d mL_price Q 8 [some (.ref (ad 0)), some (vi x1), some (vi x2), some (.ref (ad 131)), none] [(vi r1), (vi 0), (.ref (ad 131))] s1 rc rs
  refine sb_i2l (pc' := 9) rfl hr1 dL_price_8 ?_
  refine sb_last (pc' := 10) rfl aL_131 (by decide) (by decide)  dL_price_9 ?_
  refine sb_goto (tgt := 21) (by decide) dL_price_10 ?_
  refine sb_iconst (pc' := 22) rfl dL_price_21 ?_
  exact sb_iret rfl rfl dL_price_22 (H (iR_lit rfl) (SR_setL hs1 hr1.l))
theorem kHL_drop : ae_mH mL_drop 4 := ⟨rfl, wd_1352, rfl, wd_164, ⟨by decide +kernel, by decide +kernel, by decide +kernel⟩, by decide⟩
theorem cat_L_drop_0 : ae_cat mL_drop 5 "java/lang/IndexOutOfBoundsException" 20 := ⟨[], ⟨0, 17, 20, 30⟩, [⟨0, 17, 24, 13⟩], "java/lang/IndexOutOfBoundsException", rfl, (fun z hz => absurd hz List.not_mem_nil), rfl, by decide, wd_1250, wc_1261, rfl⟩
theorem cat_L_drop_1 : ae_cat mL_drop 5 "java/lang/IllegalArgumentException" 24 := ⟨[⟨0, 17, 20, 30⟩], ⟨0, 17, 24, 13⟩, [], "java/lang/IllegalArgumentException", rfl, (fun z hz => by rw [List.mem_singleton.mp hz]; exact Or.inr ⟨by decide, "java/lang/IndexOutOfBoundsException", wd_1250, by decide⟩), rfl, by decide, wd_998, wc_1088, rfl⟩
theorem bL_drop_0 {g : AG} {ad : Nat → Nat} {d : Nat} {Q : AO → SG → Prop} {rc rs : Nat} {σ : SG} {x1 x2 : Int}  (hx1 : iR x1) (hx2 : iR x2) (hS : SR σ) (H : Cl g ad d mX10_drop 2 12 [(.ref (ad 0)), (vi x1), (vi x2)] σ (Kx (Ki fun r1 s1 => ((r1 = 0 → (iR 0 → SR (setL s1 131 0 0) → Q (.inl (some (vi 0))) (setL s1 131 0 0))) ∧ (¬ r1 = 0 → (iR 0 → SR (setL s1 131 0 1) → Q (.inl (some (vi 0))) (setL s1 131 0 1))))) (fun E s1 => (E = "java/lang/IndexOutOfBoundsException" ∧ (iR 1 → SR s1 → Q (.inl (some (vi 1))) s1)) ∨ (E = "java/lang/IllegalArgumentException" ∧ (iR 2 → SR s1 → Q (.inl (some (vi 2))) s1))))) : Wb g ad d mL_drop Q 0 [some (.ref (ad 0)), some (vi x1), some (vi x2), some (.ref (ad 131)), none] [] σ (rc + 2) (rs + 12) := by
  refine sb_aload_n (pc' := 1) rfl rfl dL_drop_0 ?_
  refine sb_iconst (pc' := 2) rfl dL_drop_1 ?_
  refine sb_aload_n (pc' := 3) rfl rfl dL_drop_2 ?_
  refine sb_iload_n (pc' := 4) rfl rfl dL_drop_3 ?_
  refine sb_iload_n (pc' := 5) rfl rfl dL_drop_4 ?_
  obtain ⟨d1, hd1, H⟩ := H
  refine sb_callVH (pc' := 8) rfl (rc := rc) (rs := rs) (mc' := 2) (ms' := 12) (As := [(vi x1), (vi x2)]) (st := [(vi 0), (.ref (ad 131))]) of_0 rfl rfl (Nat.le_of_ble_eq_true rfl) hd1 kX10_drop ⟨wd_1353, wd_1354, wd_1355⟩ dL_drop_5 (Eb.mono H ?_)
  rintro o s1 (⟨r1, rfl, hr1, hs1, H⟩ | ⟨E, rfl, hs1, H⟩)
  case inr =>
    refine Or.inr ?_
    rcases H with ⟨rfl, H⟩ | ⟨rfl, H⟩
    · refine ⟨_, 20, rfl, cat_L_drop_0, fun q9 => ?_⟩
      refine sb_astore (pc' := 22) rfl (L' := [some (.ref (ad 0)), some (vi x1), some (vi x2), some (.ref (ad 131)), some (.ref q9)]) rfl (by decide) dL_drop_20 ?_
      refine Wb.forget [true, true, true, true, false] ?_
      show Wb g ad d mL_drop Q 22 [some (.ref (ad 0)), some (vi x1), some (vi x2), some (.ref (ad 131)), none] [] s1 rc rs
      refine sb_iconst (pc' := 23) rfl dL_drop_22 ?_
      exact sb_iret rfl rfl dL_drop_23 (H (iR_lit rfl) hs1)
    · refine ⟨_, 24, rfl, cat_L_drop_1, fun q9 => ?_⟩
      refine sb_astore (pc' := 26) rfl (L' := [some (.ref (ad 0)), some (vi x1), some (vi x2), some (.ref (ad 131)), some (.ref q9)]) rfl (by decide) dL_drop_24 ?_
      refine Wb.forget [true, true, true, true, false] ?_
      show Wb g ad d mL_drop Q 26 [some (.ref (ad 0)), some (vi x1), some (vi x2), some (.ref (ad 131)), none] [] s1 rc rs
      refine sb_iconst (pc' := 27) rfl dL_drop_26 ?_
      exact sb_iret rfl rfl dL_drop_27 (H (iR_lit rfl) hs1)
  refine Or.inl ⟨_, rfl, ?_⟩
  show Wb g ad d mL_drop Q 8 [some (.ref (ad 0)), some (vi x1), some (vi x2), some (.ref (ad 131)), none] [(vi r1), (vi 0), (.ref (ad 131))] s1 rc rs
  refine sb_if_eq (pc' := 11) (tgt := 15) rfl (by decide) hr1 dL_drop_8 ?_ ?_
  · intro cc; have H := H.1 cc
    refine sb_lconst (pc' := 16) rfl (z := 0) (by decide) dL_drop_15 ?_
    refine sb_last (pc' := 17) rfl aL_131 (by decide) (by decide)  dL_drop_16 ?_
    refine sb_goto (tgt := 28) (by decide) dL_drop_17 ?_
    refine sb_iconst (pc' := 29) rfl dL_drop_28 ?_
    exact sb_iret rfl rfl dL_drop_29 (H (iR_lit rfl) (SR_setL hs1 (lR_lit rfl)))
  · intro cc; have H := H.2 cc
    refine sb_lconst (pc' := 12) rfl (z := 1) (by decide) dL_drop_11 ?_
    refine sb_goto (tgt := 16) (by decide) dL_drop_12 ?_
    refine sb_last (pc' := 17) rfl aL_131 (by decide) (by decide)  dL_drop_16 ?_
    refine sb_goto (tgt := 28) (by decide) dL_drop_17 ?_
    refine sb_iconst (pc' := 29) rfl dL_drop_28 ?_
    exact sb_iret rfl rfl dL_drop_29 (H (iR_lit rfl) (SR_setL hs1 (lR_lit rfl)))
theorem kHL_tune : ae_mH mL_tune 4 := ⟨rfl, wd_1364, rfl, wd_164, ⟨by decide +kernel, by decide +kernel, by decide +kernel⟩, by decide⟩
theorem cat_L_tune_0 : ae_cat mL_tune 5 "java/util/NoSuchElementException" 13 := ⟨[], ⟨0, 10, 13, 35⟩, [⟨0, 10, 17, 13⟩], "java/util/NoSuchElementException", rfl, (fun z hz => absurd hz List.not_mem_nil), rfl, by decide, wd_1278, wc_1294, rfl⟩
theorem cat_L_tune_1 : ae_cat mL_tune 5 "java/lang/IllegalArgumentException" 17 := ⟨[⟨0, 10, 13, 35⟩], ⟨0, 10, 17, 13⟩, [], "java/lang/IllegalArgumentException", rfl, (fun z hz => by rw [List.mem_singleton.mp hz]; exact Or.inr ⟨by decide, "java/util/NoSuchElementException", wd_1278, by decide⟩), rfl, by decide, wd_998, wc_1088, rfl⟩
theorem bL_tune_0 {g : AG} {ad : Nat → Nat} {d : Nat} {Q : AO → SG → Prop} {rc rs : Nat} {σ : SG} {x1 x2 : Int}  (hx1 : iR x1) (hx2 : iR x2) (hS : SR σ) (H : Cl g ad d mX10_tune 1 6 [(.ref (ad 0)), (vi x1), (vi x2)] σ (Kx (Ki fun r1 s1 => (iR 0 → SR (setL s1 131 0 r1) → Q (.inl (some (vi 0))) (setL s1 131 0 r1))) (fun E s1 => (E = "java/util/NoSuchElementException" ∧ (iR 1 → SR s1 → Q (.inl (some (vi 1))) s1)) ∨ (E = "java/lang/IllegalArgumentException" ∧ (iR 2 → SR s1 → Q (.inl (some (vi 2))) s1))))) : Wb g ad d mL_tune Q 0 [some (.ref (ad 0)), some (vi x1), some (vi x2), some (.ref (ad 131)), none] [] σ (rc + 1) (rs + 6) := by
  refine sb_aload_n (pc' := 1) rfl rfl dL_tune_0 ?_
  refine sb_iconst (pc' := 2) rfl dL_tune_1 ?_
  refine sb_aload_n (pc' := 3) rfl rfl dL_tune_2 ?_
  refine sb_iload_n (pc' := 4) rfl rfl dL_tune_3 ?_
  refine sb_iload_n (pc' := 5) rfl rfl dL_tune_4 ?_
  obtain ⟨d1, hd1, H⟩ := H
  refine sb_callVH (pc' := 8) rfl (rc := rc) (rs := rs) (mc' := 1) (ms' := 6) (As := [(vi x1), (vi x2)]) (st := [(vi 0), (.ref (ad 131))]) of_0 rfl rfl (Nat.le_of_ble_eq_true rfl) hd1 kX10_tune ⟨wd_1365, wd_1366, wd_1367⟩ dL_tune_5 (Eb.mono H ?_)
  rintro o s1 (⟨r1, rfl, hr1, hs1, H⟩ | ⟨E, rfl, hs1, H⟩)
  case inr =>
    refine Or.inr ?_
    rcases H with ⟨rfl, H⟩ | ⟨rfl, H⟩
    · refine ⟨_, 13, rfl, cat_L_tune_0, fun q9 => ?_⟩
      refine sb_astore (pc' := 15) rfl (L' := [some (.ref (ad 0)), some (vi x1), some (vi x2), some (.ref (ad 131)), some (.ref q9)]) rfl (by decide) dL_tune_13 ?_
      refine Wb.forget [true, true, true, true, false] ?_
      show Wb g ad d mL_tune Q 15 [some (.ref (ad 0)), some (vi x1), some (vi x2), some (.ref (ad 131)), none] [] s1 rc rs
      refine sb_iconst (pc' := 16) rfl dL_tune_15 ?_
      exact sb_iret rfl rfl dL_tune_16 (H (iR_lit rfl) hs1)
    · refine ⟨_, 17, rfl, cat_L_tune_1, fun q9 => ?_⟩
      refine sb_astore (pc' := 19) rfl (L' := [some (.ref (ad 0)), some (vi x1), some (vi x2), some (.ref (ad 131)), some (.ref q9)]) rfl (by decide) dL_tune_17 ?_
      refine Wb.forget [true, true, true, true, false] ?_
      show Wb g ad d mL_tune Q 19 [some (.ref (ad 0)), some (vi x1), some (vi x2), some (.ref (ad 131)), none] [] s1 rc rs
      refine sb_iconst (pc' := 20) rfl dL_tune_19 ?_
      exact sb_iret rfl rfl dL_tune_20 (H (iR_lit rfl) hs1)
  refine Or.inl ⟨_, rfl, ?_⟩
  show Wb g ad d mL_tune Q 8 [some (.ref (ad 0)), some (vi x1), some (vi x2), some (.ref (ad 131)), none] [(vi r1), (vi 0), (.ref (ad 131))] s1 rc rs
  refine sb_i2l (pc' := 9) rfl hr1 dL_tune_8 ?_
  refine sb_last (pc' := 10) rfl aL_131 (by decide) (by decide)  dL_tune_9 ?_
  refine sb_goto (tgt := 21) (by decide) dL_tune_10 ?_
  refine sb_iconst (pc' := 22) rfl dL_tune_21 ?_
  exact sb_iret rfl rfl dL_tune_22 (H (iR_lit rfl) (SR_setL hs1 hr1.l))
theorem kHL_option : ae_mH mL_option 4 := ⟨rfl, wd_1377, rfl, wd_164, ⟨by decide +kernel, by decide +kernel, by decide +kernel⟩, by decide⟩
theorem cat_L_option_0 : ae_cat mL_option 5 "java/lang/IndexOutOfBoundsException" 13 := ⟨[], ⟨0, 10, 13, 30⟩, [], "java/lang/IndexOutOfBoundsException", rfl, (fun z hz => absurd hz List.not_mem_nil), rfl, by decide, wd_1250, wc_1261, rfl⟩
theorem bL_option_0 {g : AG} {ad : Nat → Nat} {d : Nat} {Q : AO → SG → Prop} {rc rs : Nat} {σ : SG} {x1 x2 : Int}  (hx1 : iR x1) (hx2 : iR x2) (hS : SR σ) (H : Cl g ad d mX10_option 1 6 [(.ref (ad 0)), (vi x1), (vi x2)] σ (Kx (Ki fun r1 s1 => (iR 0 → SR (setL s1 131 0 r1) → Q (.inl (some (vi 0))) (setL s1 131 0 r1))) (fun E s1 => (E = "java/lang/IndexOutOfBoundsException" ∧ (iR 1 → SR s1 → Q (.inl (some (vi 1))) s1))))) : Wb g ad d mL_option Q 0 [some (.ref (ad 0)), some (vi x1), some (vi x2), some (.ref (ad 131)), none] [] σ (rc + 1) (rs + 6) := by
  refine sb_aload_n (pc' := 1) rfl rfl dL_option_0 ?_
  refine sb_iconst (pc' := 2) rfl dL_option_1 ?_
  refine sb_aload_n (pc' := 3) rfl rfl dL_option_2 ?_
  refine sb_iload_n (pc' := 4) rfl rfl dL_option_3 ?_
  refine sb_iload_n (pc' := 5) rfl rfl dL_option_4 ?_
  obtain ⟨d1, hd1, H⟩ := H
  refine sb_callVH (pc' := 8) rfl (rc := rc) (rs := rs) (mc' := 1) (ms' := 6) (As := [(vi x1), (vi x2)]) (st := [(vi 0), (.ref (ad 131))]) of_0 rfl rfl (Nat.le_of_ble_eq_true rfl) hd1 kX10_option ⟨wd_1378, wd_1379, wd_1380⟩ dL_option_5 (Eb.mono H ?_)
  rintro o s1 (⟨r1, rfl, hr1, hs1, H⟩ | ⟨E, rfl, hs1, H⟩)
  case inr =>
    refine Or.inr ?_
    rcases H with ⟨rfl, H⟩
    · refine ⟨_, 13, rfl, cat_L_option_0, fun q9 => ?_⟩
      refine sb_astore (pc' := 15) rfl (L' := [some (.ref (ad 0)), some (vi x1), some (vi x2), some (.ref (ad 131)), some (.ref q9)]) rfl (by decide) dL_option_13 ?_
      refine Wb.forget [true, true, true, true, false] ?_
      show Wb g ad d mL_option Q 15 [some (.ref (ad 0)), some (vi x1), some (vi x2), some (.ref (ad 131)), none] [] s1 rc rs
      refine sb_iconst (pc' := 16) rfl dL_option_15 ?_
      exact sb_iret rfl rfl dL_option_16 (H (iR_lit rfl) hs1)
  refine Or.inl ⟨_, rfl, ?_⟩
  show Wb g ad d mL_option Q 8 [some (.ref (ad 0)), some (vi x1), some (vi x2), some (.ref (ad 131)), none] [(vi r1), (vi 0), (.ref (ad 131))] s1 rc rs
  refine sb_i2l (pc' := 9) rfl hr1 dL_option_8 ?_
  refine sb_last (pc' := 10) rfl aL_131 (by decide) (by decide)  dL_option_9 ?_
  refine sb_goto (tgt := 17) (by decide) dL_option_10 ?_
  refine sb_iconst (pc' := 18) rfl dL_option_17 ?_
  exact sb_iret rfl rfl dL_option_18 (H (iR_lit rfl) (SR_setL hs1 hr1.l))
theorem kHL_stretch : ae_mH mL_stretch 4 := ⟨rfl, wd_1388, rfl, wd_164, ⟨by decide +kernel, by decide +kernel, by decide +kernel⟩, by decide⟩
theorem cat_L_stretch_0 : ae_cat mL_stretch 5 "java/lang/IndexOutOfBoundsException" 13 := ⟨[], ⟨0, 10, 13, 30⟩, [⟨0, 10, 17, 13⟩], "java/lang/IndexOutOfBoundsException", rfl, (fun z hz => absurd hz List.not_mem_nil), rfl, by decide, wd_1250, wc_1261, rfl⟩
theorem cat_L_stretch_1 : ae_cat mL_stretch 5 "java/lang/IllegalArgumentException" 17 := ⟨[⟨0, 10, 13, 30⟩], ⟨0, 10, 17, 13⟩, [], "java/lang/IllegalArgumentException", rfl, (fun z hz => by rw [List.mem_singleton.mp hz]; exact Or.inr ⟨by decide, "java/lang/IndexOutOfBoundsException", wd_1250, by decide⟩), rfl, by decide, wd_998, wc_1088, rfl⟩
theorem bL_stretch_0 {g : AG} {ad : Nat → Nat} {d : Nat} {Q : AO → SG → Prop} {rc rs : Nat} {σ : SG} {x1 x2 : Int}  (hx1 : iR x1) (hx2 : iR x2) (hS : SR σ) (H : Cl g ad d mX10_stretch 3 18 [(.ref (ad 0)), (vi x1), (vi x2)] σ (Kx (Ki fun r1 s1 => (iR 0 → SR (setL s1 131 0 r1) → Q (.inl (some (vi 0))) (setL s1 131 0 r1))) (fun E s1 => (E = "java/lang/IndexOutOfBoundsException" ∧ (iR 1 → SR s1 → Q (.inl (some (vi 1))) s1)) ∨ (E = "java/lang/IllegalArgumentException" ∧ (iR 2 → SR s1 → Q (.inl (some (vi 2))) s1))))) : Wb g ad d mL_stretch Q 0 [some (.ref (ad 0)), some (vi x1), some (vi x2), some (.ref (ad 131)), none] [] σ (rc + 3) (rs + 18) := by
  refine sb_aload_n (pc' := 1) rfl rfl dL_stretch_0 ?_
  refine sb_iconst (pc' := 2) rfl dL_stretch_1 ?_
  refine sb_aload_n (pc' := 3) rfl rfl dL_stretch_2 ?_
  refine sb_iload_n (pc' := 4) rfl rfl dL_stretch_3 ?_
  refine sb_iload_n (pc' := 5) rfl rfl dL_stretch_4 ?_
  obtain ⟨d1, hd1, H⟩ := H
  refine sb_callVH (pc' := 8) rfl (rc := rc) (rs := rs) (mc' := 3) (ms' := 18) (As := [(vi x1), (vi x2)]) (st := [(vi 0), (.ref (ad 131))]) of_0 rfl rfl (Nat.le_of_ble_eq_true rfl) hd1 kX10_stretch ⟨wd_1389, wd_1390, wd_1391⟩ dL_stretch_5 (Eb.mono H ?_)
  rintro o s1 (⟨r1, rfl, hr1, hs1, H⟩ | ⟨E, rfl, hs1, H⟩)
  case inr =>
    refine Or.inr ?_
    rcases H with ⟨rfl, H⟩ | ⟨rfl, H⟩
    · refine ⟨_, 13, rfl, cat_L_stretch_0, fun q9 => ?_⟩
      refine sb_astore (pc' := 15) rfl (L' := [some (.ref (ad 0)), some (vi x1), some (vi x2), some (.ref (ad 131)), some (.ref q9)]) rfl (by decide) dL_stretch_13 ?_
      refine Wb.forget [true, true, true, true, false] ?_
      show Wb g ad d mL_stretch Q 15 [some (.ref (ad 0)), some (vi x1), some (vi x2), some (.ref (ad 131)), none] [] s1 rc rs
      refine sb_iconst (pc' := 16) rfl dL_stretch_15 ?_
      exact sb_iret rfl rfl dL_stretch_16 (H (iR_lit rfl) hs1)
    · refine ⟨_, 17, rfl, cat_L_stretch_1, fun q9 => ?_⟩
      refine sb_astore (pc' := 19) rfl (L' := [some (.ref (ad 0)), some (vi x1), some (vi x2), some (.ref (ad 131)), some (.ref q9)]) rfl (by decide) dL_stretch_17 ?_
      refine Wb.forget [true, true, true, true, false] ?_
      show Wb g ad d mL_stretch Q 19 [some (.ref (ad 0)), some (vi x1), some (vi x2), some (.ref (ad 131)), none] [] s1 rc rs
      refine sb_iconst (pc' := 20) rfl dL_stretch_19 ?_
      exact sb_iret rfl rfl dL_stretch_20 (H (iR_lit rfl) hs1)
  refine Or.inl ⟨_, rfl, ?_⟩
  show Wb g ad d mL_stretch Q 8 [some (.ref (ad 0)), some (vi x1), some (vi x2), some (.ref (ad 131)), none] [(vi r1), (vi 0), (.ref (ad 131))] s1 rc rs
  refine sb_i2l (pc' := 9) rfl hr1 dL_stretch_8 ?_
  refine sb_last (pc' := 10) rfl aL_131 (by decide) (by decide)  dL_stretch_9 ?_
  refine sb_goto (tgt := 21) (by decide) dL_stretch_10 ?_
  refine sb_iconst (pc' := 22) rfl dL_stretch_21 ?_
  exact sb_iret rfl rfl dL_stretch_22 (H (iR_lit rfl) (SR_setL hs1 hr1.l))
theorem kHL_way : ae_mH mL_way 4 := ⟨rfl, wd_1396, rfl, wd_164, ⟨by decide +kernel, by decide +kernel, by decide +kernel⟩, by decide⟩
theorem cat_L_way_0 : ae_cat mL_way 5 "java/util/NoSuchElementException" 13 := ⟨[], ⟨0, 10, 13, 35⟩, [⟨0, 10, 17, 13⟩], "java/util/NoSuchElementException", rfl, (fun z hz => absurd hz List.not_mem_nil), rfl, by decide, wd_1278, wc_1294, rfl⟩
theorem cat_L_way_1 : ae_cat mL_way 5 "java/lang/IllegalArgumentException" 17 := ⟨[⟨0, 10, 13, 35⟩], ⟨0, 10, 17, 13⟩, [], "java/lang/IllegalArgumentException", rfl, (fun z hz => by rw [List.mem_singleton.mp hz]; exact Or.inr ⟨by decide, "java/util/NoSuchElementException", wd_1278, by decide⟩), rfl, by decide, wd_998, wc_1088, rfl⟩
theorem bL_way_0 {g : AG} {ad : Nat → Nat} {d : Nat} {Q : AO → SG → Prop} {rc rs : Nat} {σ : SG} {x1 x2 : Int}  (hx1 : iR x1) (hx2 : iR x2) (hS : SR σ) (H : Cl g ad d mX10_way 1 6 [(.ref (ad 0)), (vi x1), (vi x2)] σ (Kx (Ki fun r1 s1 => (iR 0 → SR (setL s1 131 0 r1) → Q (.inl (some (vi 0))) (setL s1 131 0 r1))) (fun E s1 => (E = "java/util/NoSuchElementException" ∧ (iR 1 → SR s1 → Q (.inl (some (vi 1))) s1)) ∨ (E = "java/lang/IllegalArgumentException" ∧ (iR 2 → SR s1 → Q (.inl (some (vi 2))) s1))))) : Wb g ad d mL_way Q 0 [some (.ref (ad 0)), some (vi x1), some (vi x2), some (.ref (ad 131)), none] [] σ (rc + 1) (rs + 6) := by
  refine sb_aload_n (pc' := 1) rfl rfl dL_way_0 ?_
  refine sb_iconst (pc' := 2) rfl dL_way_1 ?_
  refine sb_aload_n (pc' := 3) rfl rfl dL_way_2 ?_
  refine sb_iload_n (pc' := 4) rfl rfl dL_way_3 ?_
  refine sb_iload_n (pc' := 5) rfl rfl dL_way_4 ?_
  obtain ⟨d1, hd1, H⟩ := H
  refine sb_callVH (pc' := 8) rfl (rc := rc) (rs := rs) (mc' := 1) (ms' := 6) (As := [(vi x1), (vi x2)]) (st := [(vi 0), (.ref (ad 131))]) of_0 rfl rfl (Nat.le_of_ble_eq_true rfl) hd1 kX10_way ⟨wd_1397, wd_1398, wd_1399⟩ dL_way_5 (Eb.mono H ?_)
  rintro o s1 (⟨r1, rfl, hr1, hs1, H⟩ | ⟨E, rfl, hs1, H⟩)
  case inr =>
    refine Or.inr ?_
    rcases H with ⟨rfl, H⟩ | ⟨rfl, H⟩
    · refine ⟨_, 13, rfl, cat_L_way_0, fun q9 => ?_⟩
      refine sb_astore (pc' := 15) rfl (L' := [some (.ref (ad 0)), some (vi x1), some (vi x2), some (.ref (ad 131)), some (.ref q9)]) rfl (by decide) dL_way_13 ?_
      refine Wb.forget [true, true, true, true, false] ?_
      show Wb g ad d mL_way Q 15 [some (.ref (ad 0)), some (vi x1), some (vi x2), some (.ref (ad 131)), none] [] s1 rc rs
      refine sb_iconst (pc' := 16) rfl dL_way_15 ?_
      exact sb_iret rfl rfl dL_way_16 (H (iR_lit rfl) hs1)
    · refine ⟨_, 17, rfl, cat_L_way_1, fun q9 => ?_⟩
      refine sb_astore (pc' := 19) rfl (L' := [some (.ref (ad 0)), some (vi x1), some (vi x2), some (.ref (ad 131)), some (.ref q9)]) rfl (by decide) dL_way_17 ?_
      refine Wb.forget [true, true, true, true, false] ?_
      show Wb g ad d mL_way Q 19 [some (.ref (ad 0)), some (vi x1), some (vi x2), some (.ref (ad 131)), none] [] s1 rc rs
      refine sb_iconst (pc' := 20) rfl dL_way_19 ?_
      exact sb_iret rfl rfl dL_way_20 (H (iR_lit rfl) hs1)
  refine Or.inl ⟨_, rfl, ?_⟩
  show Wb g ad d mL_way Q 8 [some (.ref (ad 0)), some (vi x1), some (vi x2), some (.ref (ad 131)), none] [(vi r1), (vi 0), (.ref (ad 131))] s1 rc rs
  refine sb_i2l (pc' := 9) rfl hr1 dL_way_8 ?_
  refine sb_last (pc' := 10) rfl aL_131 (by decide) (by decide)  dL_way_9 ?_
  refine sb_goto (tgt := 21) (by decide) dL_way_10 ?_
  refine sb_iconst (pc' := 22) rfl dL_way_21 ?_
  exact sb_iret rfl rfl dL_way_22 (H (iR_lit rfl) (SR_setL hs1 hr1.l))
theorem kHL_step : ae_mH mL_step 5 := ⟨rfl, wd_1413, rfl, wd_164, ⟨by decide +kernel, by decide +kernel, by decide +kernel⟩, by decide⟩
theorem cat_L_step_0 : ae_cat mL_step 7 "java/util/NoSuchElementException" 15 := ⟨[], ⟨0, 12, 15, 35⟩, [⟨0, 12, 19, 13⟩], "java/util/NoSuchElementException", rfl, (fun z hz => absurd hz List.not_mem_nil), rfl, by decide, wd_1278, wc_1294, rfl⟩
theorem cat_L_step_1 : ae_cat mL_step 7 "java/lang/IllegalArgumentException" 19 := ⟨[⟨0, 12, 15, 35⟩], ⟨0, 12, 19, 13⟩, [], "java/lang/IllegalArgumentException", rfl, (fun z hz => by rw [List.mem_singleton.mp hz]; exact Or.inr ⟨by decide, "java/util/NoSuchElementException", wd_1278, by decide⟩), rfl, by decide, wd_998, wc_1088, rfl⟩
theorem bL_step_0 {g : AG} {ad : Nat → Nat} {d : Nat} {Q : AO → SG → Prop} {rc rs : Nat} {σ : SG} {x1 x2 x3 : Int}  (hx1 : iR x1) (hx2 : iR x2) (hx3 : iR x3) (hS : SR σ) (H : Cl g ad d mX10_step 1 6 [(.ref (ad 0)), (vi x1), (vi x2), (vi x3)] σ (Kx (Ki fun r1 s1 => (iR 0 → SR (setL s1 131 0 r1) → Q (.inl (some (vi 0))) (setL s1 131 0 r1))) (fun E s1 => (E = "java/util/NoSuchElementException" ∧ (iR 1 → SR s1 → Q (.inl (some (vi 1))) s1)) ∨ (E = "java/lang/IllegalArgumentException" ∧ (iR 2 → SR s1 → Q (.inl (some (vi 2))) s1))))) : Wb g ad d mL_step Q 0 [some (.ref (ad 0)), some (vi x1), some (vi x2), some (vi x3), some (.ref (ad 131)), none] [] σ (rc + 1) (rs + 6) := by
  refine sb_aload (pc' := 2) rfl rfl dL_step_0 ?_
  refine sb_iconst (pc' := 3) rfl dL_step_2 ?_
  refine sb_aload_n (pc' := 4) rfl rfl dL_step_3 ?_
  refine sb_iload_n (pc' := 5) rfl rfl dL_step_4 ?_
  refine sb_iload_n (pc' := 6) rfl rfl dL_step_5 ?_
  refine sb_iload_n (pc' := 7) rfl rfl dL_step_6 ?_
  obtain ⟨d1, hd1, H⟩ := H
  refine sb_callVH (pc' := 10) rfl (rc := rc) (rs := rs) (mc' := 1) (ms' := 6) (As := [(vi x1), (vi x2), (vi x3)]) (st := [(vi 0), (.ref (ad 131))]) of_0 rfl rfl (Nat.le_of_ble_eq_true rfl) hd1 kX10_step ⟨wd_1414, wd_1415, wd_1416⟩ dL_step_7 (Eb.mono H ?_)
  rintro o s1 (⟨r1, rfl, hr1, hs1, H⟩ | ⟨E, rfl, hs1, H⟩)
  case inr =>
    refine Or.inr ?_
    rcases H with ⟨rfl, H⟩ | ⟨rfl, H⟩
    · refine ⟨_, 15, rfl, cat_L_step_0, fun q9 => ?_⟩
      refine sb_astore (pc' := 17) rfl (L' := [some (.ref (ad 0)), some (vi x1), some (vi x2), some (vi x3), some (.ref (ad 131)), some (.ref q9)]) rfl (by decide) dL_step_15 ?_
      refine Wb.forget [true, true, true, true, true, false] ?_
      show Wb g ad d mL_step Q 17 [some (.ref (ad 0)), some (vi x1), some (vi x2), some (vi x3), some (.ref (ad 131)), none] [] s1 rc rs
      refine sb_iconst (pc' := 18) rfl dL_step_17 ?_
      exact sb_iret rfl rfl dL_step_18 (H (iR_lit rfl) hs1)
    · refine ⟨_, 19, rfl, cat_L_step_1, fun q9 => ?_⟩
      refine sb_astore (pc' := 21) rfl (L' := [some (.ref (ad 0)), some (vi x1), some (vi x2), some (vi x3), some (.ref (ad 131)), some (.ref q9)]) rfl (by decide) dL_step_19 ?_
      refine Wb.forget [true, true, true, true, true, false] ?_
      show Wb g ad d mL_step Q 21 [some (.ref (ad 0)), some (vi x1), some (vi x2), some (vi x3), some (.ref (ad 131)), none] [] s1 rc rs
      refine sb_iconst (pc' := 22) rfl dL_step_21 ?_
      exact sb_iret rfl rfl dL_step_22 (H (iR_lit rfl) hs1)
  refine Or.inl ⟨_, rfl, ?_⟩
  show Wb g ad d mL_step Q 10 [some (.ref (ad 0)), some (vi x1), some (vi x2), some (vi x3), some (.ref (ad 131)), none] [(vi r1), (vi 0), (.ref (ad 131))] s1 rc rs
  refine sb_i2l (pc' := 11) rfl hr1 dL_step_10 ?_
  refine sb_last (pc' := 12) rfl aL_131 (by decide) (by decide)  dL_step_11 ?_
  refine sb_goto (tgt := 23) (by decide) dL_step_12 ?_
  refine sb_iconst (pc' := 24) rfl dL_step_23 ?_
  exact sb_iret rfl rfl dL_step_24 (H (iR_lit rfl) (SR_setL hs1 hr1.l))
theorem kHL_word : ae_mH mL_word 4 := ⟨rfl, wd_1421, rfl, wd_164, ⟨by decide +kernel, by decide +kernel, by decide +kernel⟩, by decide⟩
theorem cat_L_word_0 : ae_cat mL_word 5 "java/lang/IllegalArgumentException" 13 := ⟨[], ⟨0, 10, 13, 13⟩, [], "java/lang/IllegalArgumentException", rfl, (fun z hz => absurd hz List.not_mem_nil), rfl, by decide, wd_998, wc_1088, rfl⟩
theorem bL_word_0 {g : AG} {ad : Nat → Nat} {d : Nat} {Q : AO → SG → Prop} {rc rs : Nat} {σ : SG} {x1 x2 : Int}  (hx1 : iR x1) (hx2 : iR x2) (hS : SR σ) (H : Cl g ad d mX10_word 1 6 [(.ref (ad 0)), (vi x1), (vi x2)] σ (Kx (Ki fun r1 s1 => (iR 0 → SR (setL s1 131 0 r1) → Q (.inl (some (vi 0))) (setL s1 131 0 r1))) (fun E s1 => (E = "java/lang/IllegalArgumentException" ∧ (iR 1 → SR s1 → Q (.inl (some (vi 1))) s1))))) : Wb g ad d mL_word Q 0 [some (.ref (ad 0)), some (vi x1), some (vi x2), some (.ref (ad 131)), none] [] σ (rc + 1) (rs + 6) := by
  refine sb_aload_n (pc' := 1) rfl rfl dL_word_0 ?_
  refine sb_iconst (pc' := 2) rfl dL_word_1 ?_
  refine sb_aload_n (pc' := 3) rfl rfl dL_word_2 ?_
  refine sb_iload_n (pc' := 4) rfl rfl dL_word_3 ?_
  refine sb_iload_n (pc' := 5) rfl rfl dL_word_4 ?_
  obtain ⟨d1, hd1, H⟩ := H
  refine sb_callVH (pc' := 8) rfl (rc := rc) (rs := rs) (mc' := 1) (ms' := 6) (As := [(vi x1), (vi x2)]) (st := [(vi 0), (.ref (ad 131))]) of_0 rfl rfl (Nat.le_of_ble_eq_true rfl) hd1 kX10_word ⟨wd_1422, wd_1423, wd_1424⟩ dL_word_5 (Eb.mono H ?_)
  rintro o s1 (⟨r1, rfl, hr1, hs1, H⟩ | ⟨E, rfl, hs1, H⟩)
  case inr =>
    refine Or.inr ?_
    rcases H with ⟨rfl, H⟩
    · refine ⟨_, 13, rfl, cat_L_word_0, fun q9 => ?_⟩
      refine sb_astore (pc' := 15) rfl (L' := [some (.ref (ad 0)), some (vi x1), some (vi x2), some (.ref (ad 131)), some (.ref q9)]) rfl (by decide) dL_word_13 ?_
      refine Wb.forget [true, true, true, true, false] ?_
      show Wb g ad d mL_word Q 15 [some (.ref (ad 0)), some (vi x1), some (vi x2), some (.ref (ad 131)), none] [] s1 rc rs
      refine sb_iconst (pc' := 16) rfl dL_word_15 ?_
      exact sb_iret rfl rfl dL_word_16 (H (iR_lit rfl) hs1)
  refine Or.inl ⟨_, rfl, ?_⟩
  show Wb g ad d mL_word Q 8 [some (.ref (ad 0)), some (vi x1), some (vi x2), some (.ref (ad 131)), none] [(vi r1), (vi 0), (.ref (ad 131))] s1 rc rs
  refine sb_i2l (pc' := 9) rfl hr1 dL_word_8 ?_
  refine sb_last (pc' := 10) rfl aL_131 (by decide) (by decide)  dL_word_9 ?_
  refine sb_goto (tgt := 17) (by decide) dL_word_10 ?_
  refine sb_iconst (pc' := 18) rfl dL_word_17 ?_
  exact sb_iret rfl rfl dL_word_18 (H (iR_lit rfl) (SR_setL hs1 hr1.l))
theorem kHL_found : ae_mH mL_found 3 := ⟨rfl, wd_1428, rfl, wd_164, ⟨by decide +kernel, by decide +kernel, by decide +kernel⟩, by decide⟩
theorem cat_L_found_0 : ae_cat mL_found 4 "java/util/NoSuchElementException" 12 := ⟨[], ⟨0, 9, 12, 35⟩, [], "java/util/NoSuchElementException", rfl, (fun z hz => absurd hz List.not_mem_nil), rfl, by decide, wd_1278, wc_1294, rfl⟩
theorem bL_found_0 {g : AG} {ad : Nat → Nat} {d : Nat} {Q : AO → SG → Prop} {rc rs : Nat} {σ : SG} {x1 : Int}  (hx1 : iR x1) (hS : SR σ) (H : Cl g ad d mX10_found 1 6 [(.ref (ad 0)), (vi x1)] σ (Kx (Ki fun r1 s1 => (iR 0 → SR (setL s1 131 0 r1) → Q (.inl (some (vi 0))) (setL s1 131 0 r1))) (fun E s1 => (E = "java/util/NoSuchElementException" ∧ (iR 1 → SR s1 → Q (.inl (some (vi 1))) s1))))) : Wb g ad d mL_found Q 0 [some (.ref (ad 0)), some (vi x1), some (.ref (ad 131)), none] [] σ (rc + 1) (rs + 6) := by
  refine sb_aload_n (pc' := 1) rfl rfl dL_found_0 ?_
  refine sb_iconst (pc' := 2) rfl dL_found_1 ?_
  refine sb_aload_n (pc' := 3) rfl rfl dL_found_2 ?_
  refine sb_iload_n (pc' := 4) rfl rfl dL_found_3 ?_
  obtain ⟨d1, hd1, H⟩ := H
  refine sb_callVH (pc' := 7) rfl (rc := rc) (rs := rs) (mc' := 1) (ms' := 6) (As := [(vi x1)]) (st := [(vi 0), (.ref (ad 131))]) of_0 rfl rfl (Nat.le_of_ble_eq_true rfl) hd1 kX10_found ⟨wd_1429, wd_1430, wd_1431⟩ dL_found_4 (Eb.mono H ?_)
  rintro o s1 (⟨r1, rfl, hr1, hs1, H⟩ | ⟨E, rfl, hs1, H⟩)
  case inr =>
    refine Or.inr ?_
    rcases H with ⟨rfl, H⟩
    · refine ⟨_, 12, rfl, cat_L_found_0, fun q9 => ?_⟩
      refine sb_astore_n (pc' := 13) rfl (L' := [some (.ref (ad 0)), some (vi x1), some (.ref (ad 131)), some (.ref q9)]) rfl (by decide) dL_found_12 ?_
      refine Wb.forget [true, true, true, false] ?_
      show Wb g ad d mL_found Q 13 [some (.ref (ad 0)), some (vi x1), some (.ref (ad 131)), none] [] s1 rc rs
      refine sb_iconst (pc' := 14) rfl dL_found_13 ?_
      exact sb_iret rfl rfl dL_found_14 (H (iR_lit rfl) hs1)
  refine Or.inl ⟨_, rfl, ?_⟩
  show Wb g ad d mL_found Q 7 [some (.ref (ad 0)), some (vi x1), some (.ref (ad 131)), none] [(vi r1), (vi 0), (.ref (ad 131))] s1 rc rs
  refine sb_i2l (pc' := 8) rfl hr1 dL_found_7 ?_
  refine sb_last (pc' := 9) rfl aL_131 (by decide) (by decide)  dL_found_8 ?_
  refine sb_goto (tgt := 15) (by decide) dL_found_9 ?_
  refine sb_iconst (pc' := 16) rfl dL_found_15 ?_
  exact sb_iret rfl rfl dL_found_16 (H (iR_lit rfl) (SR_setL hs1 hr1.l))
theorem kHL_halves : ae_mH mL_halves 4 := ⟨rfl, wd_1440, rfl, wd_164, ⟨by decide +kernel, by decide +kernel, by decide +kernel⟩, by decide⟩
theorem cat_L_halves_0 : ae_cat mL_halves 5 "java/util/NoSuchElementException" 13 := ⟨[], ⟨0, 10, 13, 35⟩, [], "java/util/NoSuchElementException", rfl, (fun z hz => absurd hz List.not_mem_nil), rfl, by decide, wd_1278, wc_1294, rfl⟩
theorem bL_halves_0 {g : AG} {ad : Nat → Nat} {d : Nat} {Q : AO → SG → Prop} {rc rs : Nat} {σ : SG} {x1 x2 : Int}  (hx1 : iR x1) (hx2 : iR x2) (hS : SR σ) (H : Cl g ad d mX10_halves 1 6 [(.ref (ad 0)), (vi x1), (vi x2)] σ (Kx (Ki fun r1 s1 => (iR 0 → SR (setL s1 131 0 r1) → Q (.inl (some (vi 0))) (setL s1 131 0 r1))) (fun E s1 => (E = "java/util/NoSuchElementException" ∧ (iR 1 → SR s1 → Q (.inl (some (vi 1))) s1))))) : Wb g ad d mL_halves Q 0 [some (.ref (ad 0)), some (vi x1), some (vi x2), some (.ref (ad 131)), none] [] σ (rc + 1) (rs + 6) := by
  refine sb_aload_n (pc' := 1) rfl rfl dL_halves_0 ?_
  refine sb_iconst (pc' := 2) rfl dL_halves_1 ?_
  refine sb_aload_n (pc' := 3) rfl rfl dL_halves_2 ?_
  refine sb_iload_n (pc' := 4) rfl rfl dL_halves_3 ?_
  refine sb_iload_n (pc' := 5) rfl rfl dL_halves_4 ?_
  obtain ⟨d1, hd1, H⟩ := H
  refine sb_callVH (pc' := 8) rfl (rc := rc) (rs := rs) (mc' := 1) (ms' := 6) (As := [(vi x1), (vi x2)]) (st := [(vi 0), (.ref (ad 131))]) of_0 rfl rfl (Nat.le_of_ble_eq_true rfl) hd1 kX10_halves ⟨wd_1441, wd_1442, wd_1443⟩ dL_halves_5 (Eb.mono H ?_)
  rintro o s1 (⟨r1, rfl, hr1, hs1, H⟩ | ⟨E, rfl, hs1, H⟩)
  case inr =>
    refine Or.inr ?_
    rcases H with ⟨rfl, H⟩
    · refine ⟨_, 13, rfl, cat_L_halves_0, fun q9 => ?_⟩
      refine sb_astore (pc' := 15) rfl (L' := [some (.ref (ad 0)), some (vi x1), some (vi x2), some (.ref (ad 131)), some (.ref q9)]) rfl (by decide) dL_halves_13 ?_
      refine Wb.forget [true, true, true, true, false] ?_
      show Wb g ad d mL_halves Q 15 [some (.ref (ad 0)), some (vi x1), some (vi x2), some (.ref (ad 131)), none] [] s1 rc rs
      refine sb_iconst (pc' := 16) rfl dL_halves_15 ?_
      exact sb_iret rfl rfl dL_halves_16 (H (iR_lit rfl) hs1)
  refine Or.inl ⟨_, rfl, ?_⟩
  show Wb g ad d mL_halves Q 8 [some (.ref (ad 0)), some (vi x1), some (vi x2), some (.ref (ad 131)), none] [(vi r1), (vi 0), (.ref (ad 131))] s1 rc rs
  refine sb_i2l (pc' := 9) rfl hr1 dL_halves_8 ?_
  refine sb_last (pc' := 10) rfl aL_131 (by decide) (by decide)  dL_halves_9 ?_
  refine sb_goto (tgt := 17) (by decide) dL_halves_10 ?_
  refine sb_iconst (pc' := 18) rfl dL_halves_17 ?_
  exact sb_iret rfl rfl dL_halves_18 (H (iR_lit rfl) (SR_setL hs1 hr1.l))
theorem kHL_stack : ae_mH mL_stack 4 := ⟨rfl, wd_1447, rfl, wd_164, ⟨by decide +kernel, by decide +kernel, by decide +kernel⟩, by decide⟩
theorem cat_L_stack_0 : ae_cat mL_stack 5 "java/lang/IndexOutOfBoundsException" 13 := ⟨[], ⟨0, 10, 13, 30⟩, [⟨0, 10, 17, 35⟩], "java/lang/IndexOutOfBoundsException", rfl, (fun z hz => absurd hz List.not_mem_nil), rfl, by decide, wd_1250, wc_1261, rfl⟩
theorem cat_L_stack_1 : ae_cat mL_stack 5 "java/util/NoSuchElementException" 17 := ⟨[⟨0, 10, 13, 30⟩], ⟨0, 10, 17, 35⟩, [], "java/util/NoSuchElementException", rfl, (fun z hz => by rw [List.mem_singleton.mp hz]; exact Or.inr ⟨by decide, "java/lang/IndexOutOfBoundsException", wd_1250, by decide⟩), rfl, by decide, wd_1278, wc_1294, rfl⟩
theorem bL_stack_0 {g : AG} {ad : Nat → Nat} {d : Nat} {Q : AO → SG → Prop} {rc rs : Nat} {σ : SG} {x1 x2 : Int}  (hx1 : iR x1) (hx2 : iR x2) (hS : SR σ) (H : Cl g ad d mX10_stack 1 6 [(.ref (ad 0)), (vi x1), (vi x2)] σ (Kx (Ki fun r1 s1 => (iR 0 → SR (setL s1 131 0 r1) → Q (.inl (some (vi 0))) (setL s1 131 0 r1))) (fun E s1 => (E = "java/lang/IndexOutOfBoundsException" ∧ (iR 1 → SR s1 → Q (.inl (some (vi 1))) s1)) ∨ (E = "java/util/NoSuchElementException" ∧ (iR 2 → SR s1 → Q (.inl (some (vi 2))) s1))))) : Wb g ad d mL_stack Q 0 [some (.ref (ad 0)), some (vi x1), some (vi x2), some (.ref (ad 131)), none] [] σ (rc + 1) (rs + 6) := by
  refine sb_aload_n (pc' := 1) rfl rfl dL_stack_0 ?_
  refine sb_iconst (pc' := 2) rfl dL_stack_1 ?_
  refine sb_aload_n (pc' := 3) rfl rfl dL_stack_2 ?_
  refine sb_iload_n (pc' := 4) rfl rfl dL_stack_3 ?_
  refine sb_iload_n (pc' := 5) rfl rfl dL_stack_4 ?_
  obtain ⟨d1, hd1, H⟩ := H
  refine sb_callVH (pc' := 8) rfl (rc := rc) (rs := rs) (mc' := 1) (ms' := 6) (As := [(vi x1), (vi x2)]) (st := [(vi 0), (.ref (ad 131))]) of_0 rfl rfl (Nat.le_of_ble_eq_true rfl) hd1 kX10_stack ⟨wd_1448, wd_1449, wd_1450⟩ dL_stack_5 (Eb.mono H ?_)
  rintro o s1 (⟨r1, rfl, hr1, hs1, H⟩ | ⟨E, rfl, hs1, H⟩)
  case inr =>
    refine Or.inr ?_
    rcases H with ⟨rfl, H⟩ | ⟨rfl, H⟩
    · refine ⟨_, 13, rfl, cat_L_stack_0, fun q9 => ?_⟩
      refine sb_astore (pc' := 15) rfl (L' := [some (.ref (ad 0)), some (vi x1), some (vi x2), some (.ref (ad 131)), some (.ref q9)]) rfl (by decide) dL_stack_13 ?_
      refine Wb.forget [true, true, true, true, false] ?_
      show Wb g ad d mL_stack Q 15 [some (.ref (ad 0)), some (vi x1), some (vi x2), some (.ref (ad 131)), none] [] s1 rc rs
      refine sb_iconst (pc' := 16) rfl dL_stack_15 ?_
      exact sb_iret rfl rfl dL_stack_16 (H (iR_lit rfl) hs1)
    · refine ⟨_, 17, rfl, cat_L_stack_1, fun q9 => ?_⟩
      refine sb_astore (pc' := 19) rfl (L' := [some (.ref (ad 0)), some (vi x1), some (vi x2), some (.ref (ad 131)), some (.ref q9)]) rfl (by decide) dL_stack_17 ?_
      refine Wb.forget [true, true, true, true, false] ?_
      show Wb g ad d mL_stack Q 19 [some (.ref (ad 0)), some (vi x1), some (vi x2), some (.ref (ad 131)), none] [] s1 rc rs
      refine sb_iconst (pc' := 20) rfl dL_stack_19 ?_
      exact sb_iret rfl rfl dL_stack_20 (H (iR_lit rfl) hs1)
  refine Or.inl ⟨_, rfl, ?_⟩
  show Wb g ad d mL_stack Q 8 [some (.ref (ad 0)), some (vi x1), some (vi x2), some (.ref (ad 131)), none] [(vi r1), (vi 0), (.ref (ad 131))] s1 rc rs
  refine sb_i2l (pc' := 9) rfl hr1 dL_stack_8 ?_
  refine sb_last (pc' := 10) rfl aL_131 (by decide) (by decide)  dL_stack_9 ?_
  refine sb_goto (tgt := 21) (by decide) dL_stack_10 ?_
  refine sb_iconst (pc' := 22) rfl dL_stack_21 ?_
  exact sb_iret rfl rfl dL_stack_22 (H (iR_lit rfl) (SR_setL hs1 hr1.l))
theorem kHL_forced : ae_mH mL_forced 2 := ⟨rfl, wd_1456, rfl, wd_164, ⟨by decide +kernel, by decide +kernel, by decide +kernel⟩, by decide⟩
theorem cat_L_forced_0 : ae_cat mL_forced 3 "java/lang/IllegalArgumentException" 11 := ⟨[], ⟨0, 8, 11, 13⟩, [], "java/lang/IllegalArgumentException", rfl, (fun z hz => absurd hz List.not_mem_nil), rfl, by decide, wd_998, wc_1088, rfl⟩
theorem bL_forced_0 {g : AG} {ad : Nat → Nat} {d : Nat} {Q : AO → SG → Prop} {rc rs : Nat} {σ : SG}    (hS : SR σ) (H : Cl g ad d mX10_forced 1 6 [(.ref (ad 0))] σ (Kx (Ki fun r1 s1 => (iR 0 → SR (setL s1 131 0 r1) → Q (.inl (some (vi 0))) (setL s1 131 0 r1))) (fun E s1 => (E = "java/lang/IllegalArgumentException" ∧ (iR 1 → SR s1 → Q (.inl (some (vi 1))) s1))))) : Wb g ad d mL_forced Q 0 [some (.ref (ad 0)), some (.ref (ad 131)), none] [] σ (rc + 1) (rs + 6) := by
  refine sb_aload_n (pc' := 1) rfl rfl dL_forced_0 ?_
  refine sb_iconst (pc' := 2) rfl dL_forced_1 ?_
  refine sb_aload_n (pc' := 3) rfl rfl dL_forced_2 ?_
  obtain ⟨d1, hd1, H⟩ := H
  refine sb_callVH (pc' := 6) rfl (rc := rc) (rs := rs) (mc' := 1) (ms' := 6) (As := []) (st := [(vi 0), (.ref (ad 131))]) of_0 rfl rfl (Nat.le_of_ble_eq_true rfl) hd1 kX10_forced ⟨wd_1457, wd_1458, wd_1459⟩ dL_forced_3 (Eb.mono H ?_)
  rintro o s1 (⟨r1, rfl, hr1, hs1, H⟩ | ⟨E, rfl, hs1, H⟩)
  case inr =>
    refine Or.inr ?_
    rcases H with ⟨rfl, H⟩
    · refine ⟨_, 11, rfl, cat_L_forced_0, fun q9 => ?_⟩
      refine sb_astore_n (pc' := 12) rfl (L' := [some (.ref (ad 0)), some (.ref (ad 131)), some (.ref q9)]) rfl (by decide) dL_forced_11 ?_
      refine Wb.forget [true, true, false] ?_
      show Wb g ad d mL_forced Q 12 [some (.ref (ad 0)), some (.ref (ad 131)), none] [] s1 rc rs
      refine sb_iconst (pc' := 13) rfl dL_forced_12 ?_
      exact sb_iret rfl rfl dL_forced_13 (H (iR_lit rfl) hs1)
  refine Or.inl ⟨_, rfl, ?_⟩
  show Wb g ad d mL_forced Q 6 [some (.ref (ad 0)), some (.ref (ad 131)), none] [(vi r1), (vi 0), (.ref (ad 131))] s1 rc rs
  refine sb_i2l (pc' := 7) rfl hr1 dL_forced_6 ?_
  refine sb_last (pc' := 8) rfl aL_131 (by decide) (by decide)  dL_forced_7 ?_
  refine sb_goto (tgt := 14) (by decide) dL_forced_8 ?_
  refine sb_iconst (pc' := 15) rfl dL_forced_14 ?_
  exact sb_iret rfl rfl dL_forced_15 (H (iR_lit rfl) (SR_setL hs1 hr1.l))
theorem kHL_near : ae_mH mL_near 2 := ⟨rfl, wd_1486, rfl, wd_164, ⟨by decide +kernel, by decide +kernel, by decide +kernel⟩, by decide⟩
theorem cat_L_near_0 : ae_cat mL_near 3 "java/lang/IllegalArgumentException" 11 := ⟨[], ⟨0, 8, 11, 13⟩, [], "java/lang/IllegalArgumentException", rfl, (fun z hz => absurd hz List.not_mem_nil), rfl, by decide, wd_998, wc_1088, rfl⟩
theorem bL_near_0 {g : AG} {ad : Nat → Nat} {d : Nat} {Q : AO → SG → Prop} {rc rs : Nat} {σ : SG}    (hS : SR σ) (H : Cl g ad d mX10_near 1 6 [(.ref (ad 0))] σ (Kx (Ki fun r1 s1 => (iR 0 → SR (setL s1 131 0 r1) → Q (.inl (some (vi 0))) (setL s1 131 0 r1))) (fun E s1 => (E = "java/lang/IllegalArgumentException" ∧ (iR 1 → SR s1 → Q (.inl (some (vi 1))) s1))))) : Wb g ad d mL_near Q 0 [some (.ref (ad 0)), some (.ref (ad 131)), none] [] σ (rc + 1) (rs + 6) := by
  refine sb_aload_n (pc' := 1) rfl rfl dL_near_0 ?_
  refine sb_iconst (pc' := 2) rfl dL_near_1 ?_
  refine sb_aload_n (pc' := 3) rfl rfl dL_near_2 ?_
  obtain ⟨d1, hd1, H⟩ := H
  refine sb_callVH (pc' := 6) rfl (rc := rc) (rs := rs) (mc' := 1) (ms' := 6) (As := []) (st := [(vi 0), (.ref (ad 131))]) of_0 rfl rfl (Nat.le_of_ble_eq_true rfl) hd1 kX10_near ⟨wd_1487, wd_1488, wd_1489⟩ dL_near_3 (Eb.mono H ?_)
  rintro o s1 (⟨r1, rfl, hr1, hs1, H⟩ | ⟨E, rfl, hs1, H⟩)
  case inr =>
    refine Or.inr ?_
    rcases H with ⟨rfl, H⟩
    · refine ⟨_, 11, rfl, cat_L_near_0, fun q9 => ?_⟩
      refine sb_astore_n (pc' := 12) rfl (L' := [some (.ref (ad 0)), some (.ref (ad 131)), some (.ref q9)]) rfl (by decide) dL_near_11 ?_
      refine Wb.forget [true, true, false] ?_
      show Wb g ad d mL_near Q 12 [some (.ref (ad 0)), some (.ref (ad 131)), none] [] s1 rc rs
      refine sb_iconst (pc' := 13) rfl dL_near_12 ?_
      exact sb_iret rfl rfl dL_near_13 (H (iR_lit rfl) hs1)
  refine Or.inl ⟨_, rfl, ?_⟩
  show Wb g ad d mL_near Q 6 [some (.ref (ad 0)), some (.ref (ad 131)), none] [(vi r1), (vi 0), (.ref (ad 131))] s1 rc rs
  refine sb_i2l (pc' := 7) rfl hr1 dL_near_6 ?_
  refine sb_last (pc' := 8) rfl aL_131 (by decide) (by decide)  dL_near_7 ?_
  refine sb_goto (tgt := 14) (by decide) dL_near_8 ?_
  refine sb_iconst (pc' := 15) rfl dL_near_14 ?_
  exact sb_iret rfl rfl dL_near_15 (H (iR_lit rfl) (SR_setL hs1 hr1.l))
theorem kHL_match : ae_mH mL_match 3 := ⟨rfl, wd_1498, rfl, wd_164, ⟨by decide +kernel, by decide +kernel, by decide +kernel⟩, by decide⟩
theorem cat_L_match_0 : ae_cat mL_match 4 "java/lang/IllegalArgumentException" 12 := ⟨[], ⟨0, 9, 12, 13⟩, [], "java/lang/IllegalArgumentException", rfl, (fun z hz => absurd hz List.not_mem_nil), rfl, by decide, wd_998, wc_1088, rfl⟩
theorem bL_match_0 {g : AG} {ad : Nat → Nat} {d : Nat} {Q : AO → SG → Prop} {rc rs : Nat} {σ : SG} {x1 : Int}  (hx1 : iR x1) (hS : SR σ) (H : Cl g ad d mX10_match 1 6 [(.ref (ad 0)), (vi x1)] σ (Kx (Ki fun r1 s1 => (iR 0 → SR (setL s1 131 0 r1) → Q (.inl (some (vi 0))) (setL s1 131 0 r1))) (fun E s1 => (E = "java/lang/IllegalArgumentException" ∧ (iR 1 → SR s1 → Q (.inl (some (vi 1))) s1))))) : Wb g ad d mL_match Q 0 [some (.ref (ad 0)), some (vi x1), some (.ref (ad 131)), none] [] σ (rc + 1) (rs + 6) := by
  refine sb_aload_n (pc' := 1) rfl rfl dL_match_0 ?_
  refine sb_iconst (pc' := 2) rfl dL_match_1 ?_
  refine sb_aload_n (pc' := 3) rfl rfl dL_match_2 ?_
  refine sb_iload_n (pc' := 4) rfl rfl dL_match_3 ?_
  obtain ⟨d1, hd1, H⟩ := H
  refine sb_callVH (pc' := 7) rfl (rc := rc) (rs := rs) (mc' := 1) (ms' := 6) (As := [(vi x1)]) (st := [(vi 0), (.ref (ad 131))]) of_0 rfl rfl (Nat.le_of_ble_eq_true rfl) hd1 kX10_match ⟨wd_1499, wd_1500, wd_1501⟩ dL_match_4 (Eb.mono H ?_)
  rintro o s1 (⟨r1, rfl, hr1, hs1, H⟩ | ⟨E, rfl, hs1, H⟩)
  case inr =>
    refine Or.inr ?_
    rcases H with ⟨rfl, H⟩
    · refine ⟨_, 12, rfl, cat_L_match_0, fun q9 => ?_⟩
      refine sb_astore_n (pc' := 13) rfl (L' := [some (.ref (ad 0)), some (vi x1), some (.ref (ad 131)), some (.ref q9)]) rfl (by decide) dL_match_12 ?_
      refine Wb.forget [true, true, true, false] ?_
      show Wb g ad d mL_match Q 13 [some (.ref (ad 0)), some (vi x1), some (.ref (ad 131)), none] [] s1 rc rs
      refine sb_iconst (pc' := 14) rfl dL_match_13 ?_
      exact sb_iret rfl rfl dL_match_14 (H (iR_lit rfl) hs1)
  refine Or.inl ⟨_, rfl, ?_⟩
  show Wb g ad d mL_match Q 7 [some (.ref (ad 0)), some (vi x1), some (.ref (ad 131)), none] [(vi r1), (vi 0), (.ref (ad 131))] s1 rc rs
  refine sb_i2l (pc' := 8) rfl hr1 dL_match_7 ?_
  refine sb_last (pc' := 9) rfl aL_131 (by decide) (by decide)  dL_match_8 ?_
  refine sb_goto (tgt := 15) (by decide) dL_match_9 ?_
  refine sb_iconst (pc' := 16) rfl dL_match_15 ?_
  exact sb_iret rfl rfl dL_match_16 (H (iR_lit rfl) (SR_setL hs1 hr1.l))
theorem kHL_agreed : ae_mH mL_agreed 3 := ⟨rfl, wd_1515, rfl, wd_164, ⟨by decide +kernel, by decide +kernel, by decide +kernel⟩, by decide⟩
theorem cat_L_agreed_0 : ae_cat mL_agreed 4 "java/lang/IllegalArgumentException" 12 := ⟨[], ⟨0, 9, 12, 13⟩, [], "java/lang/IllegalArgumentException", rfl, (fun z hz => absurd hz List.not_mem_nil), rfl, by decide, wd_998, wc_1088, rfl⟩
theorem bL_agreed_0 {g : AG} {ad : Nat → Nat} {d : Nat} {Q : AO → SG → Prop} {rc rs : Nat} {σ : SG} {x1 : Int}  (hx1 : iR x1) (hS : SR σ) (H : Cl g ad d mX10_agreed 1 6 [(.ref (ad 0)), (vi x1)] σ (Kx (Ki fun r1 s1 => (iR 0 → SR (setL s1 131 0 r1) → Q (.inl (some (vi 0))) (setL s1 131 0 r1))) (fun E s1 => (E = "java/lang/IllegalArgumentException" ∧ (iR 1 → SR s1 → Q (.inl (some (vi 1))) s1))))) : Wb g ad d mL_agreed Q 0 [some (.ref (ad 0)), some (vi x1), some (.ref (ad 131)), none] [] σ (rc + 1) (rs + 6) := by
  refine sb_aload_n (pc' := 1) rfl rfl dL_agreed_0 ?_
  refine sb_iconst (pc' := 2) rfl dL_agreed_1 ?_
  refine sb_aload_n (pc' := 3) rfl rfl dL_agreed_2 ?_
  refine sb_iload_n (pc' := 4) rfl rfl dL_agreed_3 ?_
  obtain ⟨d1, hd1, H⟩ := H
  refine sb_callVH (pc' := 7) rfl (rc := rc) (rs := rs) (mc' := 1) (ms' := 6) (As := [(vi x1)]) (st := [(vi 0), (.ref (ad 131))]) of_0 rfl rfl (Nat.le_of_ble_eq_true rfl) hd1 kX10_agreed ⟨wd_1516, wd_1517, wd_1518⟩ dL_agreed_4 (Eb.mono H ?_)
  rintro o s1 (⟨r1, rfl, hr1, hs1, H⟩ | ⟨E, rfl, hs1, H⟩)
  case inr =>
    refine Or.inr ?_
    rcases H with ⟨rfl, H⟩
    · refine ⟨_, 12, rfl, cat_L_agreed_0, fun q9 => ?_⟩
      refine sb_astore_n (pc' := 13) rfl (L' := [some (.ref (ad 0)), some (vi x1), some (.ref (ad 131)), some (.ref q9)]) rfl (by decide) dL_agreed_12 ?_
      refine Wb.forget [true, true, true, false] ?_
      show Wb g ad d mL_agreed Q 13 [some (.ref (ad 0)), some (vi x1), some (.ref (ad 131)), none] [] s1 rc rs
      refine sb_iconst (pc' := 14) rfl dL_agreed_13 ?_
      exact sb_iret rfl rfl dL_agreed_14 (H (iR_lit rfl) hs1)
  refine Or.inl ⟨_, rfl, ?_⟩
  show Wb g ad d mL_agreed Q 7 [some (.ref (ad 0)), some (vi x1), some (.ref (ad 131)), none] [(vi r1), (vi 0), (.ref (ad 131))] s1 rc rs
  refine sb_i2l (pc' := 8) rfl hr1 dL_agreed_7 ?_
  refine sb_last (pc' := 9) rfl aL_131 (by decide) (by decide)  dL_agreed_8 ?_
  refine sb_goto (tgt := 15) (by decide) dL_agreed_9 ?_
  refine sb_iconst (pc' := 16) rfl dL_agreed_15 ?_
  exact sb_iret rfl rfl dL_agreed_16 (H (iR_lit rfl) (SR_setL hs1 hr1.l))
theorem kHL_tuned : ae_mH mL_tuned 2 := ⟨rfl, wd_1538, rfl, wd_164, ⟨by decide +kernel, by decide +kernel, by decide +kernel⟩, by decide⟩
theorem cat_L_tuned_0 : ae_cat mL_tuned 3 "java/lang/IllegalArgumentException" 11 := ⟨[], ⟨0, 8, 11, 13⟩, [], "java/lang/IllegalArgumentException", rfl, (fun z hz => absurd hz List.not_mem_nil), rfl, by decide, wd_998, wc_1088, rfl⟩
theorem bL_tuned_0 {g : AG} {ad : Nat → Nat} {d : Nat} {Q : AO → SG → Prop} {rc rs : Nat} {σ : SG}    (hS : SR σ) (H : Cl g ad d mX10_tuned 1 6 [(.ref (ad 0))] σ (Kx (Ki fun r1 s1 => (iR 0 → SR (setL s1 131 0 r1) → Q (.inl (some (vi 0))) (setL s1 131 0 r1))) (fun E s1 => (E = "java/lang/IllegalArgumentException" ∧ (iR 1 → SR s1 → Q (.inl (some (vi 1))) s1))))) : Wb g ad d mL_tuned Q 0 [some (.ref (ad 0)), some (.ref (ad 131)), none] [] σ (rc + 1) (rs + 6) := by
  refine sb_aload_n (pc' := 1) rfl rfl dL_tuned_0 ?_
  refine sb_iconst (pc' := 2) rfl dL_tuned_1 ?_
  refine sb_aload_n (pc' := 3) rfl rfl dL_tuned_2 ?_
  obtain ⟨d1, hd1, H⟩ := H
  refine sb_callVH (pc' := 6) rfl (rc := rc) (rs := rs) (mc' := 1) (ms' := 6) (As := []) (st := [(vi 0), (.ref (ad 131))]) of_0 rfl rfl (Nat.le_of_ble_eq_true rfl) hd1 kX10_tuned ⟨wd_1539, wd_1540, wd_1541⟩ dL_tuned_3 (Eb.mono H ?_)
  rintro o s1 (⟨r1, rfl, hr1, hs1, H⟩ | ⟨E, rfl, hs1, H⟩)
  case inr =>
    refine Or.inr ?_
    rcases H with ⟨rfl, H⟩
    · refine ⟨_, 11, rfl, cat_L_tuned_0, fun q9 => ?_⟩
      refine sb_astore_n (pc' := 12) rfl (L' := [some (.ref (ad 0)), some (.ref (ad 131)), some (.ref q9)]) rfl (by decide) dL_tuned_11 ?_
      refine Wb.forget [true, true, false] ?_
      show Wb g ad d mL_tuned Q 12 [some (.ref (ad 0)), some (.ref (ad 131)), none] [] s1 rc rs
      refine sb_iconst (pc' := 13) rfl dL_tuned_12 ?_
      exact sb_iret rfl rfl dL_tuned_13 (H (iR_lit rfl) hs1)
  refine Or.inl ⟨_, rfl, ?_⟩
  show Wb g ad d mL_tuned Q 6 [some (.ref (ad 0)), some (.ref (ad 131)), none] [(vi r1), (vi 0), (.ref (ad 131))] s1 rc rs
  refine sb_i2l (pc' := 7) rfl hr1 dL_tuned_6 ?_
  refine sb_last (pc' := 8) rfl aL_131 (by decide) (by decide)  dL_tuned_7 ?_
  refine sb_goto (tgt := 14) (by decide) dL_tuned_8 ?_
  refine sb_iconst (pc' := 15) rfl dL_tuned_14 ?_
  exact sb_iret rfl rfl dL_tuned_15 (H (iR_lit rfl) (SR_setL hs1 hr1.l))
theorem bL_law_23 {g : AG} {ad : Nat → Nat} {d : Nat} {Q : AO → SG → Prop} {rc rs : Nat} {σ : SG} {x4 : Int} (hL : ag_L g ≤ 3072) (hx4 : iR x4) (hS : SR σ) (H : iR ((sL g) - 6) ∧ ((((sL g) - 6) < x4 → (iR 1 → SR σ → Q (.inl (some (vi 1))) σ)) ∧ (¬ ((sL g) - 6) < x4 → (0 ≤ x4 ∧ x4 < ag_L g) ∧ ((((bAnd (sx g x4) 63) < 0 ∨ 37 < (bAnd (sx g x4) 63)) → (iR x4 → SR σ → Wb g ad d mL_law Q 2061 [some (.ref (ag_b g)), some (.ref (ad 0)), some (.ref (ad 102)), some (.ref (ad 131)), some (vi x4), none, none] [] σ rc rs)) ∧ ((bAnd (sx g x4) 63) = 0 → (iR x4 → SR σ → Wb g ad d mL_law Q 208 [some (.ref (ag_b g)), some (.ref (ad 0)), some (.ref (ad 102)), some (.ref (ad 131)), some (vi x4), none, none] [] σ rc rs)) ∧ ((bAnd (sx g x4) 63) = 1 → (iR x4 → SR σ → Wb g ad d mL_law Q 281 [some (.ref (ag_b g)), some (.ref (ad 0)), some (.ref (ad 102)), some (.ref (ad 131)), some (vi x4), none, none] [] σ rc rs)) ∧ ((bAnd (sx g x4) 63) = 2 → (iR x4 → SR σ → Wb g ad d mL_law Q 306 [some (.ref (ag_b g)), some (.ref (ad 0)), some (.ref (ad 102)), some (.ref (ad 131)), some (vi x4), none, none] [] σ rc rs)) ∧ ((bAnd (sx g x4) 63) = 3 → (iR x4 → SR σ → Wb g ad d mL_law Q 350 [some (.ref (ag_b g)), some (.ref (ad 0)), some (.ref (ad 102)), some (.ref (ad 131)), some (vi x4), none, none] [] σ rc rs)) ∧ ((bAnd (sx g x4) 63) = 4 → (iR x4 → SR σ → Wb g ad d mL_law Q 394 [some (.ref (ag_b g)), some (.ref (ad 0)), some (.ref (ad 102)), some (.ref (ad 131)), some (vi x4), none, none] [] σ rc rs)) ∧ ((bAnd (sx g x4) 63) = 5 → (iR x4 → SR σ → Wb g ad d mL_law Q 438 [some (.ref (ag_b g)), some (.ref (ad 0)), some (.ref (ad 102)), some (.ref (ad 131)), some (vi x4), none, none] [] σ rc rs)) ∧ ((bAnd (sx g x4) 63) = 6 → (iR x4 → SR σ → Wb g ad d mL_law Q 482 [some (.ref (ag_b g)), some (.ref (ad 0)), some (.ref (ad 102)), some (.ref (ad 131)), some (vi x4), none, none] [] σ rc rs)) ∧ ((bAnd (sx g x4) 63) = 7 → (iR x4 → SR σ → Wb g ad d mL_law Q 495 [some (.ref (ag_b g)), some (.ref (ad 0)), some (.ref (ad 102)), some (.ref (ad 131)), some (vi x4), none, none] [] σ rc rs)) ∧ ((bAnd (sx g x4) 63) = 8 → (iR x4 → SR σ → Wb g ad d mL_law Q 563 [some (.ref (ag_b g)), some (.ref (ad 0)), some (.ref (ad 102)), some (.ref (ad 131)), some (vi x4), none, none] [] σ rc rs)) ∧ ((bAnd (sx g x4) 63) = 9 → (iR x4 → SR σ → Wb g ad d mL_law Q 631 [some (.ref (ag_b g)), some (.ref (ad 0)), some (.ref (ad 102)), some (.ref (ad 131)), some (vi x4), none, none] [] σ rc rs)) ∧ ((bAnd (sx g x4) 63) = 10 → (iR x4 → SR σ → Wb g ad d mL_law Q 727 [some (.ref (ag_b g)), some (.ref (ad 0)), some (.ref (ad 102)), some (.ref (ad 131)), some (vi x4), none, none] [] σ rc rs)) ∧ ((bAnd (sx g x4) 63) = 11 → (iR x4 → SR σ → Wb g ad d mL_law Q 795 [some (.ref (ag_b g)), some (.ref (ad 0)), some (.ref (ad 102)), some (.ref (ad 131)), some (vi x4), none, none] [] σ rc rs)) ∧ ((bAnd (sx g x4) 63) = 12 → (iR x4 → SR σ → Wb g ad d mL_law Q 851 [some (.ref (ag_b g)), some (.ref (ad 0)), some (.ref (ad 102)), some (.ref (ad 131)), some (vi x4), none, none] [] σ rc rs)) ∧ ((bAnd (sx g x4) 63) = 13 → (iR x4 → SR σ → Wb g ad d mL_law Q 919 [some (.ref (ag_b g)), some (.ref (ad 0)), some (.ref (ad 102)), some (.ref (ad 131)), some (vi x4), none, none] [] σ rc rs)) ∧ ((bAnd (sx g x4) 63) = 14 → (iR x4 → SR σ → Wb g ad d mL_law Q 987 [some (.ref (ag_b g)), some (.ref (ad 0)), some (.ref (ad 102)), some (.ref (ad 131)), some (vi x4), none, none] [] σ rc rs)) ∧ ((bAnd (sx g x4) 63) = 15 → (iR x4 → SR σ → Wb g ad d mL_law Q 1078 [some (.ref (ag_b g)), some (.ref (ad 0)), some (.ref (ad 102)), some (.ref (ad 131)), some (vi x4), none, none] [] σ rc rs)) ∧ ((bAnd (sx g x4) 63) = 16 → (iR x4 → SR σ → Wb g ad d mL_law Q 1146 [some (.ref (ag_b g)), some (.ref (ad 0)), some (.ref (ad 102)), some (.ref (ad 131)), some (vi x4), none, none] [] σ rc rs)) ∧ ((bAnd (sx g x4) 63) = 17 → (iR x4 → SR σ → Wb g ad d mL_law Q 1214 [some (.ref (ag_b g)), some (.ref (ad 0)), some (.ref (ad 102)), some (.ref (ad 131)), some (vi x4), none, none] [] σ rc rs)) ∧ ((bAnd (sx g x4) 63) = 18 → (iR x4 → SR σ → Wb g ad d mL_law Q 1282 [some (.ref (ag_b g)), some (.ref (ad 0)), some (.ref (ad 102)), some (.ref (ad 131)), some (vi x4), none, none] [] σ rc rs)) ∧ ((bAnd (sx g x4) 63) = 19 → (iR x4 → SR σ → Wb g ad d mL_law Q 1295 [some (.ref (ag_b g)), some (.ref (ad 0)), some (.ref (ad 102)), some (.ref (ad 131)), some (vi x4), none, none] [] σ rc rs)) ∧ ((bAnd (sx g x4) 63) = 20 → (iR x4 → SR σ → Wb g ad d mL_law Q 1308 [some (.ref (ag_b g)), some (.ref (ad 0)), some (.ref (ad 102)), some (.ref (ad 131)), some (vi x4), none, none] [] σ rc rs)) ∧ ((bAnd (sx g x4) 63) = 21 → (iR x4 → SR σ → Wb g ad d mL_law Q 1376 [some (.ref (ag_b g)), some (.ref (ad 0)), some (.ref (ad 102)), some (.ref (ad 131)), some (vi x4), none, none] [] σ rc rs)) ∧ ((bAnd (sx g x4) 63) = 22 → (iR x4 → SR σ → Wb g ad d mL_law Q 1456 [some (.ref (ag_b g)), some (.ref (ad 0)), some (.ref (ad 102)), some (.ref (ad 131)), some (vi x4), none, none] [] σ rc rs)) ∧ ((bAnd (sx g x4) 63) = 23 → (iR x4 → SR σ → Wb g ad d mL_law Q 1524 [some (.ref (ag_b g)), some (.ref (ad 0)), some (.ref (ad 102)), some (.ref (ad 131)), some (vi x4), none, none] [] σ rc rs)) ∧ ((bAnd (sx g x4) 63) = 24 → (iR x4 → SR σ → Wb g ad d mL_law Q 1580 [some (.ref (ag_b g)), some (.ref (ad 0)), some (.ref (ad 102)), some (.ref (ad 131)), some (vi x4), none, none] [] σ rc rs)) ∧ ((bAnd (sx g x4) 63) = 25 → (iR x4 → SR σ → Wb g ad d mL_law Q 1648 [some (.ref (ag_b g)), some (.ref (ad 0)), some (.ref (ad 102)), some (.ref (ad 131)), some (vi x4), none, none] [] σ rc rs)) ∧ ((bAnd (sx g x4) 63) = 26 → (iR x4 → SR σ → Wb g ad d mL_law Q 1716 [some (.ref (ag_b g)), some (.ref (ad 0)), some (.ref (ad 102)), some (.ref (ad 131)), some (vi x4), none, none] [] σ rc rs)) ∧ ((bAnd (sx g x4) 63) = 27 → (iR x4 → SR σ → Wb g ad d mL_law Q 1760 [some (.ref (ag_b g)), some (.ref (ad 0)), some (.ref (ad 102)), some (.ref (ad 131)), some (vi x4), none, none] [] σ rc rs)) ∧ ((bAnd (sx g x4) 63) = 28 → (iR x4 → SR σ → Wb g ad d mL_law Q 1804 [some (.ref (ag_b g)), some (.ref (ad 0)), some (.ref (ad 102)), some (.ref (ad 131)), some (vi x4), none, none] [] σ rc rs)) ∧ ((bAnd (sx g x4) 63) = 29 → (iR x4 → SR σ → Wb g ad d mL_law Q 1860 [some (.ref (ag_b g)), some (.ref (ad 0)), some (.ref (ad 102)), some (.ref (ad 131)), some (vi x4), none, none] [] σ rc rs)) ∧ ((bAnd (sx g x4) 63) = 30 → (iR x4 → SR σ → Wb g ad d mL_law Q 1916 [some (.ref (ag_b g)), some (.ref (ad 0)), some (.ref (ad 102)), some (.ref (ad 131)), some (vi x4), none, none] [] σ rc rs)) ∧ ((bAnd (sx g x4) 63) = 31 → (iR x4 → SR σ → Wb g ad d mL_law Q 1929 [some (.ref (ag_b g)), some (.ref (ad 0)), some (.ref (ad 102)), some (.ref (ad 131)), some (vi x4), none, none] [] σ rc rs)) ∧ ((bAnd (sx g x4) 63) = 32 → (iR x4 → SR σ → Wb g ad d mL_law Q 1942 [some (.ref (ag_b g)), some (.ref (ad 0)), some (.ref (ad 102)), some (.ref (ad 131)), some (vi x4), none, none] [] σ rc rs)) ∧ ((bAnd (sx g x4) 63) = 33 → (iR x4 → SR σ → Wb g ad d mL_law Q 1955 [some (.ref (ag_b g)), some (.ref (ad 0)), some (.ref (ad 102)), some (.ref (ad 131)), some (vi x4), none, none] [] σ rc rs)) ∧ ((bAnd (sx g x4) 63) = 34 → (iR x4 → SR σ → Wb g ad d mL_law Q 1968 [some (.ref (ag_b g)), some (.ref (ad 0)), some (.ref (ad 102)), some (.ref (ad 131)), some (vi x4), none, none] [] σ rc rs)) ∧ ((bAnd (sx g x4) 63) = 35 → (iR x4 → SR σ → Wb g ad d mL_law Q 2012 [some (.ref (ag_b g)), some (.ref (ad 0)), some (.ref (ad 102)), some (.ref (ad 131)), some (vi x4), none, none] [] σ rc rs)) ∧ ((bAnd (sx g x4) 63) = 36 → (iR x4 → SR σ → Wb g ad d mL_law Q 2023 [some (.ref (ag_b g)), some (.ref (ad 0)), some (.ref (ad 102)), some (.ref (ad 131)), some (vi x4), none, none] [] σ rc rs)) ∧ ((bAnd (sx g x4) 63) = 37 → (iR x4 → SR σ → Wb g ad d mL_law Q 2036 [some (.ref (ag_b g)), some (.ref (ad 0)), some (.ref (ad 102)), some (.ref (ad 131)), some (vi x4), none, none] [] σ rc rs)))))) : Wb g ad d mL_law Q 23 [some (.ref (ag_b g)), some (.ref (ad 0)), some (.ref (ad 102)), some (.ref (ad 131)), some (vi x4), none, none] [] σ rc rs := by
  refine sb_iload (pc' := 25) rfl rfl dL_law_23 ?_
  refine sb_aload_n (pc' := 26) rfl rfl dL_law_25 ?_
  refine sb_slen (pc' := 27) rfl dL_law_26 ?_
  refine sb_bipush (pc' := 29) rfl (z := 6) (by decide) dL_law_27 ?_
  refine sb_isub (pc' := 30) rfl dL_law_29 ?_
  obtain ⟨o1, H⟩ := H
  refine sb_icmp_gt (pc' := 33) (tgt := 2067) rfl (by decide) hx4 o1 dL_law_30 ?_ ?_
  · intro cc; have H := H.1 cc
    refine sb_iconst (pc' := 2068) rfl dL_law_2067 ?_
    exact sb_iret rfl (nar_z2 (Or.inr rfl)) dL_law_2068 (H (iR_lit rfl) hS)
  · intro cc; have H := H.2 cc
    refine sb_aload_n (pc' := 34) rfl rfl dL_law_33 ?_
    refine sb_iload (pc' := 36) rfl rfl dL_law_34 ?_
    obtain ⟨o2, H⟩ := H
    refine sb_sld (pc' := 37) rfl o2.1 o2.2 hL dL_law_36 ?_
    refine sb_bipush (pc' := 39) rfl (z := 63) (by decide) dL_law_37 ?_
    refine sb_iand (pc' := 40) rfl dL_law_39 ?_
    by_cases cc : (bAnd (sx g x4) 63) < 0 ∨ 37 < (bAnd (sx g x4) 63)
    · have H := H.1 cc
      refine sb_swOut (tgt := 2061) (iR_b _) cc (by decide) dL_law_40 ?_
      exact (H hx4 hS)
    · have H := H.2
      rcases (show (bAnd (sx g x4) 63) = 0 ∨ (bAnd (sx g x4) 63) = 1 ∨ (bAnd (sx g x4) 63) = 2 ∨ (bAnd (sx g x4) 63) = 3 ∨ (bAnd (sx g x4) 63) = 4 ∨ (bAnd (sx g x4) 63) = 5 ∨ (bAnd (sx g x4) 63) = 6 ∨ (bAnd (sx g x4) 63) = 7 ∨ (bAnd (sx g x4) 63) = 8 ∨ (bAnd (sx g x4) 63) = 9 ∨ (bAnd (sx g x4) 63) = 10 ∨ (bAnd (sx g x4) 63) = 11 ∨ (bAnd (sx g x4) 63) = 12 ∨ (bAnd (sx g x4) 63) = 13 ∨ (bAnd (sx g x4) 63) = 14 ∨ (bAnd (sx g x4) 63) = 15 ∨ (bAnd (sx g x4) 63) = 16 ∨ (bAnd (sx g x4) 63) = 17 ∨ (bAnd (sx g x4) 63) = 18 ∨ (bAnd (sx g x4) 63) = 19 ∨ (bAnd (sx g x4) 63) = 20 ∨ (bAnd (sx g x4) 63) = 21 ∨ (bAnd (sx g x4) 63) = 22 ∨ (bAnd (sx g x4) 63) = 23 ∨ (bAnd (sx g x4) 63) = 24 ∨ (bAnd (sx g x4) 63) = 25 ∨ (bAnd (sx g x4) 63) = 26 ∨ (bAnd (sx g x4) 63) = 27 ∨ (bAnd (sx g x4) 63) = 28 ∨ (bAnd (sx g x4) 63) = 29 ∨ (bAnd (sx g x4) 63) = 30 ∨ (bAnd (sx g x4) 63) = 31 ∨ (bAnd (sx g x4) 63) = 32 ∨ (bAnd (sx g x4) 63) = 33 ∨ (bAnd (sx g x4) 63) = 34 ∨ (bAnd (sx g x4) 63) = 35 ∨ (bAnd (sx g x4) 63) = 36 ∨ (bAnd (sx g x4) 63) = 37 by omega) with cc | cc | cc | cc | cc | cc | cc | cc | cc | cc | cc | cc | cc | cc | cc | cc | cc | cc | cc | cc | cc | cc | cc | cc | cc | cc | cc | cc | cc | cc | cc | cc | cc | cc | cc | cc | cc | cc
      · have H := H.1 cc
        refine sb_swIn (tgt := 208) (off := 168) (iR_b _) (by omega) (by omega) (by rw [cc]; rfl) (by decide) dL_law_40 ?_
        exact (H hx4 hS)
      · have H := H.2.1 cc
        refine sb_swIn (tgt := 281) (off := 241) (iR_b _) (by omega) (by omega) (by rw [cc]; rfl) (by decide) dL_law_40 ?_
        exact (H hx4 hS)
      · have H := H.2.2.1 cc
        refine sb_swIn (tgt := 306) (off := 266) (iR_b _) (by omega) (by omega) (by rw [cc]; rfl) (by decide) dL_law_40 ?_
        exact (H hx4 hS)
      · have H := H.2.2.2.1 cc
        refine sb_swIn (tgt := 350) (off := 310) (iR_b _) (by omega) (by omega) (by rw [cc]; rfl) (by decide) dL_law_40 ?_
        exact (H hx4 hS)
      · have H := H.2.2.2.2.1 cc
        refine sb_swIn (tgt := 394) (off := 354) (iR_b _) (by omega) (by omega) (by rw [cc]; rfl) (by decide) dL_law_40 ?_
        exact (H hx4 hS)
      · have H := H.2.2.2.2.2.1 cc
        refine sb_swIn (tgt := 438) (off := 398) (iR_b _) (by omega) (by omega) (by rw [cc]; rfl) (by decide) dL_law_40 ?_
        exact (H hx4 hS)
      · have H := H.2.2.2.2.2.2.1 cc
        refine sb_swIn (tgt := 482) (off := 442) (iR_b _) (by omega) (by omega) (by rw [cc]; rfl) (by decide) dL_law_40 ?_
        exact (H hx4 hS)
      · have H := H.2.2.2.2.2.2.2.1 cc
        refine sb_swIn (tgt := 495) (off := 455) (iR_b _) (by omega) (by omega) (by rw [cc]; rfl) (by decide) dL_law_40 ?_
        exact (H hx4 hS)
      · have H := H.2.2.2.2.2.2.2.2.1 cc
        refine sb_swIn (tgt := 563) (off := 523) (iR_b _) (by omega) (by omega) (by rw [cc]; rfl) (by decide) dL_law_40 ?_
        exact (H hx4 hS)
      · have H := H.2.2.2.2.2.2.2.2.2.1 cc
        refine sb_swIn (tgt := 631) (off := 591) (iR_b _) (by omega) (by omega) (by rw [cc]; rfl) (by decide) dL_law_40 ?_
        exact (H hx4 hS)
      · have H := H.2.2.2.2.2.2.2.2.2.2.1 cc
        refine sb_swIn (tgt := 727) (off := 687) (iR_b _) (by omega) (by omega) (by rw [cc]; rfl) (by decide) dL_law_40 ?_
        exact (H hx4 hS)
      · have H := H.2.2.2.2.2.2.2.2.2.2.2.1 cc
        refine sb_swIn (tgt := 795) (off := 755) (iR_b _) (by omega) (by omega) (by rw [cc]; rfl) (by decide) dL_law_40 ?_
        exact (H hx4 hS)
      · have H := H.2.2.2.2.2.2.2.2.2.2.2.2.1 cc
        refine sb_swIn (tgt := 851) (off := 811) (iR_b _) (by omega) (by omega) (by rw [cc]; rfl) (by decide) dL_law_40 ?_
        exact (H hx4 hS)
      · have H := H.2.2.2.2.2.2.2.2.2.2.2.2.2.1 cc
        refine sb_swIn (tgt := 919) (off := 879) (iR_b _) (by omega) (by omega) (by rw [cc]; rfl) (by decide) dL_law_40 ?_
        exact (H hx4 hS)
      · have H := H.2.2.2.2.2.2.2.2.2.2.2.2.2.2.1 cc
        refine sb_swIn (tgt := 987) (off := 947) (iR_b _) (by omega) (by omega) (by rw [cc]; rfl) (by decide) dL_law_40 ?_
        exact (H hx4 hS)
      · have H := H.2.2.2.2.2.2.2.2.2.2.2.2.2.2.2.1 cc
        refine sb_swIn (tgt := 1078) (off := 1038) (iR_b _) (by omega) (by omega) (by rw [cc]; rfl) (by decide) dL_law_40 ?_
        exact (H hx4 hS)
      · have H := H.2.2.2.2.2.2.2.2.2.2.2.2.2.2.2.2.1 cc
        refine sb_swIn (tgt := 1146) (off := 1106) (iR_b _) (by omega) (by omega) (by rw [cc]; rfl) (by decide) dL_law_40 ?_
        exact (H hx4 hS)
      · have H := H.2.2.2.2.2.2.2.2.2.2.2.2.2.2.2.2.2.1 cc
        refine sb_swIn (tgt := 1214) (off := 1174) (iR_b _) (by omega) (by omega) (by rw [cc]; rfl) (by decide) dL_law_40 ?_
        exact (H hx4 hS)
      · have H := H.2.2.2.2.2.2.2.2.2.2.2.2.2.2.2.2.2.2.1 cc
        refine sb_swIn (tgt := 1282) (off := 1242) (iR_b _) (by omega) (by omega) (by rw [cc]; rfl) (by decide) dL_law_40 ?_
        exact (H hx4 hS)
      · have H := H.2.2.2.2.2.2.2.2.2.2.2.2.2.2.2.2.2.2.2.1 cc
        refine sb_swIn (tgt := 1295) (off := 1255) (iR_b _) (by omega) (by omega) (by rw [cc]; rfl) (by decide) dL_law_40 ?_
        exact (H hx4 hS)
      · have H := H.2.2.2.2.2.2.2.2.2.2.2.2.2.2.2.2.2.2.2.2.1 cc
        refine sb_swIn (tgt := 1308) (off := 1268) (iR_b _) (by omega) (by omega) (by rw [cc]; rfl) (by decide) dL_law_40 ?_
        exact (H hx4 hS)
      · have H := H.2.2.2.2.2.2.2.2.2.2.2.2.2.2.2.2.2.2.2.2.2.1 cc
        refine sb_swIn (tgt := 1376) (off := 1336) (iR_b _) (by omega) (by omega) (by rw [cc]; rfl) (by decide) dL_law_40 ?_
        exact (H hx4 hS)
      · have H := H.2.2.2.2.2.2.2.2.2.2.2.2.2.2.2.2.2.2.2.2.2.2.1 cc
        refine sb_swIn (tgt := 1456) (off := 1416) (iR_b _) (by omega) (by omega) (by rw [cc]; rfl) (by decide) dL_law_40 ?_
        exact (H hx4 hS)
      · have H := H.2.2.2.2.2.2.2.2.2.2.2.2.2.2.2.2.2.2.2.2.2.2.2.1 cc
        refine sb_swIn (tgt := 1524) (off := 1484) (iR_b _) (by omega) (by omega) (by rw [cc]; rfl) (by decide) dL_law_40 ?_
        exact (H hx4 hS)
      · have H := H.2.2.2.2.2.2.2.2.2.2.2.2.2.2.2.2.2.2.2.2.2.2.2.2.1 cc
        refine sb_swIn (tgt := 1580) (off := 1540) (iR_b _) (by omega) (by omega) (by rw [cc]; rfl) (by decide) dL_law_40 ?_
        exact (H hx4 hS)
      · have H := H.2.2.2.2.2.2.2.2.2.2.2.2.2.2.2.2.2.2.2.2.2.2.2.2.2.1 cc
        refine sb_swIn (tgt := 1648) (off := 1608) (iR_b _) (by omega) (by omega) (by rw [cc]; rfl) (by decide) dL_law_40 ?_
        exact (H hx4 hS)
      · have H := H.2.2.2.2.2.2.2.2.2.2.2.2.2.2.2.2.2.2.2.2.2.2.2.2.2.2.1 cc
        refine sb_swIn (tgt := 1716) (off := 1676) (iR_b _) (by omega) (by omega) (by rw [cc]; rfl) (by decide) dL_law_40 ?_
        exact (H hx4 hS)
      · have H := H.2.2.2.2.2.2.2.2.2.2.2.2.2.2.2.2.2.2.2.2.2.2.2.2.2.2.2.1 cc
        refine sb_swIn (tgt := 1760) (off := 1720) (iR_b _) (by omega) (by omega) (by rw [cc]; rfl) (by decide) dL_law_40 ?_
        exact (H hx4 hS)
      · have H := H.2.2.2.2.2.2.2.2.2.2.2.2.2.2.2.2.2.2.2.2.2.2.2.2.2.2.2.2.1 cc
        refine sb_swIn (tgt := 1804) (off := 1764) (iR_b _) (by omega) (by omega) (by rw [cc]; rfl) (by decide) dL_law_40 ?_
        exact (H hx4 hS)
      · have H := H.2.2.2.2.2.2.2.2.2.2.2.2.2.2.2.2.2.2.2.2.2.2.2.2.2.2.2.2.2.1 cc
        refine sb_swIn (tgt := 1860) (off := 1820) (iR_b _) (by omega) (by omega) (by rw [cc]; rfl) (by decide) dL_law_40 ?_
        exact (H hx4 hS)
      · have H := H.2.2.2.2.2.2.2.2.2.2.2.2.2.2.2.2.2.2.2.2.2.2.2.2.2.2.2.2.2.2.1 cc
        refine sb_swIn (tgt := 1916) (off := 1876) (iR_b _) (by omega) (by omega) (by rw [cc]; rfl) (by decide) dL_law_40 ?_
        exact (H hx4 hS)
      · have H := H.2.2.2.2.2.2.2.2.2.2.2.2.2.2.2.2.2.2.2.2.2.2.2.2.2.2.2.2.2.2.2.1 cc
        refine sb_swIn (tgt := 1929) (off := 1889) (iR_b _) (by omega) (by omega) (by rw [cc]; rfl) (by decide) dL_law_40 ?_
        exact (H hx4 hS)
      · have H := H.2.2.2.2.2.2.2.2.2.2.2.2.2.2.2.2.2.2.2.2.2.2.2.2.2.2.2.2.2.2.2.2.1 cc
        refine sb_swIn (tgt := 1942) (off := 1902) (iR_b _) (by omega) (by omega) (by rw [cc]; rfl) (by decide) dL_law_40 ?_
        exact (H hx4 hS)
      · have H := H.2.2.2.2.2.2.2.2.2.2.2.2.2.2.2.2.2.2.2.2.2.2.2.2.2.2.2.2.2.2.2.2.2.1 cc
        refine sb_swIn (tgt := 1955) (off := 1915) (iR_b _) (by omega) (by omega) (by rw [cc]; rfl) (by decide) dL_law_40 ?_
        exact (H hx4 hS)
      · have H := H.2.2.2.2.2.2.2.2.2.2.2.2.2.2.2.2.2.2.2.2.2.2.2.2.2.2.2.2.2.2.2.2.2.2.1 cc
        refine sb_swIn (tgt := 1968) (off := 1928) (iR_b _) (by omega) (by omega) (by rw [cc]; rfl) (by decide) dL_law_40 ?_
        exact (H hx4 hS)
      · have H := H.2.2.2.2.2.2.2.2.2.2.2.2.2.2.2.2.2.2.2.2.2.2.2.2.2.2.2.2.2.2.2.2.2.2.2.1 cc
        refine sb_swIn (tgt := 2012) (off := 1972) (iR_b _) (by omega) (by omega) (by rw [cc]; rfl) (by decide) dL_law_40 ?_
        exact (H hx4 hS)
      · have H := H.2.2.2.2.2.2.2.2.2.2.2.2.2.2.2.2.2.2.2.2.2.2.2.2.2.2.2.2.2.2.2.2.2.2.2.2.1 cc
        refine sb_swIn (tgt := 2023) (off := 1983) (iR_b _) (by omega) (by omega) (by rw [cc]; rfl) (by decide) dL_law_40 ?_
        exact (H hx4 hS)
      · have H := H.2.2.2.2.2.2.2.2.2.2.2.2.2.2.2.2.2.2.2.2.2.2.2.2.2.2.2.2.2.2.2.2.2.2.2.2.2 cc
        refine sb_swIn (tgt := 2036) (off := 1996) (iR_b _) (by omega) (by omega) (by rw [cc]; rfl) (by decide) dL_law_40 ?_
        exact (H hx4 hS)
theorem bL_law_208 {g : AG} {ad : Nat → Nat} {d : Nat} {Q : AO → SG → Prop} {rc rs : Nat} {σ : SG} {x4 : Int} (hL : ag_L g ≤ 3072) (hx4 : iR x4) (hS : SR σ) (H : (0 ≤ x4 + 1 ∧ x4 + 1 < ag_L g) ∧ (0 ≤ x4 + 2 ∧ x4 + 2 < ag_L g) ∧ (0 ≤ x4 + 3 ∧ x4 + 3 < ag_L g) ∧ (0 ≤ x4 + 4 ∧ x4 + 4 < ag_L g) ∧ (0 ≤ x4 + 5 ∧ x4 + 5 < ag_L g) ∧ Cl g ad d mX10_feed 0 0 [(.ref (ad 0)), (vi (sx g (x4 + 1))), (vi (sx g (x4 + 2))), (vi (sx g (x4 + 3))), (vi (sx g (x4 + 4))), (vi (sx g (x4 + 5)))] σ (Ki fun r6 s6 => Cl g ad d mX11_feed 0 0 [(.ref (ad 102)), (vi (sx g (x4 + 1))), (vi (sx g (x4 + 2))), (vi (sx g (x4 + 3))), (vi (sx g (x4 + 4))), (vi (sx g (x4 + 5)))] s6 (Ki fun r7 s7 => ((r6 = r7 → (iR x4 → SR s7 → Wb g ad d mL_law Q 2061 [some (.ref (ag_b g)), some (.ref (ad 0)), some (.ref (ad 102)), some (.ref (ad 131)), some (vi x4), none, none] [] s7 rc rs)) ∧ (¬ r6 = r7 → (iR 0 → SR s7 → Q (.inl (some (vi 0))) s7)))))) : Wb g ad d mL_law Q 208 [some (.ref (ag_b g)), some (.ref (ad 0)), some (.ref (ad 102)), some (.ref (ad 131)), some (vi x4), none, none] [] σ rc rs := by
  refine sb_aload_n (pc' := 209) rfl rfl dL_law_208 ?_
  refine sb_aload_n (pc' := 210) rfl rfl dL_law_209 ?_
  refine sb_iload (pc' := 212) rfl rfl dL_law_210 ?_
  refine sb_iconst (pc' := 213) rfl dL_law_212 ?_
  refine sb_iadd (pc' := 214) rfl dL_law_213 ?_
  obtain ⟨o1, H⟩ := H
  refine sb_sld (pc' := 215) rfl o1.1 o1.2 hL dL_law_214 ?_
  refine sb_aload_n (pc' := 216) rfl rfl dL_law_215 ?_
  refine sb_iload (pc' := 218) rfl rfl dL_law_216 ?_
  refine sb_iconst (pc' := 219) rfl dL_law_218 ?_
  refine sb_iadd (pc' := 220) rfl dL_law_219 ?_
  obtain ⟨o2, H⟩ := H
  refine sb_sld (pc' := 221) rfl o2.1 o2.2 hL dL_law_220 ?_
  refine sb_aload_n (pc' := 222) rfl rfl dL_law_221 ?_
  refine sb_iload (pc' := 224) rfl rfl dL_law_222 ?_
  refine sb_iconst (pc' := 225) rfl dL_law_224 ?_
  refine sb_iadd (pc' := 226) rfl dL_law_225 ?_
  obtain ⟨o3, H⟩ := H
  refine sb_sld (pc' := 227) rfl o3.1 o3.2 hL dL_law_226 ?_
  refine sb_aload_n (pc' := 228) rfl rfl dL_law_227 ?_
  refine sb_iload (pc' := 230) rfl rfl dL_law_228 ?_
  refine sb_iconst (pc' := 231) rfl dL_law_230 ?_
  refine sb_iadd (pc' := 232) rfl dL_law_231 ?_
  obtain ⟨o4, H⟩ := H
  refine sb_sld (pc' := 233) rfl o4.1 o4.2 hL dL_law_232 ?_
  refine sb_aload_n (pc' := 234) rfl rfl dL_law_233 ?_
  refine sb_iload (pc' := 236) rfl rfl dL_law_234 ?_
  refine sb_iconst (pc' := 237) rfl dL_law_236 ?_
  refine sb_iadd (pc' := 238) rfl dL_law_237 ?_
  obtain ⟨o5, H⟩ := H
  refine sb_sld (pc' := 239) rfl o5.1 o5.2 hL dL_law_238 ?_
  obtain ⟨d6, hd6, H⟩ := H
  refine sb_callV (pc' := 242) rfl rfl (rc := rc) (rs := rs) (mc' := 0) (ms' := 0) (As := [(vi (sx g (x4 + 1))), (vi (sx g (x4 + 2))), (vi (sx g (x4 + 3))), (vi (sx g (x4 + 4))), (vi (sx g (x4 + 5)))]) (st := []) of_0 rfl rfl (Nat.le_of_ble_eq_true rfl) hd6 kX10_feed ⟨wd_688, wd_689, wd_690⟩ dL_law_239 (Eb.mono H ?_)
  rintro o s6 ⟨r6, rfl, hr6, hs6, H⟩
  show Wb g ad d mL_law Q 242 [some (.ref (ag_b g)), some (.ref (ad 0)), some (.ref (ad 102)), some (.ref (ad 131)), some (vi x4), none, none] [(vi r6)] s6 rc rs
  refine sb_aload_n (pc' := 243) rfl rfl dL_law_242 ?_
  refine sb_aload_n (pc' := 244) rfl rfl dL_law_243 ?_
  refine sb_iload (pc' := 246) rfl rfl dL_law_244 ?_
  refine sb_iconst (pc' := 247) rfl dL_law_246 ?_
  refine sb_iadd (pc' := 248) rfl dL_law_247 ?_
  refine sb_sld (pc' := 249) rfl o1.1 o1.2 hL dL_law_248 ?_
  refine sb_aload_n (pc' := 250) rfl rfl dL_law_249 ?_
  refine sb_iload (pc' := 252) rfl rfl dL_law_250 ?_
  refine sb_iconst (pc' := 253) rfl dL_law_252 ?_
  refine sb_iadd (pc' := 254) rfl dL_law_253 ?_
  refine sb_sld (pc' := 255) rfl o2.1 o2.2 hL dL_law_254 ?_
  refine sb_aload_n (pc' := 256) rfl rfl dL_law_255 ?_
  refine sb_iload (pc' := 258) rfl rfl dL_law_256 ?_
  refine sb_iconst (pc' := 259) rfl dL_law_258 ?_
  refine sb_iadd (pc' := 260) rfl dL_law_259 ?_
  refine sb_sld (pc' := 261) rfl o3.1 o3.2 hL dL_law_260 ?_
  refine sb_aload_n (pc' := 262) rfl rfl dL_law_261 ?_
  refine sb_iload (pc' := 264) rfl rfl dL_law_262 ?_
  refine sb_iconst (pc' := 265) rfl dL_law_264 ?_
  refine sb_iadd (pc' := 266) rfl dL_law_265 ?_
  refine sb_sld (pc' := 267) rfl o4.1 o4.2 hL dL_law_266 ?_
  refine sb_aload_n (pc' := 268) rfl rfl dL_law_267 ?_
  refine sb_iload (pc' := 270) rfl rfl dL_law_268 ?_
  refine sb_iconst (pc' := 271) rfl dL_law_270 ?_
  refine sb_iadd (pc' := 272) rfl dL_law_271 ?_
  refine sb_sld (pc' := 273) rfl o5.1 o5.2 hL dL_law_272 ?_
  obtain ⟨d7, hd7, H⟩ := H
  refine sb_callV (pc' := 276) rfl rfl (rc := rc) (rs := rs) (mc' := 0) (ms' := 0) (As := [(vi (sx g (x4 + 1))), (vi (sx g (x4 + 2))), (vi (sx g (x4 + 3))), (vi (sx g (x4 + 4))), (vi (sx g (x4 + 5)))]) (st := [(vi r6)]) of_102 rfl rfl (Nat.le_of_ble_eq_true rfl) hd7 kX11_feed ⟨wd_1711, wd_1712, wd_1713⟩ dL_law_273 (Eb.mono H ?_)
  rintro o s7 ⟨r7, rfl, hr7, hs7, H⟩
  show Wb g ad d mL_law Q 276 [some (.ref (ag_b g)), some (.ref (ad 0)), some (.ref (ad 102)), some (.ref (ad 131)), some (vi x4), none, none] [(vi r7), (vi r6)] s7 rc rs
  refine sb_icmp_eq (pc' := 279) (tgt := 2061) rfl (by decide) hr6 hr7 dL_law_276 ?_ ?_
  · intro cc; have H := H.1 cc
    exact (H hx4 hs7)
  · intro cc; have H := H.2 cc
    refine sb_iconst (pc' := 280) rfl dL_law_279 ?_
    exact sb_iret rfl (nar_z2 (Or.inl rfl)) dL_law_280 (H (iR_lit rfl) hs7)
theorem bL_law_281 {g : AG} {ad : Nat → Nat} {d : Nat} {Q : AO → SG → Prop} {rc rs : Nat} {σ : SG} {x4 : Int} (hL : ag_L g ≤ 3072) (hx4 : iR x4) (hS : SR σ) (H : (0 ≤ x4 + 1 ∧ x4 + 1 < ag_L g) ∧ Cl g ad d mX10_end 0 0 [(.ref (ad 0)), (vi (sx g (x4 + 1)))] σ (Ki fun r2 s2 => Cl g ad d mX11_end 0 0 [(.ref (ad 102)), (vi (sx g (x4 + 1)))] s2 (Ki fun r3 s3 => ((r2 = r3 → (iR x4 → SR s3 → Wb g ad d mL_law Q 2061 [some (.ref (ag_b g)), some (.ref (ad 0)), some (.ref (ad 102)), some (.ref (ad 131)), some (vi x4), none, none] [] s3 rc rs)) ∧ (¬ r2 = r3 → (iR 0 → SR s3 → Q (.inl (some (vi 0))) s3)))))) : Wb g ad d mL_law Q 281 [some (.ref (ag_b g)), some (.ref (ad 0)), some (.ref (ad 102)), some (.ref (ad 131)), some (vi x4), none, none] [] σ rc rs := by
  refine sb_aload_n (pc' := 282) rfl rfl dL_law_281 ?_
  refine sb_aload_n (pc' := 283) rfl rfl dL_law_282 ?_
  refine sb_iload (pc' := 285) rfl rfl dL_law_283 ?_
  refine sb_iconst (pc' := 286) rfl dL_law_285 ?_
  refine sb_iadd (pc' := 287) rfl dL_law_286 ?_
  obtain ⟨o1, H⟩ := H
  refine sb_sld (pc' := 288) rfl o1.1 o1.2 hL dL_law_287 ?_
  obtain ⟨d2, hd2, H⟩ := H
  refine sb_callV (pc' := 291) rfl rfl (rc := rc) (rs := rs) (mc' := 0) (ms' := 0) (As := [(vi (sx g (x4 + 1)))]) (st := []) of_0 rfl rfl (Nat.le_of_ble_eq_true rfl) hd2 kX10_end ⟨wd_696, wd_697, wd_698⟩ dL_law_288 (Eb.mono H ?_)
  rintro o s2 ⟨r2, rfl, hr2, hs2, H⟩
  show Wb g ad d mL_law Q 291 [some (.ref (ag_b g)), some (.ref (ad 0)), some (.ref (ad 102)), some (.ref (ad 131)), some (vi x4), none, none] [(vi r2)] s2 rc rs
  refine sb_aload_n (pc' := 292) rfl rfl dL_law_291 ?_
  refine sb_aload_n (pc' := 293) rfl rfl dL_law_292 ?_
  refine sb_iload (pc' := 295) rfl rfl dL_law_293 ?_
  refine sb_iconst (pc' := 296) rfl dL_law_295 ?_
  refine sb_iadd (pc' := 297) rfl dL_law_296 ?_
  refine sb_sld (pc' := 298) rfl o1.1 o1.2 hL dL_law_297 ?_
  obtain ⟨d3, hd3, H⟩ := H
  refine sb_callV (pc' := 301) rfl rfl (rc := rc) (rs := rs) (mc' := 0) (ms' := 0) (As := [(vi (sx g (x4 + 1)))]) (st := [(vi r2)]) of_102 rfl rfl (Nat.le_of_ble_eq_true rfl) hd3 kX11_end ⟨wd_1715, wd_1716, wd_1717⟩ dL_law_298 (Eb.mono H ?_)
  rintro o s3 ⟨r3, rfl, hr3, hs3, H⟩
  show Wb g ad d mL_law Q 301 [some (.ref (ag_b g)), some (.ref (ad 0)), some (.ref (ad 102)), some (.ref (ad 131)), some (vi x4), none, none] [(vi r3), (vi r2)] s3 rc rs
  refine sb_icmp_eq (pc' := 304) (tgt := 2061) rfl (by decide) hr2 hr3 dL_law_301 ?_ ?_
  · intro cc; have H := H.1 cc
    exact (H hx4 hs3)
  · intro cc; have H := H.2 cc
    refine sb_iconst (pc' := 305) rfl dL_law_304 ?_
    exact sb_iret rfl (nar_z2 (Or.inl rfl)) dL_law_305 (H (iR_lit rfl) hs3)
theorem bL_law_306 {g : AG} {ad : Nat → Nat} {d : Nat} {Q : AO → SG → Prop} {rc rs : Nat} {σ : SG} {x4 : Int} (hL : ag_L g ≤ 3072) (hx4 : iR x4) (hS : SR σ) (H : Cl g ad d mL_book 1 6 [(.ref (ad 0)), (.ref (ad 131))] σ (Kx (Ki fun r1 s1 => Cl g ad d mX11_book 0 0 [(.ref (ad 102))] s1 (Ki fun r2 s2 => Cl g ad d mX11_thrown 0 0 [(.ref (ad 102))] s2 (Ki fun r3 s3 => ((r3 = r1 → ((¬ r1 = 0 → (iR x4 → SR s3 → Wb g ad d mL_law Q 2061 [some (.ref (ag_b g)), some (.ref (ad 0)), some (.ref (ad 102)), some (.ref (ad 131)), some (vi x4), none, none] [] s3 rc rs)) ∧ (r1 = 0 → (((lCmp (la s3 131 0) r2) = 0 → (iR x4 → SR s3 → Wb g ad d mL_law Q 2061 [some (.ref (ag_b g)), some (.ref (ad 0)), some (.ref (ad 102)), some (.ref (ad 131)), some (vi x4), none, none] [] s3 rc rs)) ∧ (¬ (lCmp (la s3 131 0) r2) = 0 → (iR 0 → SR s3 → Q (.inl (some (vi 0))) s3)))))) ∧ (¬ r3 = r1 → (iR 0 → SR s3 → Q (.inl (some (vi 0))) s3)))))) (fun E s1 => SR s1 → Q (.inr E) s1))) : Wb g ad d mL_law Q 306 [some (.ref (ag_b g)), some (.ref (ad 0)), some (.ref (ad 102)), some (.ref (ad 131)), some (vi x4), none, none] [] σ (rc + 1) (rs + 6) := by
  refine sb_aload_n (pc' := 307) rfl rfl dL_law_306 ?_
  refine sb_aload_n (pc' := 308) rfl rfl dL_law_307 ?_
  obtain ⟨d1, hd1, H⟩ := H
  refine sb_callSX (pc' := 311) rfl rfl (rc := rc) (rs := rs) (mc' := 1) (ms' := 6) (As := [(.ref (ad 0)), (.ref (ad 131))]) (st := [])  rfl rfl (Nat.le_of_ble_eq_true rfl) hd1 kHL_book ⟨wd_995, wd_996⟩ dL_law_308 (Eb.mono H ?_)
  rintro o s1 (⟨r1, rfl, hr1, hs1, H⟩ | ⟨E, rfl, hs1, H⟩)
  case inr => exact H hs1
  show Wb g ad d mL_law Q 311 [some (.ref (ag_b g)), some (.ref (ad 0)), some (.ref (ad 102)), some (.ref (ad 131)), some (vi x4), none, none] [(vi r1)] s1 rc rs
  refine sb_istore (pc' := 313) rfl (L' := [some (.ref (ag_b g)), some (.ref (ad 0)), some (.ref (ad 102)), some (.ref (ad 131)), some (vi x4), some (vi r1), none]) rfl (by decide) dL_law_311 ?_
  refine sb_aload_n (pc' := 314) rfl rfl dL_law_313 ?_
  obtain ⟨d2, hd2, H⟩ := H
  refine sb_callV (pc' := 317) rfl rfl (rc := rc) (rs := rs) (mc' := 0) (ms' := 0) (As := []) (st := []) of_102 rfl rfl (Nat.le_of_ble_eq_true rfl) hd2 kX11_book ⟨wd_1722, wd_1723, wd_1724⟩ dL_law_314 (Eb.mono H ?_)
  rintro o s2 ⟨r2, rfl, hr2, hs2, H⟩
  show Wb g ad d mL_law Q 317 [some (.ref (ag_b g)), some (.ref (ad 0)), some (.ref (ad 102)), some (.ref (ad 131)), some (vi x4), some (vi r1), none] [(vi r2)] s2 rc rs
  refine sb_istore (pc' := 319) rfl (L' := [some (.ref (ag_b g)), some (.ref (ad 0)), some (.ref (ad 102)), some (.ref (ad 131)), some (vi x4), some (vi r1), some (vi r2)]) rfl (by decide) dL_law_317 ?_
  refine sb_aload_n (pc' := 320) rfl rfl dL_law_319 ?_
  obtain ⟨d3, hd3, H⟩ := H
  refine sb_callV (pc' := 323) rfl rfl (rc := rc) (rs := rs) (mc' := 0) (ms' := 0) (As := []) (st := []) of_102 rfl rfl (Nat.le_of_ble_eq_true rfl) hd3 kX11_thrown ⟨wd_1707, wd_1708, wd_1709⟩ dL_law_320 (Eb.mono H ?_)
  rintro o s3 ⟨r3, rfl, hr3, hs3, H⟩
  show Wb g ad d mL_law Q 323 [some (.ref (ag_b g)), some (.ref (ad 0)), some (.ref (ad 102)), some (.ref (ad 131)), some (vi x4), some (vi r1), some (vi r2)] [(vi r3)] s3 rc rs
  refine sb_iload (pc' := 325) rfl rfl dL_law_323 ?_
  refine sb_icmp_eq (pc' := 328) (tgt := 330) rfl (by decide) hr3 hr1 dL_law_325 ?_ ?_
  · intro cc; have H := H.1 cc
    refine sb_iload (pc' := 332) rfl rfl dL_law_330 ?_
    refine sb_if_ne (pc' := 335) (tgt := 347) rfl (by decide) hr1 dL_law_332 ?_ ?_
    · intro cc; have H := H.1 cc
      refine sb_goto (tgt := 2061) (by decide) dL_law_347 ?_
      refine Wb.forget [true, true, true, true, true, false, false] ?_
      exact (H hx4 hs3)
    · intro cc; have H := H.2 cc
      refine sb_aload_n (pc' := 336) rfl rfl dL_law_335 ?_
      refine sb_iconst (pc' := 337) rfl dL_law_336 ?_
      refine sb_lald (pc' := 338) rfl aL_131 (by decide) (by decide) dL_law_337 ?_
      refine sb_iload (pc' := 340) rfl rfl dL_law_338 ?_
      refine sb_i2l (pc' := 341) rfl hr2 dL_law_340 ?_
      refine sb_lcmp (pc' := 342) rfl dL_law_341 ?_
      refine sb_if_eq (pc' := 345) (tgt := 347) rfl (by decide) (iR_b _) dL_law_342 ?_ ?_
      · intro cc; have H := H.1 cc
        refine sb_goto (tgt := 2061) (by decide) dL_law_347 ?_
        refine Wb.forget [true, true, true, true, true, false, false] ?_
        exact (H hx4 hs3)
      · intro cc; have H := H.2 cc
        refine sb_iconst (pc' := 346) rfl dL_law_345 ?_
        exact sb_iret rfl (nar_z2 (Or.inl rfl)) dL_law_346 (H (iR_lit rfl) hs3)
  · intro cc; have H := H.2 cc
    refine sb_iconst (pc' := 329) rfl dL_law_328 ?_
    exact sb_iret rfl (nar_z2 (Or.inl rfl)) dL_law_329 (H (iR_lit rfl) hs3)
theorem bL_law_350 {g : AG} {ad : Nat → Nat} {d : Nat} {Q : AO → SG → Prop} {rc rs : Nat} {σ : SG} {x4 : Int} (hL : ag_L g ≤ 3072) (hx4 : iR x4) (hS : SR σ) (H : Cl g ad d mL_fluency 1 6 [(.ref (ad 0)), (.ref (ad 131))] σ (Kx (Ki fun r1 s1 => Cl g ad d mX11_fluency 0 0 [(.ref (ad 102))] s1 (Ki fun r2 s2 => Cl g ad d mX11_thrown 0 0 [(.ref (ad 102))] s2 (Ki fun r3 s3 => ((r3 = r1 → ((¬ r1 = 0 → (iR x4 → SR s3 → Wb g ad d mL_law Q 2061 [some (.ref (ag_b g)), some (.ref (ad 0)), some (.ref (ad 102)), some (.ref (ad 131)), some (vi x4), none, none] [] s3 rc rs)) ∧ (r1 = 0 → (((lCmp (la s3 131 0) r2) = 0 → (iR x4 → SR s3 → Wb g ad d mL_law Q 2061 [some (.ref (ag_b g)), some (.ref (ad 0)), some (.ref (ad 102)), some (.ref (ad 131)), some (vi x4), none, none] [] s3 rc rs)) ∧ (¬ (lCmp (la s3 131 0) r2) = 0 → (iR 0 → SR s3 → Q (.inl (some (vi 0))) s3)))))) ∧ (¬ r3 = r1 → (iR 0 → SR s3 → Q (.inl (some (vi 0))) s3)))))) (fun E s1 => SR s1 → Q (.inr E) s1))) : Wb g ad d mL_law Q 350 [some (.ref (ag_b g)), some (.ref (ad 0)), some (.ref (ad 102)), some (.ref (ad 131)), some (vi x4), none, none] [] σ (rc + 1) (rs + 6) := by
  refine sb_aload_n (pc' := 351) rfl rfl dL_law_350 ?_
  refine sb_aload_n (pc' := 352) rfl rfl dL_law_351 ?_
  obtain ⟨d1, hd1, H⟩ := H
  refine sb_callSX (pc' := 355) rfl rfl (rc := rc) (rs := rs) (mc' := 1) (ms' := 6) (As := [(.ref (ad 0)), (.ref (ad 131))]) (st := [])  rfl rfl (Nat.le_of_ble_eq_true rfl) hd1 kHL_fluency ⟨wd_1159, wd_1160⟩ dL_law_352 (Eb.mono H ?_)
  rintro o s1 (⟨r1, rfl, hr1, hs1, H⟩ | ⟨E, rfl, hs1, H⟩)
  case inr => exact H hs1
  show Wb g ad d mL_law Q 355 [some (.ref (ag_b g)), some (.ref (ad 0)), some (.ref (ad 102)), some (.ref (ad 131)), some (vi x4), none, none] [(vi r1)] s1 rc rs
  refine sb_istore (pc' := 357) rfl (L' := [some (.ref (ag_b g)), some (.ref (ad 0)), some (.ref (ad 102)), some (.ref (ad 131)), some (vi x4), some (vi r1), none]) rfl (by decide) dL_law_355 ?_
  refine sb_aload_n (pc' := 358) rfl rfl dL_law_357 ?_
  obtain ⟨d2, hd2, H⟩ := H
  refine sb_callV (pc' := 361) rfl rfl (rc := rc) (rs := rs) (mc' := 0) (ms' := 0) (As := []) (st := []) of_102 rfl rfl (Nat.le_of_ble_eq_true rfl) hd2 kX11_fluency ⟨wd_1794, wd_1795, wd_1796⟩ dL_law_358 (Eb.mono H ?_)
  rintro o s2 ⟨r2, rfl, hr2, hs2, H⟩
  show Wb g ad d mL_law Q 361 [some (.ref (ag_b g)), some (.ref (ad 0)), some (.ref (ad 102)), some (.ref (ad 131)), some (vi x4), some (vi r1), none] [(vi r2)] s2 rc rs
  refine sb_istore (pc' := 363) rfl (L' := [some (.ref (ag_b g)), some (.ref (ad 0)), some (.ref (ad 102)), some (.ref (ad 131)), some (vi x4), some (vi r1), some (vi r2)]) rfl (by decide) dL_law_361 ?_
  refine sb_aload_n (pc' := 364) rfl rfl dL_law_363 ?_
  obtain ⟨d3, hd3, H⟩ := H
  refine sb_callV (pc' := 367) rfl rfl (rc := rc) (rs := rs) (mc' := 0) (ms' := 0) (As := []) (st := []) of_102 rfl rfl (Nat.le_of_ble_eq_true rfl) hd3 kX11_thrown ⟨wd_1707, wd_1708, wd_1709⟩ dL_law_364 (Eb.mono H ?_)
  rintro o s3 ⟨r3, rfl, hr3, hs3, H⟩
  show Wb g ad d mL_law Q 367 [some (.ref (ag_b g)), some (.ref (ad 0)), some (.ref (ad 102)), some (.ref (ad 131)), some (vi x4), some (vi r1), some (vi r2)] [(vi r3)] s3 rc rs
  refine sb_iload (pc' := 369) rfl rfl dL_law_367 ?_
  refine sb_icmp_eq (pc' := 372) (tgt := 374) rfl (by decide) hr3 hr1 dL_law_369 ?_ ?_
  · intro cc; have H := H.1 cc
    refine sb_iload (pc' := 376) rfl rfl dL_law_374 ?_
    refine sb_if_ne (pc' := 379) (tgt := 391) rfl (by decide) hr1 dL_law_376 ?_ ?_
    · intro cc; have H := H.1 cc
      refine sb_goto (tgt := 2061) (by decide) dL_law_391 ?_
      refine Wb.forget [true, true, true, true, true, false, false] ?_
      exact (H hx4 hs3)
    · intro cc; have H := H.2 cc
      refine sb_aload_n (pc' := 380) rfl rfl dL_law_379 ?_
      refine sb_iconst (pc' := 381) rfl dL_law_380 ?_
      refine sb_lald (pc' := 382) rfl aL_131 (by decide) (by decide) dL_law_381 ?_
      refine sb_iload (pc' := 384) rfl rfl dL_law_382 ?_
      refine sb_i2l (pc' := 385) rfl hr2 dL_law_384 ?_
      refine sb_lcmp (pc' := 386) rfl dL_law_385 ?_
      refine sb_if_eq (pc' := 389) (tgt := 391) rfl (by decide) (iR_b _) dL_law_386 ?_ ?_
      · intro cc; have H := H.1 cc
        refine sb_goto (tgt := 2061) (by decide) dL_law_391 ?_
        refine Wb.forget [true, true, true, true, true, false, false] ?_
        exact (H hx4 hs3)
      · intro cc; have H := H.2 cc
        refine sb_iconst (pc' := 390) rfl dL_law_389 ?_
        exact sb_iret rfl (nar_z2 (Or.inl rfl)) dL_law_390 (H (iR_lit rfl) hs3)
  · intro cc; have H := H.2 cc
    refine sb_iconst (pc' := 373) rfl dL_law_372 ?_
    exact sb_iret rfl (nar_z2 (Or.inl rfl)) dL_law_373 (H (iR_lit rfl) hs3)
theorem bL_law_394 {g : AG} {ad : Nat → Nat} {d : Nat} {Q : AO → SG → Prop} {rc rs : Nat} {σ : SG} {x4 : Int} (hL : ag_L g ≤ 3072) (hx4 : iR x4) (hS : SR σ) (H : Cl g ad d mL_sentence 1 6 [(.ref (ad 0)), (.ref (ad 131))] σ (Kx (Ki fun r1 s1 => Cl g ad d mX11_sentence 0 0 [(.ref (ad 102))] s1 (Ki fun r2 s2 => Cl g ad d mX11_thrown 0 0 [(.ref (ad 102))] s2 (Ki fun r3 s3 => ((r3 = r1 → ((¬ r1 = 0 → (iR x4 → SR s3 → Wb g ad d mL_law Q 2061 [some (.ref (ag_b g)), some (.ref (ad 0)), some (.ref (ad 102)), some (.ref (ad 131)), some (vi x4), none, none] [] s3 rc rs)) ∧ (r1 = 0 → (((lCmp (la s3 131 0) r2) = 0 → (iR x4 → SR s3 → Wb g ad d mL_law Q 2061 [some (.ref (ag_b g)), some (.ref (ad 0)), some (.ref (ad 102)), some (.ref (ad 131)), some (vi x4), none, none] [] s3 rc rs)) ∧ (¬ (lCmp (la s3 131 0) r2) = 0 → (iR 0 → SR s3 → Q (.inl (some (vi 0))) s3)))))) ∧ (¬ r3 = r1 → (iR 0 → SR s3 → Q (.inl (some (vi 0))) s3)))))) (fun E s1 => SR s1 → Q (.inr E) s1))) : Wb g ad d mL_law Q 394 [some (.ref (ag_b g)), some (.ref (ad 0)), some (.ref (ad 102)), some (.ref (ad 131)), some (vi x4), none, none] [] σ (rc + 1) (rs + 6) := by
  refine sb_aload_n (pc' := 395) rfl rfl dL_law_394 ?_
  refine sb_aload_n (pc' := 396) rfl rfl dL_law_395 ?_
  obtain ⟨d1, hd1, H⟩ := H
  refine sb_callSX (pc' := 399) rfl rfl (rc := rc) (rs := rs) (mc' := 1) (ms' := 6) (As := [(.ref (ad 0)), (.ref (ad 131))]) (st := [])  rfl rfl (Nat.le_of_ble_eq_true rfl) hd1 kHL_sentence ⟨wd_1178, wd_1179⟩ dL_law_396 (Eb.mono H ?_)
  rintro o s1 (⟨r1, rfl, hr1, hs1, H⟩ | ⟨E, rfl, hs1, H⟩)
  case inr => exact H hs1
  show Wb g ad d mL_law Q 399 [some (.ref (ag_b g)), some (.ref (ad 0)), some (.ref (ad 102)), some (.ref (ad 131)), some (vi x4), none, none] [(vi r1)] s1 rc rs
  refine sb_istore (pc' := 401) rfl (L' := [some (.ref (ag_b g)), some (.ref (ad 0)), some (.ref (ad 102)), some (.ref (ad 131)), some (vi x4), some (vi r1), none]) rfl (by decide) dL_law_399 ?_
  refine sb_aload_n (pc' := 402) rfl rfl dL_law_401 ?_
  obtain ⟨d2, hd2, H⟩ := H
  refine sb_callV (pc' := 405) rfl rfl (rc := rc) (rs := rs) (mc' := 0) (ms' := 0) (As := []) (st := []) of_102 rfl rfl (Nat.le_of_ble_eq_true rfl) hd2 kX11_sentence ⟨wd_1802, wd_1803, wd_1804⟩ dL_law_402 (Eb.mono H ?_)
  rintro o s2 ⟨r2, rfl, hr2, hs2, H⟩
  show Wb g ad d mL_law Q 405 [some (.ref (ag_b g)), some (.ref (ad 0)), some (.ref (ad 102)), some (.ref (ad 131)), some (vi x4), some (vi r1), none] [(vi r2)] s2 rc rs
  refine sb_istore (pc' := 407) rfl (L' := [some (.ref (ag_b g)), some (.ref (ad 0)), some (.ref (ad 102)), some (.ref (ad 131)), some (vi x4), some (vi r1), some (vi r2)]) rfl (by decide) dL_law_405 ?_
  refine sb_aload_n (pc' := 408) rfl rfl dL_law_407 ?_
  obtain ⟨d3, hd3, H⟩ := H
  refine sb_callV (pc' := 411) rfl rfl (rc := rc) (rs := rs) (mc' := 0) (ms' := 0) (As := []) (st := []) of_102 rfl rfl (Nat.le_of_ble_eq_true rfl) hd3 kX11_thrown ⟨wd_1707, wd_1708, wd_1709⟩ dL_law_408 (Eb.mono H ?_)
  rintro o s3 ⟨r3, rfl, hr3, hs3, H⟩
  show Wb g ad d mL_law Q 411 [some (.ref (ag_b g)), some (.ref (ad 0)), some (.ref (ad 102)), some (.ref (ad 131)), some (vi x4), some (vi r1), some (vi r2)] [(vi r3)] s3 rc rs
  refine sb_iload (pc' := 413) rfl rfl dL_law_411 ?_
  refine sb_icmp_eq (pc' := 416) (tgt := 418) rfl (by decide) hr3 hr1 dL_law_413 ?_ ?_
  · intro cc; have H := H.1 cc
    refine sb_iload (pc' := 420) rfl rfl dL_law_418 ?_
    refine sb_if_ne (pc' := 423) (tgt := 435) rfl (by decide) hr1 dL_law_420 ?_ ?_
    · intro cc; have H := H.1 cc
      refine sb_goto (tgt := 2061) (by decide) dL_law_435 ?_
      refine Wb.forget [true, true, true, true, true, false, false] ?_
      exact (H hx4 hs3)
    · intro cc; have H := H.2 cc
      refine sb_aload_n (pc' := 424) rfl rfl dL_law_423 ?_
      refine sb_iconst (pc' := 425) rfl dL_law_424 ?_
      refine sb_lald (pc' := 426) rfl aL_131 (by decide) (by decide) dL_law_425 ?_
      refine sb_iload (pc' := 428) rfl rfl dL_law_426 ?_
      refine sb_i2l (pc' := 429) rfl hr2 dL_law_428 ?_
      refine sb_lcmp (pc' := 430) rfl dL_law_429 ?_
      refine sb_if_eq (pc' := 433) (tgt := 435) rfl (by decide) (iR_b _) dL_law_430 ?_ ?_
      · intro cc; have H := H.1 cc
        refine sb_goto (tgt := 2061) (by decide) dL_law_435 ?_
        refine Wb.forget [true, true, true, true, true, false, false] ?_
        exact (H hx4 hs3)
      · intro cc; have H := H.2 cc
        refine sb_iconst (pc' := 434) rfl dL_law_433 ?_
        exact sb_iret rfl (nar_z2 (Or.inl rfl)) dL_law_434 (H (iR_lit rfl) hs3)
  · intro cc; have H := H.2 cc
    refine sb_iconst (pc' := 417) rfl dL_law_416 ?_
    exact sb_iret rfl (nar_z2 (Or.inl rfl)) dL_law_417 (H (iR_lit rfl) hs3)
theorem bL_law_438 {g : AG} {ad : Nat → Nat} {d : Nat} {Q : AO → SG → Prop} {rc rs : Nat} {σ : SG} {x4 : Int} (hL : ag_L g ≤ 3072) (hx4 : iR x4) (hS : SR σ) (H : Cl g ad d mL_learn 2 12 [(.ref (ad 0)), (.ref (ad 131))] σ (Kx (Ki fun r1 s1 => Cl g ad d mX11_learn 0 0 [(.ref (ad 102))] s1 (Ki fun r2 s2 => Cl g ad d mX11_thrown 0 0 [(.ref (ad 102))] s2 (Ki fun r3 s3 => ((r3 = r1 → ((¬ r1 = 0 → (iR x4 → SR s3 → Wb g ad d mL_law Q 2061 [some (.ref (ag_b g)), some (.ref (ad 0)), some (.ref (ad 102)), some (.ref (ad 131)), some (vi x4), none, none] [] s3 rc rs)) ∧ (r1 = 0 → (((lCmp (la s3 131 0) r2) = 0 → (iR x4 → SR s3 → Wb g ad d mL_law Q 2061 [some (.ref (ag_b g)), some (.ref (ad 0)), some (.ref (ad 102)), some (.ref (ad 131)), some (vi x4), none, none] [] s3 rc rs)) ∧ (¬ (lCmp (la s3 131 0) r2) = 0 → (iR 0 → SR s3 → Q (.inl (some (vi 0))) s3)))))) ∧ (¬ r3 = r1 → (iR 0 → SR s3 → Q (.inl (some (vi 0))) s3)))))) (fun E s1 => SR s1 → Q (.inr E) s1))) : Wb g ad d mL_law Q 438 [some (.ref (ag_b g)), some (.ref (ad 0)), some (.ref (ad 102)), some (.ref (ad 131)), some (vi x4), none, none] [] σ (rc + 2) (rs + 12) := by
  refine sb_aload_n (pc' := 439) rfl rfl dL_law_438 ?_
  refine sb_aload_n (pc' := 440) rfl rfl dL_law_439 ?_
  obtain ⟨d1, hd1, H⟩ := H
  refine sb_callSX (pc' := 443) rfl rfl (rc := rc) (rs := rs) (mc' := 2) (ms' := 12) (As := [(.ref (ad 0)), (.ref (ad 131))]) (st := [])  rfl rfl (Nat.le_of_ble_eq_true rfl) hd1 kHL_learn ⟨wd_1193, wd_1194⟩ dL_law_440 (Eb.mono H ?_)
  rintro o s1 (⟨r1, rfl, hr1, hs1, H⟩ | ⟨E, rfl, hs1, H⟩)
  case inr => exact H hs1
  show Wb g ad d mL_law Q 443 [some (.ref (ag_b g)), some (.ref (ad 0)), some (.ref (ad 102)), some (.ref (ad 131)), some (vi x4), none, none] [(vi r1)] s1 rc rs
  refine sb_istore (pc' := 445) rfl (L' := [some (.ref (ag_b g)), some (.ref (ad 0)), some (.ref (ad 102)), some (.ref (ad 131)), some (vi x4), some (vi r1), none]) rfl (by decide) dL_law_443 ?_
  refine sb_aload_n (pc' := 446) rfl rfl dL_law_445 ?_
  obtain ⟨d2, hd2, H⟩ := H
  refine sb_callV (pc' := 449) rfl rfl (rc := rc) (rs := rs) (mc' := 0) (ms' := 0) (As := []) (st := []) of_102 rfl rfl (Nat.le_of_ble_eq_true rfl) hd2 kX11_learn ⟨wd_1806, wd_1807, wd_1808⟩ dL_law_446 (Eb.mono H ?_)
  rintro o s2 ⟨r2, rfl, hr2, hs2, H⟩
  show Wb g ad d mL_law Q 449 [some (.ref (ag_b g)), some (.ref (ad 0)), some (.ref (ad 102)), some (.ref (ad 131)), some (vi x4), some (vi r1), none] [(vi r2)] s2 rc rs
  refine sb_istore (pc' := 451) rfl (L' := [some (.ref (ag_b g)), some (.ref (ad 0)), some (.ref (ad 102)), some (.ref (ad 131)), some (vi x4), some (vi r1), some (vi r2)]) rfl (by decide) dL_law_449 ?_
  refine sb_aload_n (pc' := 452) rfl rfl dL_law_451 ?_
  obtain ⟨d3, hd3, H⟩ := H
  refine sb_callV (pc' := 455) rfl rfl (rc := rc) (rs := rs) (mc' := 0) (ms' := 0) (As := []) (st := []) of_102 rfl rfl (Nat.le_of_ble_eq_true rfl) hd3 kX11_thrown ⟨wd_1707, wd_1708, wd_1709⟩ dL_law_452 (Eb.mono H ?_)
  rintro o s3 ⟨r3, rfl, hr3, hs3, H⟩
  show Wb g ad d mL_law Q 455 [some (.ref (ag_b g)), some (.ref (ad 0)), some (.ref (ad 102)), some (.ref (ad 131)), some (vi x4), some (vi r1), some (vi r2)] [(vi r3)] s3 rc rs
  refine sb_iload (pc' := 457) rfl rfl dL_law_455 ?_
  refine sb_icmp_eq (pc' := 460) (tgt := 462) rfl (by decide) hr3 hr1 dL_law_457 ?_ ?_
  · intro cc; have H := H.1 cc
    refine sb_iload (pc' := 464) rfl rfl dL_law_462 ?_
    refine sb_if_ne (pc' := 467) (tgt := 479) rfl (by decide) hr1 dL_law_464 ?_ ?_
    · intro cc; have H := H.1 cc
      refine sb_goto (tgt := 2061) (by decide) dL_law_479 ?_
      refine Wb.forget [true, true, true, true, true, false, false] ?_
      exact (H hx4 hs3)
    · intro cc; have H := H.2 cc
      refine sb_aload_n (pc' := 468) rfl rfl dL_law_467 ?_
      refine sb_iconst (pc' := 469) rfl dL_law_468 ?_
      refine sb_lald (pc' := 470) rfl aL_131 (by decide) (by decide) dL_law_469 ?_
      refine sb_iload (pc' := 472) rfl rfl dL_law_470 ?_
      refine sb_i2l (pc' := 473) rfl hr2 dL_law_472 ?_
      refine sb_lcmp (pc' := 474) rfl dL_law_473 ?_
      refine sb_if_eq (pc' := 477) (tgt := 479) rfl (by decide) (iR_b _) dL_law_474 ?_ ?_
      · intro cc; have H := H.1 cc
        refine sb_goto (tgt := 2061) (by decide) dL_law_479 ?_
        refine Wb.forget [true, true, true, true, true, false, false] ?_
        exact (H hx4 hs3)
      · intro cc; have H := H.2 cc
        refine sb_iconst (pc' := 478) rfl dL_law_477 ?_
        exact sb_iret rfl (nar_z2 (Or.inl rfl)) dL_law_478 (H (iR_lit rfl) hs3)
  · intro cc; have H := H.2 cc
    refine sb_iconst (pc' := 461) rfl dL_law_460 ?_
    exact sb_iret rfl (nar_z2 (Or.inl rfl)) dL_law_461 (H (iR_lit rfl) hs3)
theorem bL_law_482 {g : AG} {ad : Nat → Nat} {d : Nat} {Q : AO → SG → Prop} {rc rs : Nat} {σ : SG} {x4 : Int} (hL : ag_L g ≤ 3072) (hx4 : iR x4) (hS : SR σ) (H : Cl g ad d mX10_fault 0 0 [(.ref (ad 0))] σ (Ki fun r1 s1 => Cl g ad d mX11_fault 0 0 [(.ref (ad 102))] s1 (Ki fun r2 s2 => ((r1 = r2 → (iR x4 → SR s2 → Wb g ad d mL_law Q 2061 [some (.ref (ag_b g)), some (.ref (ad 0)), some (.ref (ad 102)), some (.ref (ad 131)), some (vi x4), none, none] [] s2 rc rs)) ∧ (¬ r1 = r2 → (iR 0 → SR s2 → Q (.inl (some (vi 0))) s2)))))) : Wb g ad d mL_law Q 482 [some (.ref (ag_b g)), some (.ref (ad 0)), some (.ref (ad 102)), some (.ref (ad 131)), some (vi x4), none, none] [] σ rc rs := by
  refine sb_aload_n (pc' := 483) rfl rfl dL_law_482 ?_
  obtain ⟨d1, hd1, H⟩ := H
  refine sb_callV (pc' := 486) rfl rfl (rc := rc) (rs := rs) (mc' := 0) (ms' := 0) (As := []) (st := []) of_0 rfl rfl (Nat.le_of_ble_eq_true rfl) hd1 kX10_fault ⟨wd_700, wd_701, wd_702⟩ dL_law_483 (Eb.mono H ?_)
  rintro o s1 ⟨r1, rfl, hr1, hs1, H⟩
  show Wb g ad d mL_law Q 486 [some (.ref (ag_b g)), some (.ref (ad 0)), some (.ref (ad 102)), some (.ref (ad 131)), some (vi x4), none, none] [(vi r1)] s1 rc rs
  refine sb_aload_n (pc' := 487) rfl rfl dL_law_486 ?_
  obtain ⟨d2, hd2, H⟩ := H
  refine sb_callV (pc' := 490) rfl rfl (rc := rc) (rs := rs) (mc' := 0) (ms' := 0) (As := []) (st := [(vi r1)]) of_102 rfl rfl (Nat.le_of_ble_eq_true rfl) hd2 kX11_fault ⟨wd_1830, wd_1831, wd_1832⟩ dL_law_487 (Eb.mono H ?_)
  rintro o s2 ⟨r2, rfl, hr2, hs2, H⟩
  show Wb g ad d mL_law Q 490 [some (.ref (ag_b g)), some (.ref (ad 0)), some (.ref (ad 102)), some (.ref (ad 131)), some (vi x4), none, none] [(vi r2), (vi r1)] s2 rc rs
  refine sb_icmp_eq (pc' := 493) (tgt := 2061) rfl (by decide) hr1 hr2 dL_law_490 ?_ ?_
  · intro cc; have H := H.1 cc
    exact (H hx4 hs2)
  · intro cc; have H := H.2 cc
    refine sb_iconst (pc' := 494) rfl dL_law_493 ?_
    exact sb_iret rfl (nar_z2 (Or.inl rfl)) dL_law_494 (H (iR_lit rfl) hs2)
theorem bL_law_495 {g : AG} {ad : Nat → Nat} {d : Nat} {Q : AO → SG → Prop} {rc rs : Nat} {σ : SG} {x4 : Int} (hL : ag_L g ≤ 3072) (hx4 : iR x4) (hS : SR σ) (H : (0 ≤ x4 + 1 ∧ x4 + 1 < ag_L g) ∧ (0 ≤ x4 + 2 ∧ x4 + 2 < ag_L g) ∧ Cl g ad d mL_letter 1 6 [(.ref (ad 0)), (vi (sx g (x4 + 1))), (vi (sx g (x4 + 2))), (.ref (ad 131))] σ (Kx (Ki fun r3 s3 => Cl g ad d mX11_letter 0 0 [(.ref (ad 102)), (vi (sx g (x4 + 1))), (vi (sx g (x4 + 2)))] s3 (Ki fun r4 s4 => Cl g ad d mX11_thrown 0 0 [(.ref (ad 102))] s4 (Ki fun r5 s5 => ((r5 = r3 → ((¬ r3 = 0 → (iR x4 → SR s5 → Wb g ad d mL_law Q 2061 [some (.ref (ag_b g)), some (.ref (ad 0)), some (.ref (ad 102)), some (.ref (ad 131)), some (vi x4), none, none] [] s5 rc rs)) ∧ (r3 = 0 → (((lCmp (la s5 131 0) r4) = 0 → (iR x4 → SR s5 → Wb g ad d mL_law Q 2061 [some (.ref (ag_b g)), some (.ref (ad 0)), some (.ref (ad 102)), some (.ref (ad 131)), some (vi x4), none, none] [] s5 rc rs)) ∧ (¬ (lCmp (la s5 131 0) r4) = 0 → (iR 0 → SR s5 → Q (.inl (some (vi 0))) s5)))))) ∧ (¬ r5 = r3 → (iR 0 → SR s5 → Q (.inl (some (vi 0))) s5)))))) (fun E s3 => SR s3 → Q (.inr E) s3))) : Wb g ad d mL_law Q 495 [some (.ref (ag_b g)), some (.ref (ad 0)), some (.ref (ad 102)), some (.ref (ad 131)), some (vi x4), none, none] [] σ (rc + 1) (rs + 6) := by
  refine sb_aload_n (pc' := 496) rfl rfl dL_law_495 ?_
  refine sb_aload_n (pc' := 497) rfl rfl dL_law_496 ?_
  refine sb_iload (pc' := 499) rfl rfl dL_law_497 ?_
  refine sb_iconst (pc' := 500) rfl dL_law_499 ?_
  refine sb_iadd (pc' := 501) rfl dL_law_500 ?_
  obtain ⟨o1, H⟩ := H
  refine sb_sld (pc' := 502) rfl o1.1 o1.2 hL dL_law_501 ?_
  refine sb_aload_n (pc' := 503) rfl rfl dL_law_502 ?_
  refine sb_iload (pc' := 505) rfl rfl dL_law_503 ?_
  refine sb_iconst (pc' := 506) rfl dL_law_505 ?_
  refine sb_iadd (pc' := 507) rfl dL_law_506 ?_
  obtain ⟨o2, H⟩ := H
  refine sb_sld (pc' := 508) rfl o2.1 o2.2 hL dL_law_507 ?_
  refine sb_aload_n (pc' := 509) rfl rfl dL_law_508 ?_
  obtain ⟨d3, hd3, H⟩ := H
  refine sb_callSX (pc' := 512) rfl rfl (rc := rc) (rs := rs) (mc' := 1) (ms' := 6) (As := [(.ref (ad 0)), (vi (sx g (x4 + 1))), (vi (sx g (x4 + 2))), (.ref (ad 131))]) (st := [])  rfl rfl (Nat.le_of_ble_eq_true rfl) hd3 kHL_letter ⟨wd_1247, wd_1248⟩ dL_law_509 (Eb.mono H ?_)
  rintro o s3 (⟨r3, rfl, hr3, hs3, H⟩ | ⟨E, rfl, hs3, H⟩)
  case inr => exact H hs3
  show Wb g ad d mL_law Q 512 [some (.ref (ag_b g)), some (.ref (ad 0)), some (.ref (ad 102)), some (.ref (ad 131)), some (vi x4), none, none] [(vi r3)] s3 rc rs
  refine sb_istore (pc' := 514) rfl (L' := [some (.ref (ag_b g)), some (.ref (ad 0)), some (.ref (ad 102)), some (.ref (ad 131)), some (vi x4), some (vi r3), none]) rfl (by decide) dL_law_512 ?_
  refine sb_aload_n (pc' := 515) rfl rfl dL_law_514 ?_
  refine sb_aload_n (pc' := 516) rfl rfl dL_law_515 ?_
  refine sb_iload (pc' := 518) rfl rfl dL_law_516 ?_
  refine sb_iconst (pc' := 519) rfl dL_law_518 ?_
  refine sb_iadd (pc' := 520) rfl dL_law_519 ?_
  refine sb_sld (pc' := 521) rfl o1.1 o1.2 hL dL_law_520 ?_
  refine sb_aload_n (pc' := 522) rfl rfl dL_law_521 ?_
  refine sb_iload (pc' := 524) rfl rfl dL_law_522 ?_
  refine sb_iconst (pc' := 525) rfl dL_law_524 ?_
  refine sb_iadd (pc' := 526) rfl dL_law_525 ?_
  refine sb_sld (pc' := 527) rfl o2.1 o2.2 hL dL_law_526 ?_
  obtain ⟨d4, hd4, H⟩ := H
  refine sb_callV (pc' := 530) rfl rfl (rc := rc) (rs := rs) (mc' := 0) (ms' := 0) (As := [(vi (sx g (x4 + 1))), (vi (sx g (x4 + 2)))]) (st := []) of_102 rfl rfl (Nat.le_of_ble_eq_true rfl) hd4 kX11_letter ⟨wd_1834, wd_1835, wd_1836⟩ dL_law_527 (Eb.mono H ?_)
  rintro o s4 ⟨r4, rfl, hr4, hs4, H⟩
  show Wb g ad d mL_law Q 530 [some (.ref (ag_b g)), some (.ref (ad 0)), some (.ref (ad 102)), some (.ref (ad 131)), some (vi x4), some (vi r3), none] [(vi r4)] s4 rc rs
  refine sb_istore (pc' := 532) rfl (L' := [some (.ref (ag_b g)), some (.ref (ad 0)), some (.ref (ad 102)), some (.ref (ad 131)), some (vi x4), some (vi r3), some (vi r4)]) rfl (by decide) dL_law_530 ?_
  refine sb_aload_n (pc' := 533) rfl rfl dL_law_532 ?_
  obtain ⟨d5, hd5, H⟩ := H
  refine sb_callV (pc' := 536) rfl rfl (rc := rc) (rs := rs) (mc' := 0) (ms' := 0) (As := []) (st := []) of_102 rfl rfl (Nat.le_of_ble_eq_true rfl) hd5 kX11_thrown ⟨wd_1707, wd_1708, wd_1709⟩ dL_law_533 (Eb.mono H ?_)
  rintro o s5 ⟨r5, rfl, hr5, hs5, H⟩
  show Wb g ad d mL_law Q 536 [some (.ref (ag_b g)), some (.ref (ad 0)), some (.ref (ad 102)), some (.ref (ad 131)), some (vi x4), some (vi r3), some (vi r4)] [(vi r5)] s5 rc rs
  refine sb_iload (pc' := 538) rfl rfl dL_law_536 ?_
  refine sb_icmp_eq (pc' := 541) (tgt := 543) rfl (by decide) hr5 hr3 dL_law_538 ?_ ?_
  · intro cc; have H := H.1 cc
    refine sb_iload (pc' := 545) rfl rfl dL_law_543 ?_
    refine sb_if_ne (pc' := 548) (tgt := 560) rfl (by decide) hr3 dL_law_545 ?_ ?_
    · intro cc; have H := H.1 cc
      refine sb_goto (tgt := 2061) (by decide) dL_law_560 ?_
      refine Wb.forget [true, true, true, true, true, false, false] ?_
      exact (H hx4 hs5)
    · intro cc; have H := H.2 cc
      refine sb_aload_n (pc' := 549) rfl rfl dL_law_548 ?_
      refine sb_iconst (pc' := 550) rfl dL_law_549 ?_
      refine sb_lald (pc' := 551) rfl aL_131 (by decide) (by decide) dL_law_550 ?_
      refine sb_iload (pc' := 553) rfl rfl dL_law_551 ?_
      refine sb_i2l (pc' := 554) rfl hr4 dL_law_553 ?_
      refine sb_lcmp (pc' := 555) rfl dL_law_554 ?_
      refine sb_if_eq (pc' := 558) (tgt := 560) rfl (by decide) (iR_b _) dL_law_555 ?_ ?_
      · intro cc; have H := H.1 cc
        refine sb_goto (tgt := 2061) (by decide) dL_law_560 ?_
        refine Wb.forget [true, true, true, true, true, false, false] ?_
        exact (H hx4 hs5)
      · intro cc; have H := H.2 cc
        refine sb_iconst (pc' := 559) rfl dL_law_558 ?_
        exact sb_iret rfl (nar_z2 (Or.inl rfl)) dL_law_559 (H (iR_lit rfl) hs5)
  · intro cc; have H := H.2 cc
    refine sb_iconst (pc' := 542) rfl dL_law_541 ?_
    exact sb_iret rfl (nar_z2 (Or.inl rfl)) dL_law_542 (H (iR_lit rfl) hs5)
theorem bL_law_563 {g : AG} {ad : Nat → Nat} {d : Nat} {Q : AO → SG → Prop} {rc rs : Nat} {σ : SG} {x4 : Int} (hL : ag_L g ≤ 3072) (hx4 : iR x4) (hS : SR σ) (H : (0 ≤ x4 + 1 ∧ x4 + 1 < ag_L g) ∧ (0 ≤ x4 + 2 ∧ x4 + 2 < ag_L g) ∧ Cl g ad d mL_phrase 2 12 [(.ref (ad 0)), (vi (sx g (x4 + 1))), (vi (sx g (x4 + 2))), (.ref (ad 131))] σ (Kx (Ki fun r3 s3 => Cl g ad d mX11_phrase 0 0 [(.ref (ad 102)), (vi (sx g (x4 + 1))), (vi (sx g (x4 + 2)))] s3 (Ki fun r4 s4 => Cl g ad d mX11_thrown 0 0 [(.ref (ad 102))] s4 (Ki fun r5 s5 => ((r5 = r3 → ((¬ r3 = 0 → (iR x4 → SR s5 → Wb g ad d mL_law Q 2061 [some (.ref (ag_b g)), some (.ref (ad 0)), some (.ref (ad 102)), some (.ref (ad 131)), some (vi x4), none, none] [] s5 rc rs)) ∧ (r3 = 0 → (((lCmp (la s5 131 0) r4) = 0 → (iR x4 → SR s5 → Wb g ad d mL_law Q 2061 [some (.ref (ag_b g)), some (.ref (ad 0)), some (.ref (ad 102)), some (.ref (ad 131)), some (vi x4), none, none] [] s5 rc rs)) ∧ (¬ (lCmp (la s5 131 0) r4) = 0 → (iR 0 → SR s5 → Q (.inl (some (vi 0))) s5)))))) ∧ (¬ r5 = r3 → (iR 0 → SR s5 → Q (.inl (some (vi 0))) s5)))))) (fun E s3 => SR s3 → Q (.inr E) s3))) : Wb g ad d mL_law Q 563 [some (.ref (ag_b g)), some (.ref (ad 0)), some (.ref (ad 102)), some (.ref (ad 131)), some (vi x4), none, none] [] σ (rc + 2) (rs + 12) := by
  refine sb_aload_n (pc' := 564) rfl rfl dL_law_563 ?_
  refine sb_aload_n (pc' := 565) rfl rfl dL_law_564 ?_
  refine sb_iload (pc' := 567) rfl rfl dL_law_565 ?_
  refine sb_iconst (pc' := 568) rfl dL_law_567 ?_
  refine sb_iadd (pc' := 569) rfl dL_law_568 ?_
  obtain ⟨o1, H⟩ := H
  refine sb_sld (pc' := 570) rfl o1.1 o1.2 hL dL_law_569 ?_
  refine sb_aload_n (pc' := 571) rfl rfl dL_law_570 ?_
  refine sb_iload (pc' := 573) rfl rfl dL_law_571 ?_
  refine sb_iconst (pc' := 574) rfl dL_law_573 ?_
  refine sb_iadd (pc' := 575) rfl dL_law_574 ?_
  obtain ⟨o2, H⟩ := H
  refine sb_sld (pc' := 576) rfl o2.1 o2.2 hL dL_law_575 ?_
  refine sb_aload_n (pc' := 577) rfl rfl dL_law_576 ?_
  obtain ⟨d3, hd3, H⟩ := H
  refine sb_callSX (pc' := 580) rfl rfl (rc := rc) (rs := rs) (mc' := 2) (ms' := 12) (As := [(.ref (ad 0)), (vi (sx g (x4 + 1))), (vi (sx g (x4 + 2))), (.ref (ad 131))]) (st := [])  rfl rfl (Nat.le_of_ble_eq_true rfl) hd3 kHL_phrase ⟨wd_1275, wd_1276⟩ dL_law_577 (Eb.mono H ?_)
  rintro o s3 (⟨r3, rfl, hr3, hs3, H⟩ | ⟨E, rfl, hs3, H⟩)
  case inr => exact H hs3
  show Wb g ad d mL_law Q 580 [some (.ref (ag_b g)), some (.ref (ad 0)), some (.ref (ad 102)), some (.ref (ad 131)), some (vi x4), none, none] [(vi r3)] s3 rc rs
  refine sb_istore (pc' := 582) rfl (L' := [some (.ref (ag_b g)), some (.ref (ad 0)), some (.ref (ad 102)), some (.ref (ad 131)), some (vi x4), some (vi r3), none]) rfl (by decide) dL_law_580 ?_
  refine sb_aload_n (pc' := 583) rfl rfl dL_law_582 ?_
  refine sb_aload_n (pc' := 584) rfl rfl dL_law_583 ?_
  refine sb_iload (pc' := 586) rfl rfl dL_law_584 ?_
  refine sb_iconst (pc' := 587) rfl dL_law_586 ?_
  refine sb_iadd (pc' := 588) rfl dL_law_587 ?_
  refine sb_sld (pc' := 589) rfl o1.1 o1.2 hL dL_law_588 ?_
  refine sb_aload_n (pc' := 590) rfl rfl dL_law_589 ?_
  refine sb_iload (pc' := 592) rfl rfl dL_law_590 ?_
  refine sb_iconst (pc' := 593) rfl dL_law_592 ?_
  refine sb_iadd (pc' := 594) rfl dL_law_593 ?_
  refine sb_sld (pc' := 595) rfl o2.1 o2.2 hL dL_law_594 ?_
  obtain ⟨d4, hd4, H⟩ := H
  refine sb_callV (pc' := 598) rfl rfl (rc := rc) (rs := rs) (mc' := 0) (ms' := 0) (As := [(vi (sx g (x4 + 1))), (vi (sx g (x4 + 2)))]) (st := []) of_102 rfl rfl (Nat.le_of_ble_eq_true rfl) hd4 kX11_phrase ⟨wd_1842, wd_1843, wd_1844⟩ dL_law_595 (Eb.mono H ?_)
  rintro o s4 ⟨r4, rfl, hr4, hs4, H⟩
  show Wb g ad d mL_law Q 598 [some (.ref (ag_b g)), some (.ref (ad 0)), some (.ref (ad 102)), some (.ref (ad 131)), some (vi x4), some (vi r3), none] [(vi r4)] s4 rc rs
  refine sb_istore (pc' := 600) rfl (L' := [some (.ref (ag_b g)), some (.ref (ad 0)), some (.ref (ad 102)), some (.ref (ad 131)), some (vi x4), some (vi r3), some (vi r4)]) rfl (by decide) dL_law_598 ?_
  refine sb_aload_n (pc' := 601) rfl rfl dL_law_600 ?_
  obtain ⟨d5, hd5, H⟩ := H
  refine sb_callV (pc' := 604) rfl rfl (rc := rc) (rs := rs) (mc' := 0) (ms' := 0) (As := []) (st := []) of_102 rfl rfl (Nat.le_of_ble_eq_true rfl) hd5 kX11_thrown ⟨wd_1707, wd_1708, wd_1709⟩ dL_law_601 (Eb.mono H ?_)
  rintro o s5 ⟨r5, rfl, hr5, hs5, H⟩
  show Wb g ad d mL_law Q 604 [some (.ref (ag_b g)), some (.ref (ad 0)), some (.ref (ad 102)), some (.ref (ad 131)), some (vi x4), some (vi r3), some (vi r4)] [(vi r5)] s5 rc rs
  refine sb_iload (pc' := 606) rfl rfl dL_law_604 ?_
  refine sb_icmp_eq (pc' := 609) (tgt := 611) rfl (by decide) hr5 hr3 dL_law_606 ?_ ?_
  · intro cc; have H := H.1 cc
    refine sb_iload (pc' := 613) rfl rfl dL_law_611 ?_
    refine sb_if_ne (pc' := 616) (tgt := 628) rfl (by decide) hr3 dL_law_613 ?_ ?_
    · intro cc; have H := H.1 cc
      refine sb_goto (tgt := 2061) (by decide) dL_law_628 ?_
      refine Wb.forget [true, true, true, true, true, false, false] ?_
      exact (H hx4 hs5)
    · intro cc; have H := H.2 cc
      refine sb_aload_n (pc' := 617) rfl rfl dL_law_616 ?_
      refine sb_iconst (pc' := 618) rfl dL_law_617 ?_
      refine sb_lald (pc' := 619) rfl aL_131 (by decide) (by decide) dL_law_618 ?_
      refine sb_iload (pc' := 621) rfl rfl dL_law_619 ?_
      refine sb_i2l (pc' := 622) rfl hr4 dL_law_621 ?_
      refine sb_lcmp (pc' := 623) rfl dL_law_622 ?_
      refine sb_if_eq (pc' := 626) (tgt := 628) rfl (by decide) (iR_b _) dL_law_623 ?_ ?_
      · intro cc; have H := H.1 cc
        refine sb_goto (tgt := 2061) (by decide) dL_law_628 ?_
        refine Wb.forget [true, true, true, true, true, false, false] ?_
        exact (H hx4 hs5)
      · intro cc; have H := H.2 cc
        refine sb_iconst (pc' := 627) rfl dL_law_626 ?_
        exact sb_iret rfl (nar_z2 (Or.inl rfl)) dL_law_627 (H (iR_lit rfl) hs5)
  · intro cc; have H := H.2 cc
    refine sb_iconst (pc' := 610) rfl dL_law_609 ?_
    exact sb_iret rfl (nar_z2 (Or.inl rfl)) dL_law_610 (H (iR_lit rfl) hs5)
theorem bL_law_631 {g : AG} {ad : Nat → Nat} {d : Nat} {Q : AO → SG → Prop} {rc rs : Nat} {σ : SG} {x4 : Int} (hL : ag_L g ≤ 3072) (hx4 : iR x4) (hS : SR σ) (H : (0 ≤ x4 + 1 ∧ x4 + 1 < ag_L g) ∧ (0 ≤ x4 + 2 ∧ x4 + 2 < ag_L g) ∧ (((sx g (x4 + 2)) = 0 → (0 ≤ x4 + 3 ∧ x4 + 3 < ag_L g) ∧ Cl g ad d mL_part 1 6 [(.ref (ad 0)), (vi (sx g (x4 + 1))), (vi 0), (vi (sx g (x4 + 3))), (.ref (ad 131))] σ (Kx (Ki fun r4 s4 => (((sx g (x4 + 2)) = 0 → Cl g ad d mX11_part 0 0 [(.ref (ad 102)), (vi (sx g (x4 + 1))), (vi 0), (vi (sx g (x4 + 3)))] s4 (Ki fun r5 s5 => Cl g ad d mX11_thrown 0 0 [(.ref (ad 102))] s5 (Ki fun r6 s6 => ((r6 = r4 → ((¬ r4 = 0 → (iR x4 → SR s6 → Wb g ad d mL_law Q 2061 [some (.ref (ag_b g)), some (.ref (ad 0)), some (.ref (ad 102)), some (.ref (ad 131)), some (vi x4), none, none] [] s6 rc rs)) ∧ (r4 = 0 → (((lCmp (la s6 131 0) r5) = 0 → (iR x4 → SR s6 → Wb g ad d mL_law Q 2061 [some (.ref (ag_b g)), some (.ref (ad 0)), some (.ref (ad 102)), some (.ref (ad 131)), some (vi x4), none, none] [] s6 rc rs)) ∧ (¬ (lCmp (la s6 131 0) r5) = 0 → (iR 0 → SR s6 → Q (.inl (some (vi 0))) s6)))))) ∧ (¬ r6 = r4 → (iR 0 → SR s6 → Q (.inl (some (vi 0))) s6)))))) ∧ (¬ (sx g (x4 + 2)) = 0 → Cl g ad d mX11_part 0 0 [(.ref (ad 102)), (vi (sx g (x4 + 1))), (vi 1), (vi (sx g (x4 + 3)))] s4 (Ki fun r7 s7 => Cl g ad d mX11_thrown 0 0 [(.ref (ad 102))] s7 (Ki fun r8 s8 => ((r8 = r4 → ((¬ r4 = 0 → (iR x4 → SR s8 → Wb g ad d mL_law Q 2061 [some (.ref (ag_b g)), some (.ref (ad 0)), some (.ref (ad 102)), some (.ref (ad 131)), some (vi x4), none, none] [] s8 rc rs)) ∧ (r4 = 0 → (((lCmp (la s8 131 0) r7) = 0 → (iR x4 → SR s8 → Wb g ad d mL_law Q 2061 [some (.ref (ag_b g)), some (.ref (ad 0)), some (.ref (ad 102)), some (.ref (ad 131)), some (vi x4), none, none] [] s8 rc rs)) ∧ (¬ (lCmp (la s8 131 0) r7) = 0 → (iR 0 → SR s8 → Q (.inl (some (vi 0))) s8)))))) ∧ (¬ r8 = r4 → (iR 0 → SR s8 → Q (.inl (some (vi 0))) s8)))))))) (fun E s4 => SR s4 → Q (.inr E) s4))) ∧ (¬ (sx g (x4 + 2)) = 0 → (0 ≤ x4 + 3 ∧ x4 + 3 < ag_L g) ∧ Cl g ad d mL_part 1 6 [(.ref (ad 0)), (vi (sx g (x4 + 1))), (vi 1), (vi (sx g (x4 + 3))), (.ref (ad 131))] σ (Kx (Ki fun r10 s10 => (((sx g (x4 + 2)) = 0 → Cl g ad d mX11_part 0 0 [(.ref (ad 102)), (vi (sx g (x4 + 1))), (vi 0), (vi (sx g (x4 + 3)))] s10 (Ki fun r11 s11 => Cl g ad d mX11_thrown 0 0 [(.ref (ad 102))] s11 (Ki fun r12 s12 => ((r12 = r10 → ((¬ r10 = 0 → (iR x4 → SR s12 → Wb g ad d mL_law Q 2061 [some (.ref (ag_b g)), some (.ref (ad 0)), some (.ref (ad 102)), some (.ref (ad 131)), some (vi x4), none, none] [] s12 rc rs)) ∧ (r10 = 0 → (((lCmp (la s12 131 0) r11) = 0 → (iR x4 → SR s12 → Wb g ad d mL_law Q 2061 [some (.ref (ag_b g)), some (.ref (ad 0)), some (.ref (ad 102)), some (.ref (ad 131)), some (vi x4), none, none] [] s12 rc rs)) ∧ (¬ (lCmp (la s12 131 0) r11) = 0 → (iR 0 → SR s12 → Q (.inl (some (vi 0))) s12)))))) ∧ (¬ r12 = r10 → (iR 0 → SR s12 → Q (.inl (some (vi 0))) s12)))))) ∧ (¬ (sx g (x4 + 2)) = 0 → Cl g ad d mX11_part 0 0 [(.ref (ad 102)), (vi (sx g (x4 + 1))), (vi 1), (vi (sx g (x4 + 3)))] s10 (Ki fun r13 s13 => Cl g ad d mX11_thrown 0 0 [(.ref (ad 102))] s13 (Ki fun r14 s14 => ((r14 = r10 → ((¬ r10 = 0 → (iR x4 → SR s14 → Wb g ad d mL_law Q 2061 [some (.ref (ag_b g)), some (.ref (ad 0)), some (.ref (ad 102)), some (.ref (ad 131)), some (vi x4), none, none] [] s14 rc rs)) ∧ (r10 = 0 → (((lCmp (la s14 131 0) r13) = 0 → (iR x4 → SR s14 → Wb g ad d mL_law Q 2061 [some (.ref (ag_b g)), some (.ref (ad 0)), some (.ref (ad 102)), some (.ref (ad 131)), some (vi x4), none, none] [] s14 rc rs)) ∧ (¬ (lCmp (la s14 131 0) r13) = 0 → (iR 0 → SR s14 → Q (.inl (some (vi 0))) s14)))))) ∧ (¬ r14 = r10 → (iR 0 → SR s14 → Q (.inl (some (vi 0))) s14)))))))) (fun E s10 => SR s10 → Q (.inr E) s10))))) : Wb g ad d mL_law Q 631 [some (.ref (ag_b g)), some (.ref (ad 0)), some (.ref (ad 102)), some (.ref (ad 131)), some (vi x4), none, none] [] σ (rc + 1) (rs + 6) := by
  refine sb_aload_n (pc' := 632) rfl rfl dL_law_631 ?_
  refine sb_aload_n (pc' := 633) rfl rfl dL_law_632 ?_
  refine sb_iload (pc' := 635) rfl rfl dL_law_633 ?_
  refine sb_iconst (pc' := 636) rfl dL_law_635 ?_
  refine sb_iadd (pc' := 637) rfl dL_law_636 ?_
  obtain ⟨o1, H⟩ := H
  refine sb_sld (pc' := 638) rfl o1.1 o1.2 hL dL_law_637 ?_
  refine sb_aload_n (pc' := 639) rfl rfl dL_law_638 ?_
  refine sb_iload (pc' := 641) rfl rfl dL_law_639 ?_
  refine sb_iconst (pc' := 642) rfl dL_law_641 ?_
  refine sb_iadd (pc' := 643) rfl dL_law_642 ?_
  obtain ⟨o2, H⟩ := H
  refine sb_sld (pc' := 644) rfl o2.1 o2.2 hL dL_law_643 ?_
  refine sb_if_eq (pc' := 647) (tgt := 651) rfl (by decide) (iR_b _) dL_law_644 ?_ ?_
  · intro cc; have H := H.1 cc
    refine sb_iconst (pc' := 652) rfl dL_law_651 ?_
    refine sb_aload_n (pc' := 653) rfl rfl dL_law_652 ?_
    refine sb_iload (pc' := 655) rfl rfl dL_law_653 ?_
    refine sb_iconst (pc' := 656) rfl dL_law_655 ?_
    refine sb_iadd (pc' := 657) rfl dL_law_656 ?_
    obtain ⟨o3, H⟩ := H
    refine sb_sld (pc' := 658) rfl o3.1 o3.2 hL dL_law_657 ?_
    refine sb_aload_n (pc' := 659) rfl rfl dL_law_658 ?_
    obtain ⟨d4, hd4, H⟩ := H
    refine sb_callSX (pc' := 662) rfl rfl (rc := rc) (rs := rs) (mc' := 1) (ms' := 6) (As := [(.ref (ad 0)), (vi (sx g (x4 + 1))), (vi 0), (vi (sx g (x4 + 3))), (.ref (ad 131))]) (st := [])  rfl rfl (Nat.le_of_ble_eq_true rfl) hd4 kHL_part ⟨wd_1308, wd_1309⟩ dL_law_659 (Eb.mono H ?_)
    rintro o s4 (⟨r4, rfl, hr4, hs4, H⟩ | ⟨E, rfl, hs4, H⟩)
    case inr => exact H hs4
    show Wb g ad d mL_law Q 662 [some (.ref (ag_b g)), some (.ref (ad 0)), some (.ref (ad 102)), some (.ref (ad 131)), some (vi x4), none, none] [(vi r4)] s4 rc rs
    refine sb_istore (pc' := 664) rfl (L' := [some (.ref (ag_b g)), some (.ref (ad 0)), some (.ref (ad 102)), some (.ref (ad 131)), some (vi x4), some (vi r4), none]) rfl (by decide) dL_law_662 ?_
    refine sb_aload_n (pc' := 665) rfl rfl dL_law_664 ?_
    refine sb_aload_n (pc' := 666) rfl rfl dL_law_665 ?_
    refine sb_iload (pc' := 668) rfl rfl dL_law_666 ?_
    refine sb_iconst (pc' := 669) rfl dL_law_668 ?_
    refine sb_iadd (pc' := 670) rfl dL_law_669 ?_
    refine sb_sld (pc' := 671) rfl o1.1 o1.2 hL dL_law_670 ?_
    refine sb_aload_n (pc' := 672) rfl rfl dL_law_671 ?_
    refine sb_iload (pc' := 674) rfl rfl dL_law_672 ?_
    refine sb_iconst (pc' := 675) rfl dL_law_674 ?_
    refine sb_iadd (pc' := 676) rfl dL_law_675 ?_
    refine sb_sld (pc' := 677) rfl o2.1 o2.2 hL dL_law_676 ?_
    refine sb_if_eq (pc' := 680) (tgt := 684) rfl (by decide) (iR_b _) dL_law_677 ?_ ?_
    · intro cc; have H := H.1 cc
      refine sb_iconst (pc' := 685) rfl dL_law_684 ?_
      refine sb_aload_n (pc' := 686) rfl rfl dL_law_685 ?_
      refine sb_iload (pc' := 688) rfl rfl dL_law_686 ?_
      refine sb_iconst (pc' := 689) rfl dL_law_688 ?_
      refine sb_iadd (pc' := 690) rfl dL_law_689 ?_
      refine sb_sld (pc' := 691) rfl o3.1 o3.2 hL dL_law_690 ?_
      obtain ⟨d5, hd5, H⟩ := H
      refine sb_callV (pc' := 694) rfl rfl (rc := rc) (rs := rs) (mc' := 0) (ms' := 0) (As := [(vi (sx g (x4 + 1))), (vi 0), (vi (sx g (x4 + 3)))]) (st := []) of_102 rfl rfl (Nat.le_of_ble_eq_true rfl) hd5 kX11_part ⟨wd_1924, wd_1925, wd_1926⟩ dL_law_691 (Eb.mono H ?_)
      rintro o s5 ⟨r5, rfl, hr5, hs5, H⟩
      show Wb g ad d mL_law Q 694 [some (.ref (ag_b g)), some (.ref (ad 0)), some (.ref (ad 102)), some (.ref (ad 131)), some (vi x4), some (vi r4), none] [(vi r5)] s5 rc rs
      refine sb_istore (pc' := 696) rfl (L' := [some (.ref (ag_b g)), some (.ref (ad 0)), some (.ref (ad 102)), some (.ref (ad 131)), some (vi x4), some (vi r4), some (vi r5)]) rfl (by decide) dL_law_694 ?_
      refine sb_aload_n (pc' := 697) rfl rfl dL_law_696 ?_
      obtain ⟨d6, hd6, H⟩ := H
      refine sb_callV (pc' := 700) rfl rfl (rc := rc) (rs := rs) (mc' := 0) (ms' := 0) (As := []) (st := []) of_102 rfl rfl (Nat.le_of_ble_eq_true rfl) hd6 kX11_thrown ⟨wd_1707, wd_1708, wd_1709⟩ dL_law_697 (Eb.mono H ?_)
      rintro o s6 ⟨r6, rfl, hr6, hs6, H⟩
      show Wb g ad d mL_law Q 700 [some (.ref (ag_b g)), some (.ref (ad 0)), some (.ref (ad 102)), some (.ref (ad 131)), some (vi x4), some (vi r4), some (vi r5)] [(vi r6)] s6 rc rs
      refine sb_iload (pc' := 702) rfl rfl dL_law_700 ?_
      refine sb_icmp_eq (pc' := 705) (tgt := 707) rfl (by decide) hr6 hr4 dL_law_702 ?_ ?_
      · intro cc; have H := H.1 cc
        refine sb_iload (pc' := 709) rfl rfl dL_law_707 ?_
        refine sb_if_ne (pc' := 712) (tgt := 724) rfl (by decide) hr4 dL_law_709 ?_ ?_
        · intro cc; have H := H.1 cc
          refine sb_goto (tgt := 2061) (by decide) dL_law_724 ?_
          refine Wb.forget [true, true, true, true, true, false, false] ?_
          exact (H hx4 hs6)
        · intro cc; have H := H.2 cc
          refine sb_aload_n (pc' := 713) rfl rfl dL_law_712 ?_
          refine sb_iconst (pc' := 714) rfl dL_law_713 ?_
          refine sb_lald (pc' := 715) rfl aL_131 (by decide) (by decide) dL_law_714 ?_
          refine sb_iload (pc' := 717) rfl rfl dL_law_715 ?_
          refine sb_i2l (pc' := 718) rfl hr5 dL_law_717 ?_
          refine sb_lcmp (pc' := 719) rfl dL_law_718 ?_
          refine sb_if_eq (pc' := 722) (tgt := 724) rfl (by decide) (iR_b _) dL_law_719 ?_ ?_
          · intro cc; have H := H.1 cc
            refine sb_goto (tgt := 2061) (by decide) dL_law_724 ?_
            refine Wb.forget [true, true, true, true, true, false, false] ?_
            exact (H hx4 hs6)
          · intro cc; have H := H.2 cc
            refine sb_iconst (pc' := 723) rfl dL_law_722 ?_
            exact sb_iret rfl (nar_z2 (Or.inl rfl)) dL_law_723 (H (iR_lit rfl) hs6)
      · intro cc; have H := H.2 cc
        refine sb_iconst (pc' := 706) rfl dL_law_705 ?_
        exact sb_iret rfl (nar_z2 (Or.inl rfl)) dL_law_706 (H (iR_lit rfl) hs6)
    · intro cc; have H := H.2 cc
      refine sb_iconst (pc' := 681) rfl dL_law_680 ?_
      refine sb_goto (tgt := 685) (by decide) dL_law_681 ?_
      refine sb_aload_n (pc' := 686) rfl rfl dL_law_685 ?_
      refine sb_iload (pc' := 688) rfl rfl dL_law_686 ?_
      refine sb_iconst (pc' := 689) rfl dL_law_688 ?_
      refine sb_iadd (pc' := 690) rfl dL_law_689 ?_
      refine sb_sld (pc' := 691) rfl o3.1 o3.2 hL dL_law_690 ?_
      obtain ⟨d7, hd7, H⟩ := H
      refine sb_callV (pc' := 694) rfl rfl (rc := rc) (rs := rs) (mc' := 0) (ms' := 0) (As := [(vi (sx g (x4 + 1))), (vi 1), (vi (sx g (x4 + 3)))]) (st := []) of_102 rfl rfl (Nat.le_of_ble_eq_true rfl) hd7 kX11_part ⟨wd_1924, wd_1925, wd_1926⟩ dL_law_691 (Eb.mono H ?_)
      rintro o s7 ⟨r7, rfl, hr7, hs7, H⟩
      show Wb g ad d mL_law Q 694 [some (.ref (ag_b g)), some (.ref (ad 0)), some (.ref (ad 102)), some (.ref (ad 131)), some (vi x4), some (vi r4), none] [(vi r7)] s7 rc rs
      refine sb_istore (pc' := 696) rfl (L' := [some (.ref (ag_b g)), some (.ref (ad 0)), some (.ref (ad 102)), some (.ref (ad 131)), some (vi x4), some (vi r4), some (vi r7)]) rfl (by decide) dL_law_694 ?_
      refine sb_aload_n (pc' := 697) rfl rfl dL_law_696 ?_
      obtain ⟨d8, hd8, H⟩ := H
      refine sb_callV (pc' := 700) rfl rfl (rc := rc) (rs := rs) (mc' := 0) (ms' := 0) (As := []) (st := []) of_102 rfl rfl (Nat.le_of_ble_eq_true rfl) hd8 kX11_thrown ⟨wd_1707, wd_1708, wd_1709⟩ dL_law_697 (Eb.mono H ?_)
      rintro o s8 ⟨r8, rfl, hr8, hs8, H⟩
      show Wb g ad d mL_law Q 700 [some (.ref (ag_b g)), some (.ref (ad 0)), some (.ref (ad 102)), some (.ref (ad 131)), some (vi x4), some (vi r4), some (vi r7)] [(vi r8)] s8 rc rs
      refine sb_iload (pc' := 702) rfl rfl dL_law_700 ?_
      refine sb_icmp_eq (pc' := 705) (tgt := 707) rfl (by decide) hr8 hr4 dL_law_702 ?_ ?_
      · intro cc; have H := H.1 cc
        refine sb_iload (pc' := 709) rfl rfl dL_law_707 ?_
        refine sb_if_ne (pc' := 712) (tgt := 724) rfl (by decide) hr4 dL_law_709 ?_ ?_
        · intro cc; have H := H.1 cc
          refine sb_goto (tgt := 2061) (by decide) dL_law_724 ?_
          refine Wb.forget [true, true, true, true, true, false, false] ?_
          exact (H hx4 hs8)
        · intro cc; have H := H.2 cc
          refine sb_aload_n (pc' := 713) rfl rfl dL_law_712 ?_
          refine sb_iconst (pc' := 714) rfl dL_law_713 ?_
          refine sb_lald (pc' := 715) rfl aL_131 (by decide) (by decide) dL_law_714 ?_
          refine sb_iload (pc' := 717) rfl rfl dL_law_715 ?_
          refine sb_i2l (pc' := 718) rfl hr7 dL_law_717 ?_
          refine sb_lcmp (pc' := 719) rfl dL_law_718 ?_
          refine sb_if_eq (pc' := 722) (tgt := 724) rfl (by decide) (iR_b _) dL_law_719 ?_ ?_
          · intro cc; have H := H.1 cc
            refine sb_goto (tgt := 2061) (by decide) dL_law_724 ?_
            refine Wb.forget [true, true, true, true, true, false, false] ?_
            exact (H hx4 hs8)
          · intro cc; have H := H.2 cc
            refine sb_iconst (pc' := 723) rfl dL_law_722 ?_
            exact sb_iret rfl (nar_z2 (Or.inl rfl)) dL_law_723 (H (iR_lit rfl) hs8)
      · intro cc; have H := H.2 cc
        refine sb_iconst (pc' := 706) rfl dL_law_705 ?_
        exact sb_iret rfl (nar_z2 (Or.inl rfl)) dL_law_706 (H (iR_lit rfl) hs8)
  · intro cc; have H := H.2 cc
    refine sb_iconst (pc' := 648) rfl dL_law_647 ?_
    refine sb_goto (tgt := 652) (by decide) dL_law_648 ?_
    refine sb_aload_n (pc' := 653) rfl rfl dL_law_652 ?_
    refine sb_iload (pc' := 655) rfl rfl dL_law_653 ?_
    refine sb_iconst (pc' := 656) rfl dL_law_655 ?_
    refine sb_iadd (pc' := 657) rfl dL_law_656 ?_
    obtain ⟨o9, H⟩ := H
    refine sb_sld (pc' := 658) rfl o9.1 o9.2 hL dL_law_657 ?_
    refine sb_aload_n (pc' := 659) rfl rfl dL_law_658 ?_
    obtain ⟨d10, hd10, H⟩ := H
    refine sb_callSX (pc' := 662) rfl rfl (rc := rc) (rs := rs) (mc' := 1) (ms' := 6) (As := [(.ref (ad 0)), (vi (sx g (x4 + 1))), (vi 1), (vi (sx g (x4 + 3))), (.ref (ad 131))]) (st := [])  rfl rfl (Nat.le_of_ble_eq_true rfl) hd10 kHL_part ⟨wd_1308, wd_1309⟩ dL_law_659 (Eb.mono H ?_)
    rintro o s10 (⟨r10, rfl, hr10, hs10, H⟩ | ⟨E, rfl, hs10, H⟩)
    case inr => exact H hs10
    show Wb g ad d mL_law Q 662 [some (.ref (ag_b g)), some (.ref (ad 0)), some (.ref (ad 102)), some (.ref (ad 131)), some (vi x4), none, none] [(vi r10)] s10 rc rs
    refine sb_istore (pc' := 664) rfl (L' := [some (.ref (ag_b g)), some (.ref (ad 0)), some (.ref (ad 102)), some (.ref (ad 131)), some (vi x4), some (vi r10), none]) rfl (by decide) dL_law_662 ?_
    refine sb_aload_n (pc' := 665) rfl rfl dL_law_664 ?_
    refine sb_aload_n (pc' := 666) rfl rfl dL_law_665 ?_
    refine sb_iload (pc' := 668) rfl rfl dL_law_666 ?_
    refine sb_iconst (pc' := 669) rfl dL_law_668 ?_
    refine sb_iadd (pc' := 670) rfl dL_law_669 ?_
    refine sb_sld (pc' := 671) rfl o1.1 o1.2 hL dL_law_670 ?_
    refine sb_aload_n (pc' := 672) rfl rfl dL_law_671 ?_
    refine sb_iload (pc' := 674) rfl rfl dL_law_672 ?_
    refine sb_iconst (pc' := 675) rfl dL_law_674 ?_
    refine sb_iadd (pc' := 676) rfl dL_law_675 ?_
    refine sb_sld (pc' := 677) rfl o2.1 o2.2 hL dL_law_676 ?_
    refine sb_if_eq (pc' := 680) (tgt := 684) rfl (by decide) (iR_b _) dL_law_677 ?_ ?_
    · intro cc; have H := H.1 cc
      refine sb_iconst (pc' := 685) rfl dL_law_684 ?_
      refine sb_aload_n (pc' := 686) rfl rfl dL_law_685 ?_
      refine sb_iload (pc' := 688) rfl rfl dL_law_686 ?_
      refine sb_iconst (pc' := 689) rfl dL_law_688 ?_
      refine sb_iadd (pc' := 690) rfl dL_law_689 ?_
      refine sb_sld (pc' := 691) rfl o9.1 o9.2 hL dL_law_690 ?_
      obtain ⟨d11, hd11, H⟩ := H
      refine sb_callV (pc' := 694) rfl rfl (rc := rc) (rs := rs) (mc' := 0) (ms' := 0) (As := [(vi (sx g (x4 + 1))), (vi 0), (vi (sx g (x4 + 3)))]) (st := []) of_102 rfl rfl (Nat.le_of_ble_eq_true rfl) hd11 kX11_part ⟨wd_1924, wd_1925, wd_1926⟩ dL_law_691 (Eb.mono H ?_)
      rintro o s11 ⟨r11, rfl, hr11, hs11, H⟩
      show Wb g ad d mL_law Q 694 [some (.ref (ag_b g)), some (.ref (ad 0)), some (.ref (ad 102)), some (.ref (ad 131)), some (vi x4), some (vi r10), none] [(vi r11)] s11 rc rs
      refine sb_istore (pc' := 696) rfl (L' := [some (.ref (ag_b g)), some (.ref (ad 0)), some (.ref (ad 102)), some (.ref (ad 131)), some (vi x4), some (vi r10), some (vi r11)]) rfl (by decide) dL_law_694 ?_
      refine sb_aload_n (pc' := 697) rfl rfl dL_law_696 ?_
      obtain ⟨d12, hd12, H⟩ := H
      refine sb_callV (pc' := 700) rfl rfl (rc := rc) (rs := rs) (mc' := 0) (ms' := 0) (As := []) (st := []) of_102 rfl rfl (Nat.le_of_ble_eq_true rfl) hd12 kX11_thrown ⟨wd_1707, wd_1708, wd_1709⟩ dL_law_697 (Eb.mono H ?_)
      rintro o s12 ⟨r12, rfl, hr12, hs12, H⟩
      show Wb g ad d mL_law Q 700 [some (.ref (ag_b g)), some (.ref (ad 0)), some (.ref (ad 102)), some (.ref (ad 131)), some (vi x4), some (vi r10), some (vi r11)] [(vi r12)] s12 rc rs
      refine sb_iload (pc' := 702) rfl rfl dL_law_700 ?_
      refine sb_icmp_eq (pc' := 705) (tgt := 707) rfl (by decide) hr12 hr10 dL_law_702 ?_ ?_
      · intro cc; have H := H.1 cc
        refine sb_iload (pc' := 709) rfl rfl dL_law_707 ?_
        refine sb_if_ne (pc' := 712) (tgt := 724) rfl (by decide) hr10 dL_law_709 ?_ ?_
        · intro cc; have H := H.1 cc
          refine sb_goto (tgt := 2061) (by decide) dL_law_724 ?_
          refine Wb.forget [true, true, true, true, true, false, false] ?_
          exact (H hx4 hs12)
        · intro cc; have H := H.2 cc
          refine sb_aload_n (pc' := 713) rfl rfl dL_law_712 ?_
          refine sb_iconst (pc' := 714) rfl dL_law_713 ?_
          refine sb_lald (pc' := 715) rfl aL_131 (by decide) (by decide) dL_law_714 ?_
          refine sb_iload (pc' := 717) rfl rfl dL_law_715 ?_
          refine sb_i2l (pc' := 718) rfl hr11 dL_law_717 ?_
          refine sb_lcmp (pc' := 719) rfl dL_law_718 ?_
          refine sb_if_eq (pc' := 722) (tgt := 724) rfl (by decide) (iR_b _) dL_law_719 ?_ ?_
          · intro cc; have H := H.1 cc
            refine sb_goto (tgt := 2061) (by decide) dL_law_724 ?_
            refine Wb.forget [true, true, true, true, true, false, false] ?_
            exact (H hx4 hs12)
          · intro cc; have H := H.2 cc
            refine sb_iconst (pc' := 723) rfl dL_law_722 ?_
            exact sb_iret rfl (nar_z2 (Or.inl rfl)) dL_law_723 (H (iR_lit rfl) hs12)
      · intro cc; have H := H.2 cc
        refine sb_iconst (pc' := 706) rfl dL_law_705 ?_
        exact sb_iret rfl (nar_z2 (Or.inl rfl)) dL_law_706 (H (iR_lit rfl) hs12)
    · intro cc; have H := H.2 cc
      refine sb_iconst (pc' := 681) rfl dL_law_680 ?_
      refine sb_goto (tgt := 685) (by decide) dL_law_681 ?_
      refine sb_aload_n (pc' := 686) rfl rfl dL_law_685 ?_
      refine sb_iload (pc' := 688) rfl rfl dL_law_686 ?_
      refine sb_iconst (pc' := 689) rfl dL_law_688 ?_
      refine sb_iadd (pc' := 690) rfl dL_law_689 ?_
      refine sb_sld (pc' := 691) rfl o9.1 o9.2 hL dL_law_690 ?_
      obtain ⟨d13, hd13, H⟩ := H
      refine sb_callV (pc' := 694) rfl rfl (rc := rc) (rs := rs) (mc' := 0) (ms' := 0) (As := [(vi (sx g (x4 + 1))), (vi 1), (vi (sx g (x4 + 3)))]) (st := []) of_102 rfl rfl (Nat.le_of_ble_eq_true rfl) hd13 kX11_part ⟨wd_1924, wd_1925, wd_1926⟩ dL_law_691 (Eb.mono H ?_)
      rintro o s13 ⟨r13, rfl, hr13, hs13, H⟩
      show Wb g ad d mL_law Q 694 [some (.ref (ag_b g)), some (.ref (ad 0)), some (.ref (ad 102)), some (.ref (ad 131)), some (vi x4), some (vi r10), none] [(vi r13)] s13 rc rs
      refine sb_istore (pc' := 696) rfl (L' := [some (.ref (ag_b g)), some (.ref (ad 0)), some (.ref (ad 102)), some (.ref (ad 131)), some (vi x4), some (vi r10), some (vi r13)]) rfl (by decide) dL_law_694 ?_
      refine sb_aload_n (pc' := 697) rfl rfl dL_law_696 ?_
      obtain ⟨d14, hd14, H⟩ := H
      refine sb_callV (pc' := 700) rfl rfl (rc := rc) (rs := rs) (mc' := 0) (ms' := 0) (As := []) (st := []) of_102 rfl rfl (Nat.le_of_ble_eq_true rfl) hd14 kX11_thrown ⟨wd_1707, wd_1708, wd_1709⟩ dL_law_697 (Eb.mono H ?_)
      rintro o s14 ⟨r14, rfl, hr14, hs14, H⟩
      show Wb g ad d mL_law Q 700 [some (.ref (ag_b g)), some (.ref (ad 0)), some (.ref (ad 102)), some (.ref (ad 131)), some (vi x4), some (vi r10), some (vi r13)] [(vi r14)] s14 rc rs
      refine sb_iload (pc' := 702) rfl rfl dL_law_700 ?_
      refine sb_icmp_eq (pc' := 705) (tgt := 707) rfl (by decide) hr14 hr10 dL_law_702 ?_ ?_
      · intro cc; have H := H.1 cc
        refine sb_iload (pc' := 709) rfl rfl dL_law_707 ?_
        refine sb_if_ne (pc' := 712) (tgt := 724) rfl (by decide) hr10 dL_law_709 ?_ ?_
        · intro cc; have H := H.1 cc
          refine sb_goto (tgt := 2061) (by decide) dL_law_724 ?_
          refine Wb.forget [true, true, true, true, true, false, false] ?_
          exact (H hx4 hs14)
        · intro cc; have H := H.2 cc
          refine sb_aload_n (pc' := 713) rfl rfl dL_law_712 ?_
          refine sb_iconst (pc' := 714) rfl dL_law_713 ?_
          refine sb_lald (pc' := 715) rfl aL_131 (by decide) (by decide) dL_law_714 ?_
          refine sb_iload (pc' := 717) rfl rfl dL_law_715 ?_
          refine sb_i2l (pc' := 718) rfl hr13 dL_law_717 ?_
          refine sb_lcmp (pc' := 719) rfl dL_law_718 ?_
          refine sb_if_eq (pc' := 722) (tgt := 724) rfl (by decide) (iR_b _) dL_law_719 ?_ ?_
          · intro cc; have H := H.1 cc
            refine sb_goto (tgt := 2061) (by decide) dL_law_724 ?_
            refine Wb.forget [true, true, true, true, true, false, false] ?_
            exact (H hx4 hs14)
          · intro cc; have H := H.2 cc
            refine sb_iconst (pc' := 723) rfl dL_law_722 ?_
            exact sb_iret rfl (nar_z2 (Or.inl rfl)) dL_law_723 (H (iR_lit rfl) hs14)
      · intro cc; have H := H.2 cc
        refine sb_iconst (pc' := 706) rfl dL_law_705 ?_
        exact sb_iret rfl (nar_z2 (Or.inl rfl)) dL_law_706 (H (iR_lit rfl) hs14)
theorem bL_law_727 {g : AG} {ad : Nat → Nat} {d : Nat} {Q : AO → SG → Prop} {rc rs : Nat} {σ : SG} {x4 : Int} (hL : ag_L g ≤ 3072) (hx4 : iR x4) (hS : SR σ) (H : (0 ≤ x4 + 1 ∧ x4 + 1 < ag_L g) ∧ (0 ≤ x4 + 2 ∧ x4 + 2 < ag_L g) ∧ Cl g ad d mL_after 2 12 [(.ref (ad 0)), (vi (sx g (x4 + 1))), (vi (sx g (x4 + 2))), (.ref (ad 131))] σ (Kx (Ki fun r3 s3 => Cl g ad d mX11_after 0 0 [(.ref (ad 102)), (vi (sx g (x4 + 1))), (vi (sx g (x4 + 2)))] s3 (Ki fun r4 s4 => Cl g ad d mX11_thrown 0 0 [(.ref (ad 102))] s4 (Ki fun r5 s5 => ((r5 = r3 → ((¬ r3 = 0 → (iR x4 → SR s5 → Wb g ad d mL_law Q 2061 [some (.ref (ag_b g)), some (.ref (ad 0)), some (.ref (ad 102)), some (.ref (ad 131)), some (vi x4), none, none] [] s5 rc rs)) ∧ (r3 = 0 → (((lCmp (la s5 131 0) r4) = 0 → (iR x4 → SR s5 → Wb g ad d mL_law Q 2061 [some (.ref (ag_b g)), some (.ref (ad 0)), some (.ref (ad 102)), some (.ref (ad 131)), some (vi x4), none, none] [] s5 rc rs)) ∧ (¬ (lCmp (la s5 131 0) r4) = 0 → (iR 0 → SR s5 → Q (.inl (some (vi 0))) s5)))))) ∧ (¬ r5 = r3 → (iR 0 → SR s5 → Q (.inl (some (vi 0))) s5)))))) (fun E s3 => SR s3 → Q (.inr E) s3))) : Wb g ad d mL_law Q 727 [some (.ref (ag_b g)), some (.ref (ad 0)), some (.ref (ad 102)), some (.ref (ad 131)), some (vi x4), none, none] [] σ (rc + 2) (rs + 12) := by
  refine sb_aload_n (pc' := 728) rfl rfl dL_law_727 ?_
  refine sb_aload_n (pc' := 729) rfl rfl dL_law_728 ?_
  refine sb_iload (pc' := 731) rfl rfl dL_law_729 ?_
  refine sb_iconst (pc' := 732) rfl dL_law_731 ?_
  refine sb_iadd (pc' := 733) rfl dL_law_732 ?_
  obtain ⟨o1, H⟩ := H
  refine sb_sld (pc' := 734) rfl o1.1 o1.2 hL dL_law_733 ?_
  refine sb_aload_n (pc' := 735) rfl rfl dL_law_734 ?_
  refine sb_iload (pc' := 737) rfl rfl dL_law_735 ?_
  refine sb_iconst (pc' := 738) rfl dL_law_737 ?_
  refine sb_iadd (pc' := 739) rfl dL_law_738 ?_
  obtain ⟨o2, H⟩ := H
  refine sb_sld (pc' := 740) rfl o2.1 o2.2 hL dL_law_739 ?_
  refine sb_aload_n (pc' := 741) rfl rfl dL_law_740 ?_
  obtain ⟨d3, hd3, H⟩ := H
  refine sb_callSX (pc' := 744) rfl rfl (rc := rc) (rs := rs) (mc' := 2) (ms' := 12) (As := [(.ref (ad 0)), (vi (sx g (x4 + 1))), (vi (sx g (x4 + 2))), (.ref (ad 131))]) (st := [])  rfl rfl (Nat.le_of_ble_eq_true rfl) hd3 kHL_after ⟨wd_1315, wd_1316⟩ dL_law_741 (Eb.mono H ?_)
  rintro o s3 (⟨r3, rfl, hr3, hs3, H⟩ | ⟨E, rfl, hs3, H⟩)
  case inr => exact H hs3
  show Wb g ad d mL_law Q 744 [some (.ref (ag_b g)), some (.ref (ad 0)), some (.ref (ad 102)), some (.ref (ad 131)), some (vi x4), none, none] [(vi r3)] s3 rc rs
  refine sb_istore (pc' := 746) rfl (L' := [some (.ref (ag_b g)), some (.ref (ad 0)), some (.ref (ad 102)), some (.ref (ad 131)), some (vi x4), some (vi r3), none]) rfl (by decide) dL_law_744 ?_
  refine sb_aload_n (pc' := 747) rfl rfl dL_law_746 ?_
  refine sb_aload_n (pc' := 748) rfl rfl dL_law_747 ?_
  refine sb_iload (pc' := 750) rfl rfl dL_law_748 ?_
  refine sb_iconst (pc' := 751) rfl dL_law_750 ?_
  refine sb_iadd (pc' := 752) rfl dL_law_751 ?_
  refine sb_sld (pc' := 753) rfl o1.1 o1.2 hL dL_law_752 ?_
  refine sb_aload_n (pc' := 754) rfl rfl dL_law_753 ?_
  refine sb_iload (pc' := 756) rfl rfl dL_law_754 ?_
  refine sb_iconst (pc' := 757) rfl dL_law_756 ?_
  refine sb_iadd (pc' := 758) rfl dL_law_757 ?_
  refine sb_sld (pc' := 759) rfl o2.1 o2.2 hL dL_law_758 ?_
  obtain ⟨d4, hd4, H⟩ := H
  refine sb_callV (pc' := 762) rfl rfl (rc := rc) (rs := rs) (mc' := 0) (ms' := 0) (As := [(vi (sx g (x4 + 1))), (vi (sx g (x4 + 2)))]) (st := []) of_102 rfl rfl (Nat.le_of_ble_eq_true rfl) hd4 kX11_after ⟨wd_1928, wd_1929, wd_1930⟩ dL_law_759 (Eb.mono H ?_)
  rintro o s4 ⟨r4, rfl, hr4, hs4, H⟩
  show Wb g ad d mL_law Q 762 [some (.ref (ag_b g)), some (.ref (ad 0)), some (.ref (ad 102)), some (.ref (ad 131)), some (vi x4), some (vi r3), none] [(vi r4)] s4 rc rs
  refine sb_istore (pc' := 764) rfl (L' := [some (.ref (ag_b g)), some (.ref (ad 0)), some (.ref (ad 102)), some (.ref (ad 131)), some (vi x4), some (vi r3), some (vi r4)]) rfl (by decide) dL_law_762 ?_
  refine sb_aload_n (pc' := 765) rfl rfl dL_law_764 ?_
  obtain ⟨d5, hd5, H⟩ := H
  refine sb_callV (pc' := 768) rfl rfl (rc := rc) (rs := rs) (mc' := 0) (ms' := 0) (As := []) (st := []) of_102 rfl rfl (Nat.le_of_ble_eq_true rfl) hd5 kX11_thrown ⟨wd_1707, wd_1708, wd_1709⟩ dL_law_765 (Eb.mono H ?_)
  rintro o s5 ⟨r5, rfl, hr5, hs5, H⟩
  show Wb g ad d mL_law Q 768 [some (.ref (ag_b g)), some (.ref (ad 0)), some (.ref (ad 102)), some (.ref (ad 131)), some (vi x4), some (vi r3), some (vi r4)] [(vi r5)] s5 rc rs
  refine sb_iload (pc' := 770) rfl rfl dL_law_768 ?_
  refine sb_icmp_eq (pc' := 773) (tgt := 775) rfl (by decide) hr5 hr3 dL_law_770 ?_ ?_
  · intro cc; have H := H.1 cc
    refine sb_iload (pc' := 777) rfl rfl dL_law_775 ?_
    refine sb_if_ne (pc' := 780) (tgt := 792) rfl (by decide) hr3 dL_law_777 ?_ ?_
    · intro cc; have H := H.1 cc
      refine sb_goto (tgt := 2061) (by decide) dL_law_792 ?_
      refine Wb.forget [true, true, true, true, true, false, false] ?_
      exact (H hx4 hs5)
    · intro cc; have H := H.2 cc
      refine sb_aload_n (pc' := 781) rfl rfl dL_law_780 ?_
      refine sb_iconst (pc' := 782) rfl dL_law_781 ?_
      refine sb_lald (pc' := 783) rfl aL_131 (by decide) (by decide) dL_law_782 ?_
      refine sb_iload (pc' := 785) rfl rfl dL_law_783 ?_
      refine sb_i2l (pc' := 786) rfl hr4 dL_law_785 ?_
      refine sb_lcmp (pc' := 787) rfl dL_law_786 ?_
      refine sb_if_eq (pc' := 790) (tgt := 792) rfl (by decide) (iR_b _) dL_law_787 ?_ ?_
      · intro cc; have H := H.1 cc
        refine sb_goto (tgt := 2061) (by decide) dL_law_792 ?_
        refine Wb.forget [true, true, true, true, true, false, false] ?_
        exact (H hx4 hs5)
      · intro cc; have H := H.2 cc
        refine sb_iconst (pc' := 791) rfl dL_law_790 ?_
        exact sb_iret rfl (nar_z2 (Or.inl rfl)) dL_law_791 (H (iR_lit rfl) hs5)
  · intro cc; have H := H.2 cc
    refine sb_iconst (pc' := 774) rfl dL_law_773 ?_
    exact sb_iret rfl (nar_z2 (Or.inl rfl)) dL_law_774 (H (iR_lit rfl) hs5)
theorem bL_law_795 {g : AG} {ad : Nat → Nat} {d : Nat} {Q : AO → SG → Prop} {rc rs : Nat} {σ : SG} {x4 : Int} (hL : ag_L g ≤ 3072) (hx4 : iR x4) (hS : SR σ) (H : (0 ≤ x4 + 1 ∧ x4 + 1 < ag_L g) ∧ Cl g ad d mL_place 1 6 [(.ref (ad 0)), (vi (sx g (x4 + 1))), (.ref (ad 131))] σ (Kx (Ki fun r2 s2 => Cl g ad d mX11_place 0 0 [(.ref (ad 102)), (vi (sx g (x4 + 1)))] s2 (Ki fun r3 s3 => Cl g ad d mX11_thrown 0 0 [(.ref (ad 102))] s3 (Ki fun r4 s4 => ((r4 = r2 → ((¬ r2 = 0 → (iR x4 → SR s4 → Wb g ad d mL_law Q 2061 [some (.ref (ag_b g)), some (.ref (ad 0)), some (.ref (ad 102)), some (.ref (ad 131)), some (vi x4), none, none] [] s4 rc rs)) ∧ (r2 = 0 → (((lCmp (la s4 131 0) r3) = 0 → (iR x4 → SR s4 → Wb g ad d mL_law Q 2061 [some (.ref (ag_b g)), some (.ref (ad 0)), some (.ref (ad 102)), some (.ref (ad 131)), some (vi x4), none, none] [] s4 rc rs)) ∧ (¬ (lCmp (la s4 131 0) r3) = 0 → (iR 0 → SR s4 → Q (.inl (some (vi 0))) s4)))))) ∧ (¬ r4 = r2 → (iR 0 → SR s4 → Q (.inl (some (vi 0))) s4)))))) (fun E s2 => SR s2 → Q (.inr E) s2))) : Wb g ad d mL_law Q 795 [some (.ref (ag_b g)), some (.ref (ad 0)), some (.ref (ad 102)), some (.ref (ad 131)), some (vi x4), none, none] [] σ (rc + 1) (rs + 6) := by
  refine sb_aload_n (pc' := 796) rfl rfl dL_law_795 ?_
  refine sb_aload_n (pc' := 797) rfl rfl dL_law_796 ?_
  refine sb_iload (pc' := 799) rfl rfl dL_law_797 ?_
  refine sb_iconst (pc' := 800) rfl dL_law_799 ?_
  refine sb_iadd (pc' := 801) rfl dL_law_800 ?_
  obtain ⟨o1, H⟩ := H
  refine sb_sld (pc' := 802) rfl o1.1 o1.2 hL dL_law_801 ?_
  refine sb_aload_n (pc' := 803) rfl rfl dL_law_802 ?_
  obtain ⟨d2, hd2, H⟩ := H
  refine sb_callSX (pc' := 806) rfl rfl (rc := rc) (rs := rs) (mc' := 1) (ms' := 6) (As := [(.ref (ad 0)), (vi (sx g (x4 + 1))), (.ref (ad 131))]) (st := [])  rfl rfl (Nat.le_of_ble_eq_true rfl) hd2 kHL_place ⟨wd_1323, wd_1324⟩ dL_law_803 (Eb.mono H ?_)
  rintro o s2 (⟨r2, rfl, hr2, hs2, H⟩ | ⟨E, rfl, hs2, H⟩)
  case inr => exact H hs2
  show Wb g ad d mL_law Q 806 [some (.ref (ag_b g)), some (.ref (ad 0)), some (.ref (ad 102)), some (.ref (ad 131)), some (vi x4), none, none] [(vi r2)] s2 rc rs
  refine sb_istore (pc' := 808) rfl (L' := [some (.ref (ag_b g)), some (.ref (ad 0)), some (.ref (ad 102)), some (.ref (ad 131)), some (vi x4), some (vi r2), none]) rfl (by decide) dL_law_806 ?_
  refine sb_aload_n (pc' := 809) rfl rfl dL_law_808 ?_
  refine sb_aload_n (pc' := 810) rfl rfl dL_law_809 ?_
  refine sb_iload (pc' := 812) rfl rfl dL_law_810 ?_
  refine sb_iconst (pc' := 813) rfl dL_law_812 ?_
  refine sb_iadd (pc' := 814) rfl dL_law_813 ?_
  refine sb_sld (pc' := 815) rfl o1.1 o1.2 hL dL_law_814 ?_
  obtain ⟨d3, hd3, H⟩ := H
  refine sb_callV (pc' := 818) rfl rfl (rc := rc) (rs := rs) (mc' := 0) (ms' := 0) (As := [(vi (sx g (x4 + 1)))]) (st := []) of_102 rfl rfl (Nat.le_of_ble_eq_true rfl) hd3 kX11_place ⟨wd_1932, wd_1933, wd_1934⟩ dL_law_815 (Eb.mono H ?_)
  rintro o s3 ⟨r3, rfl, hr3, hs3, H⟩
  show Wb g ad d mL_law Q 818 [some (.ref (ag_b g)), some (.ref (ad 0)), some (.ref (ad 102)), some (.ref (ad 131)), some (vi x4), some (vi r2), none] [(vi r3)] s3 rc rs
  refine sb_istore (pc' := 820) rfl (L' := [some (.ref (ag_b g)), some (.ref (ad 0)), some (.ref (ad 102)), some (.ref (ad 131)), some (vi x4), some (vi r2), some (vi r3)]) rfl (by decide) dL_law_818 ?_
  refine sb_aload_n (pc' := 821) rfl rfl dL_law_820 ?_
  obtain ⟨d4, hd4, H⟩ := H
  refine sb_callV (pc' := 824) rfl rfl (rc := rc) (rs := rs) (mc' := 0) (ms' := 0) (As := []) (st := []) of_102 rfl rfl (Nat.le_of_ble_eq_true rfl) hd4 kX11_thrown ⟨wd_1707, wd_1708, wd_1709⟩ dL_law_821 (Eb.mono H ?_)
  rintro o s4 ⟨r4, rfl, hr4, hs4, H⟩
  show Wb g ad d mL_law Q 824 [some (.ref (ag_b g)), some (.ref (ad 0)), some (.ref (ad 102)), some (.ref (ad 131)), some (vi x4), some (vi r2), some (vi r3)] [(vi r4)] s4 rc rs
  refine sb_iload (pc' := 826) rfl rfl dL_law_824 ?_
  refine sb_icmp_eq (pc' := 829) (tgt := 831) rfl (by decide) hr4 hr2 dL_law_826 ?_ ?_
  · intro cc; have H := H.1 cc
    refine sb_iload (pc' := 833) rfl rfl dL_law_831 ?_
    refine sb_if_ne (pc' := 836) (tgt := 848) rfl (by decide) hr2 dL_law_833 ?_ ?_
    · intro cc; have H := H.1 cc
      refine sb_goto (tgt := 2061) (by decide) dL_law_848 ?_
      refine Wb.forget [true, true, true, true, true, false, false] ?_
      exact (H hx4 hs4)
    · intro cc; have H := H.2 cc
      refine sb_aload_n (pc' := 837) rfl rfl dL_law_836 ?_
      refine sb_iconst (pc' := 838) rfl dL_law_837 ?_
      refine sb_lald (pc' := 839) rfl aL_131 (by decide) (by decide) dL_law_838 ?_
      refine sb_iload (pc' := 841) rfl rfl dL_law_839 ?_
      refine sb_i2l (pc' := 842) rfl hr3 dL_law_841 ?_
      refine sb_lcmp (pc' := 843) rfl dL_law_842 ?_
      refine sb_if_eq (pc' := 846) (tgt := 848) rfl (by decide) (iR_b _) dL_law_843 ?_ ?_
      · intro cc; have H := H.1 cc
        refine sb_goto (tgt := 2061) (by decide) dL_law_848 ?_
        refine Wb.forget [true, true, true, true, true, false, false] ?_
        exact (H hx4 hs4)
      · intro cc; have H := H.2 cc
        refine sb_iconst (pc' := 847) rfl dL_law_846 ?_
        exact sb_iret rfl (nar_z2 (Or.inl rfl)) dL_law_847 (H (iR_lit rfl) hs4)
  · intro cc; have H := H.2 cc
    refine sb_iconst (pc' := 830) rfl dL_law_829 ?_
    exact sb_iret rfl (nar_z2 (Or.inl rfl)) dL_law_830 (H (iR_lit rfl) hs4)
theorem bL_law_851 {g : AG} {ad : Nat → Nat} {d : Nat} {Q : AO → SG → Prop} {rc rs : Nat} {σ : SG} {x4 : Int} (hL : ag_L g ≤ 3072) (hx4 : iR x4) (hS : SR σ) (H : (0 ≤ x4 + 1 ∧ x4 + 1 < ag_L g) ∧ (0 ≤ x4 + 2 ∧ x4 + 2 < ag_L g) ∧ Cl g ad d mL_put 2 12 [(.ref (ad 0)), (vi (sx g (x4 + 1))), (vi (sx g (x4 + 2))), (.ref (ad 131))] σ (Kx (Ki fun r3 s3 => Cl g ad d mX11_put 0 0 [(.ref (ad 102)), (vi (sx g (x4 + 1))), (vi (sx g (x4 + 2)))] s3 (Ki fun r4 s4 => Cl g ad d mX11_thrown 0 0 [(.ref (ad 102))] s4 (Ki fun r5 s5 => ((r5 = r3 → ((¬ r3 = 0 → (iR x4 → SR s5 → Wb g ad d mL_law Q 2061 [some (.ref (ag_b g)), some (.ref (ad 0)), some (.ref (ad 102)), some (.ref (ad 131)), some (vi x4), none, none] [] s5 rc rs)) ∧ (r3 = 0 → (((lCmp (la s5 131 0) r4) = 0 → (iR x4 → SR s5 → Wb g ad d mL_law Q 2061 [some (.ref (ag_b g)), some (.ref (ad 0)), some (.ref (ad 102)), some (.ref (ad 131)), some (vi x4), none, none] [] s5 rc rs)) ∧ (¬ (lCmp (la s5 131 0) r4) = 0 → (iR 0 → SR s5 → Q (.inl (some (vi 0))) s5)))))) ∧ (¬ r5 = r3 → (iR 0 → SR s5 → Q (.inl (some (vi 0))) s5)))))) (fun E s3 => SR s3 → Q (.inr E) s3))) : Wb g ad d mL_law Q 851 [some (.ref (ag_b g)), some (.ref (ad 0)), some (.ref (ad 102)), some (.ref (ad 131)), some (vi x4), none, none] [] σ (rc + 2) (rs + 12) := by
  refine sb_aload_n (pc' := 852) rfl rfl dL_law_851 ?_
  refine sb_aload_n (pc' := 853) rfl rfl dL_law_852 ?_
  refine sb_iload (pc' := 855) rfl rfl dL_law_853 ?_
  refine sb_iconst (pc' := 856) rfl dL_law_855 ?_
  refine sb_iadd (pc' := 857) rfl dL_law_856 ?_
  obtain ⟨o1, H⟩ := H
  refine sb_sld (pc' := 858) rfl o1.1 o1.2 hL dL_law_857 ?_
  refine sb_aload_n (pc' := 859) rfl rfl dL_law_858 ?_
  refine sb_iload (pc' := 861) rfl rfl dL_law_859 ?_
  refine sb_iconst (pc' := 862) rfl dL_law_861 ?_
  refine sb_iadd (pc' := 863) rfl dL_law_862 ?_
  obtain ⟨o2, H⟩ := H
  refine sb_sld (pc' := 864) rfl o2.1 o2.2 hL dL_law_863 ?_
  refine sb_aload_n (pc' := 865) rfl rfl dL_law_864 ?_
  obtain ⟨d3, hd3, H⟩ := H
  refine sb_callSX (pc' := 868) rfl rfl (rc := rc) (rs := rs) (mc' := 2) (ms' := 12) (As := [(.ref (ad 0)), (vi (sx g (x4 + 1))), (vi (sx g (x4 + 2))), (.ref (ad 131))]) (st := [])  rfl rfl (Nat.le_of_ble_eq_true rfl) hd3 kHL_put ⟨wd_1335, wd_1336⟩ dL_law_865 (Eb.mono H ?_)
  rintro o s3 (⟨r3, rfl, hr3, hs3, H⟩ | ⟨E, rfl, hs3, H⟩)
  case inr => exact H hs3
  show Wb g ad d mL_law Q 868 [some (.ref (ag_b g)), some (.ref (ad 0)), some (.ref (ad 102)), some (.ref (ad 131)), some (vi x4), none, none] [(vi r3)] s3 rc rs
  refine sb_istore (pc' := 870) rfl (L' := [some (.ref (ag_b g)), some (.ref (ad 0)), some (.ref (ad 102)), some (.ref (ad 131)), some (vi x4), some (vi r3), none]) rfl (by decide) dL_law_868 ?_
  refine sb_aload_n (pc' := 871) rfl rfl dL_law_870 ?_
  refine sb_aload_n (pc' := 872) rfl rfl dL_law_871 ?_
  refine sb_iload (pc' := 874) rfl rfl dL_law_872 ?_
  refine sb_iconst (pc' := 875) rfl dL_law_874 ?_
  refine sb_iadd (pc' := 876) rfl dL_law_875 ?_
  refine sb_sld (pc' := 877) rfl o1.1 o1.2 hL dL_law_876 ?_
  refine sb_aload_n (pc' := 878) rfl rfl dL_law_877 ?_
  refine sb_iload (pc' := 880) rfl rfl dL_law_878 ?_
  refine sb_iconst (pc' := 881) rfl dL_law_880 ?_
  refine sb_iadd (pc' := 882) rfl dL_law_881 ?_
  refine sb_sld (pc' := 883) rfl o2.1 o2.2 hL dL_law_882 ?_
  obtain ⟨d4, hd4, H⟩ := H
  refine sb_callV (pc' := 886) rfl rfl (rc := rc) (rs := rs) (mc' := 0) (ms' := 0) (As := [(vi (sx g (x4 + 1))), (vi (sx g (x4 + 2)))]) (st := []) of_102 rfl rfl (Nat.le_of_ble_eq_true rfl) hd4 kX11_put ⟨wd_1936, wd_1937, wd_1938⟩ dL_law_883 (Eb.mono H ?_)
  rintro o s4 ⟨r4, rfl, hr4, hs4, H⟩
  show Wb g ad d mL_law Q 886 [some (.ref (ag_b g)), some (.ref (ad 0)), some (.ref (ad 102)), some (.ref (ad 131)), some (vi x4), some (vi r3), none] [(vi r4)] s4 rc rs
  refine sb_istore (pc' := 888) rfl (L' := [some (.ref (ag_b g)), some (.ref (ad 0)), some (.ref (ad 102)), some (.ref (ad 131)), some (vi x4), some (vi r3), some (vi r4)]) rfl (by decide) dL_law_886 ?_
  refine sb_aload_n (pc' := 889) rfl rfl dL_law_888 ?_
  obtain ⟨d5, hd5, H⟩ := H
  refine sb_callV (pc' := 892) rfl rfl (rc := rc) (rs := rs) (mc' := 0) (ms' := 0) (As := []) (st := []) of_102 rfl rfl (Nat.le_of_ble_eq_true rfl) hd5 kX11_thrown ⟨wd_1707, wd_1708, wd_1709⟩ dL_law_889 (Eb.mono H ?_)
  rintro o s5 ⟨r5, rfl, hr5, hs5, H⟩
  show Wb g ad d mL_law Q 892 [some (.ref (ag_b g)), some (.ref (ad 0)), some (.ref (ad 102)), some (.ref (ad 131)), some (vi x4), some (vi r3), some (vi r4)] [(vi r5)] s5 rc rs
  refine sb_iload (pc' := 894) rfl rfl dL_law_892 ?_
  refine sb_icmp_eq (pc' := 897) (tgt := 899) rfl (by decide) hr5 hr3 dL_law_894 ?_ ?_
  · intro cc; have H := H.1 cc
    refine sb_iload (pc' := 901) rfl rfl dL_law_899 ?_
    refine sb_if_ne (pc' := 904) (tgt := 916) rfl (by decide) hr3 dL_law_901 ?_ ?_
    · intro cc; have H := H.1 cc
      refine sb_goto (tgt := 2061) (by decide) dL_law_916 ?_
      refine Wb.forget [true, true, true, true, true, false, false] ?_
      exact (H hx4 hs5)
    · intro cc; have H := H.2 cc
      refine sb_aload_n (pc' := 905) rfl rfl dL_law_904 ?_
      refine sb_iconst (pc' := 906) rfl dL_law_905 ?_
      refine sb_lald (pc' := 907) rfl aL_131 (by decide) (by decide) dL_law_906 ?_
      refine sb_iload (pc' := 909) rfl rfl dL_law_907 ?_
      refine sb_i2l (pc' := 910) rfl hr4 dL_law_909 ?_
      refine sb_lcmp (pc' := 911) rfl dL_law_910 ?_
      refine sb_if_eq (pc' := 914) (tgt := 916) rfl (by decide) (iR_b _) dL_law_911 ?_ ?_
      · intro cc; have H := H.1 cc
        refine sb_goto (tgt := 2061) (by decide) dL_law_916 ?_
        refine Wb.forget [true, true, true, true, true, false, false] ?_
        exact (H hx4 hs5)
      · intro cc; have H := H.2 cc
        refine sb_iconst (pc' := 915) rfl dL_law_914 ?_
        exact sb_iret rfl (nar_z2 (Or.inl rfl)) dL_law_915 (H (iR_lit rfl) hs5)
  · intro cc; have H := H.2 cc
    refine sb_iconst (pc' := 898) rfl dL_law_897 ?_
    exact sb_iret rfl (nar_z2 (Or.inl rfl)) dL_law_898 (H (iR_lit rfl) hs5)
theorem bL_law_919 {g : AG} {ad : Nat → Nat} {d : Nat} {Q : AO → SG → Prop} {rc rs : Nat} {σ : SG} {x4 : Int} (hL : ag_L g ≤ 3072) (hx4 : iR x4) (hS : SR σ) (H : (0 ≤ x4 + 1 ∧ x4 + 1 < ag_L g) ∧ (0 ≤ x4 + 2 ∧ x4 + 2 < ag_L g) ∧ Cl g ad d mL_price 2 12 [(.ref (ad 0)), (vi (sx g (x4 + 1))), (vi (sx g (x4 + 2))), (.ref (ad 131))] σ (Kx (Ki fun r3 s3 => Cl g ad d mX11_price 0 0 [(.ref (ad 102)), (vi (sx g (x4 + 1))), (vi (sx g (x4 + 2)))] s3 (Ki fun r4 s4 => Cl g ad d mX11_thrown 0 0 [(.ref (ad 102))] s4 (Ki fun r5 s5 => ((r5 = r3 → ((¬ r3 = 0 → (iR x4 → SR s5 → Wb g ad d mL_law Q 2061 [some (.ref (ag_b g)), some (.ref (ad 0)), some (.ref (ad 102)), some (.ref (ad 131)), some (vi x4), none, none] [] s5 rc rs)) ∧ (r3 = 0 → (((lCmp (la s5 131 0) r4) = 0 → (iR x4 → SR s5 → Wb g ad d mL_law Q 2061 [some (.ref (ag_b g)), some (.ref (ad 0)), some (.ref (ad 102)), some (.ref (ad 131)), some (vi x4), none, none] [] s5 rc rs)) ∧ (¬ (lCmp (la s5 131 0) r4) = 0 → (iR 0 → SR s5 → Q (.inl (some (vi 0))) s5)))))) ∧ (¬ r5 = r3 → (iR 0 → SR s5 → Q (.inl (some (vi 0))) s5)))))) (fun E s3 => SR s3 → Q (.inr E) s3))) : Wb g ad d mL_law Q 919 [some (.ref (ag_b g)), some (.ref (ad 0)), some (.ref (ad 102)), some (.ref (ad 131)), some (vi x4), none, none] [] σ (rc + 2) (rs + 12) := by
  refine sb_aload_n (pc' := 920) rfl rfl dL_law_919 ?_
  refine sb_aload_n (pc' := 921) rfl rfl dL_law_920 ?_
  refine sb_iload (pc' := 923) rfl rfl dL_law_921 ?_
  refine sb_iconst (pc' := 924) rfl dL_law_923 ?_
  refine sb_iadd (pc' := 925) rfl dL_law_924 ?_
  obtain ⟨o1, H⟩ := H
  refine sb_sld (pc' := 926) rfl o1.1 o1.2 hL dL_law_925 ?_
  refine sb_aload_n (pc' := 927) rfl rfl dL_law_926 ?_
  refine sb_iload (pc' := 929) rfl rfl dL_law_927 ?_
  refine sb_iconst (pc' := 930) rfl dL_law_929 ?_
  refine sb_iadd (pc' := 931) rfl dL_law_930 ?_
  obtain ⟨o2, H⟩ := H
  refine sb_sld (pc' := 932) rfl o2.1 o2.2 hL dL_law_931 ?_
  refine sb_aload_n (pc' := 933) rfl rfl dL_law_932 ?_
  obtain ⟨d3, hd3, H⟩ := H
  refine sb_callSX (pc' := 936) rfl rfl (rc := rc) (rs := rs) (mc' := 2) (ms' := 12) (As := [(.ref (ad 0)), (vi (sx g (x4 + 1))), (vi (sx g (x4 + 2))), (.ref (ad 131))]) (st := [])  rfl rfl (Nat.le_of_ble_eq_true rfl) hd3 kHL_price ⟨wd_1342, wd_1343⟩ dL_law_933 (Eb.mono H ?_)
  rintro o s3 (⟨r3, rfl, hr3, hs3, H⟩ | ⟨E, rfl, hs3, H⟩)
  case inr => exact H hs3
  show Wb g ad d mL_law Q 936 [some (.ref (ag_b g)), some (.ref (ad 0)), some (.ref (ad 102)), some (.ref (ad 131)), some (vi x4), none, none] [(vi r3)] s3 rc rs
  refine sb_istore (pc' := 938) rfl (L' := [some (.ref (ag_b g)), some (.ref (ad 0)), some (.ref (ad 102)), some (.ref (ad 131)), some (vi x4), some (vi r3), none]) rfl (by decide) dL_law_936 ?_
  refine sb_aload_n (pc' := 939) rfl rfl dL_law_938 ?_
  refine sb_aload_n (pc' := 940) rfl rfl dL_law_939 ?_
  refine sb_iload (pc' := 942) rfl rfl dL_law_940 ?_
  refine sb_iconst (pc' := 943) rfl dL_law_942 ?_
  refine sb_iadd (pc' := 944) rfl dL_law_943 ?_
  refine sb_sld (pc' := 945) rfl o1.1 o1.2 hL dL_law_944 ?_
  refine sb_aload_n (pc' := 946) rfl rfl dL_law_945 ?_
  refine sb_iload (pc' := 948) rfl rfl dL_law_946 ?_
  refine sb_iconst (pc' := 949) rfl dL_law_948 ?_
  refine sb_iadd (pc' := 950) rfl dL_law_949 ?_
  refine sb_sld (pc' := 951) rfl o2.1 o2.2 hL dL_law_950 ?_
  obtain ⟨d4, hd4, H⟩ := H
  refine sb_callV (pc' := 954) rfl rfl (rc := rc) (rs := rs) (mc' := 0) (ms' := 0) (As := [(vi (sx g (x4 + 1))), (vi (sx g (x4 + 2)))]) (st := []) of_102 rfl rfl (Nat.le_of_ble_eq_true rfl) hd4 kX11_price ⟨wd_1940, wd_1941, wd_1942⟩ dL_law_951 (Eb.mono H ?_)
  rintro o s4 ⟨r4, rfl, hr4, hs4, H⟩
  show Wb g ad d mL_law Q 954 [some (.ref (ag_b g)), some (.ref (ad 0)), some (.ref (ad 102)), some (.ref (ad 131)), some (vi x4), some (vi r3), none] [(vi r4)] s4 rc rs
  refine sb_istore (pc' := 956) rfl (L' := [some (.ref (ag_b g)), some (.ref (ad 0)), some (.ref (ad 102)), some (.ref (ad 131)), some (vi x4), some (vi r3), some (vi r4)]) rfl (by decide) dL_law_954 ?_
  refine sb_aload_n (pc' := 957) rfl rfl dL_law_956 ?_
  obtain ⟨d5, hd5, H⟩ := H
  refine sb_callV (pc' := 960) rfl rfl (rc := rc) (rs := rs) (mc' := 0) (ms' := 0) (As := []) (st := []) of_102 rfl rfl (Nat.le_of_ble_eq_true rfl) hd5 kX11_thrown ⟨wd_1707, wd_1708, wd_1709⟩ dL_law_957 (Eb.mono H ?_)
  rintro o s5 ⟨r5, rfl, hr5, hs5, H⟩
  show Wb g ad d mL_law Q 960 [some (.ref (ag_b g)), some (.ref (ad 0)), some (.ref (ad 102)), some (.ref (ad 131)), some (vi x4), some (vi r3), some (vi r4)] [(vi r5)] s5 rc rs
  refine sb_iload (pc' := 962) rfl rfl dL_law_960 ?_
  refine sb_icmp_eq (pc' := 965) (tgt := 967) rfl (by decide) hr5 hr3 dL_law_962 ?_ ?_
  · intro cc; have H := H.1 cc
    refine sb_iload (pc' := 969) rfl rfl dL_law_967 ?_
    refine sb_if_ne (pc' := 972) (tgt := 984) rfl (by decide) hr3 dL_law_969 ?_ ?_
    · intro cc; have H := H.1 cc
      refine sb_goto (tgt := 2061) (by decide) dL_law_984 ?_
      refine Wb.forget [true, true, true, true, true, false, false] ?_
      exact (H hx4 hs5)
    · intro cc; have H := H.2 cc
      refine sb_aload_n (pc' := 973) rfl rfl dL_law_972 ?_
      refine sb_iconst (pc' := 974) rfl dL_law_973 ?_
      refine sb_lald (pc' := 975) rfl aL_131 (by decide) (by decide) dL_law_974 ?_
      refine sb_iload (pc' := 977) rfl rfl dL_law_975 ?_
      refine sb_i2l (pc' := 978) rfl hr4 dL_law_977 ?_
      refine sb_lcmp (pc' := 979) rfl dL_law_978 ?_
      refine sb_if_eq (pc' := 982) (tgt := 984) rfl (by decide) (iR_b _) dL_law_979 ?_ ?_
      · intro cc; have H := H.1 cc
        refine sb_goto (tgt := 2061) (by decide) dL_law_984 ?_
        refine Wb.forget [true, true, true, true, true, false, false] ?_
        exact (H hx4 hs5)
      · intro cc; have H := H.2 cc
        refine sb_iconst (pc' := 983) rfl dL_law_982 ?_
        exact sb_iret rfl (nar_z2 (Or.inl rfl)) dL_law_983 (H (iR_lit rfl) hs5)
  · intro cc; have H := H.2 cc
    refine sb_iconst (pc' := 966) rfl dL_law_965 ?_
    exact sb_iret rfl (nar_z2 (Or.inl rfl)) dL_law_966 (H (iR_lit rfl) hs5)
theorem bL_law_987 {g : AG} {ad : Nat → Nat} {d : Nat} {Q : AO → SG → Prop} {rc rs : Nat} {σ : SG} {x4 : Int} (hL : ag_L g ≤ 3072) (hx4 : iR x4) (hS : SR σ) (H : (0 ≤ x4 + 1 ∧ x4 + 1 < ag_L g) ∧ (0 ≤ x4 + 2 ∧ x4 + 2 < ag_L g) ∧ (((sx g (x4 + 2)) = 0 → Cl g ad d mL_drop 2 12 [(.ref (ad 0)), (vi (sx g (x4 + 1))), (vi 0), (.ref (ad 131))] σ (Kx (Ki fun r3 s3 => (((sx g (x4 + 2)) = 0 → Cl g ad d mX11_drop 0 0 [(.ref (ad 102)), (vi (sx g (x4 + 1))), (vi 0)] s3 (Ki fun r4 s4 => Cl g ad d mX11_thrown 0 0 [(.ref (ad 102))] s4 (Ki fun r5 s5 => ((r5 = r3 → ((¬ r3 = 0 → (iR x4 → SR s5 → Wb g ad d mL_law Q 2061 [some (.ref (ag_b g)), some (.ref (ad 0)), some (.ref (ad 102)), some (.ref (ad 131)), some (vi x4), none, none] [] s5 rc rs)) ∧ (r3 = 0 → ((r4 = 0 → (((lCmp (la s5 131 0) 0) = 0 → (iR x4 → SR s5 → Wb g ad d mL_law Q 2061 [some (.ref (ag_b g)), some (.ref (ad 0)), some (.ref (ad 102)), some (.ref (ad 131)), some (vi x4), none, none] [] s5 rc rs)) ∧ (¬ (lCmp (la s5 131 0) 0) = 0 → (iR 0 → SR s5 → Q (.inl (some (vi 0))) s5)))) ∧ (¬ r4 = 0 → (((lCmp (la s5 131 0) 1) = 0 → (iR x4 → SR s5 → Wb g ad d mL_law Q 2061 [some (.ref (ag_b g)), some (.ref (ad 0)), some (.ref (ad 102)), some (.ref (ad 131)), some (vi x4), none, none] [] s5 rc rs)) ∧ (¬ (lCmp (la s5 131 0) 1) = 0 → (iR 0 → SR s5 → Q (.inl (some (vi 0))) s5)))))))) ∧ (¬ r5 = r3 → (iR 0 → SR s5 → Q (.inl (some (vi 0))) s5)))))) ∧ (¬ (sx g (x4 + 2)) = 0 → Cl g ad d mX11_drop 0 0 [(.ref (ad 102)), (vi (sx g (x4 + 1))), (vi 1)] s3 (Ki fun r6 s6 => Cl g ad d mX11_thrown 0 0 [(.ref (ad 102))] s6 (Ki fun r7 s7 => ((r7 = r3 → ((¬ r3 = 0 → (iR x4 → SR s7 → Wb g ad d mL_law Q 2061 [some (.ref (ag_b g)), some (.ref (ad 0)), some (.ref (ad 102)), some (.ref (ad 131)), some (vi x4), none, none] [] s7 rc rs)) ∧ (r3 = 0 → ((r6 = 0 → (((lCmp (la s7 131 0) 0) = 0 → (iR x4 → SR s7 → Wb g ad d mL_law Q 2061 [some (.ref (ag_b g)), some (.ref (ad 0)), some (.ref (ad 102)), some (.ref (ad 131)), some (vi x4), none, none] [] s7 rc rs)) ∧ (¬ (lCmp (la s7 131 0) 0) = 0 → (iR 0 → SR s7 → Q (.inl (some (vi 0))) s7)))) ∧ (¬ r6 = 0 → (((lCmp (la s7 131 0) 1) = 0 → (iR x4 → SR s7 → Wb g ad d mL_law Q 2061 [some (.ref (ag_b g)), some (.ref (ad 0)), some (.ref (ad 102)), some (.ref (ad 131)), some (vi x4), none, none] [] s7 rc rs)) ∧ (¬ (lCmp (la s7 131 0) 1) = 0 → (iR 0 → SR s7 → Q (.inl (some (vi 0))) s7)))))))) ∧ (¬ r7 = r3 → (iR 0 → SR s7 → Q (.inl (some (vi 0))) s7)))))))) (fun E s3 => SR s3 → Q (.inr E) s3))) ∧ (¬ (sx g (x4 + 2)) = 0 → Cl g ad d mL_drop 2 12 [(.ref (ad 0)), (vi (sx g (x4 + 1))), (vi 1), (.ref (ad 131))] σ (Kx (Ki fun r8 s8 => (((sx g (x4 + 2)) = 0 → Cl g ad d mX11_drop 0 0 [(.ref (ad 102)), (vi (sx g (x4 + 1))), (vi 0)] s8 (Ki fun r9 s9 => Cl g ad d mX11_thrown 0 0 [(.ref (ad 102))] s9 (Ki fun r10 s10 => ((r10 = r8 → ((¬ r8 = 0 → (iR x4 → SR s10 → Wb g ad d mL_law Q 2061 [some (.ref (ag_b g)), some (.ref (ad 0)), some (.ref (ad 102)), some (.ref (ad 131)), some (vi x4), none, none] [] s10 rc rs)) ∧ (r8 = 0 → ((r9 = 0 → (((lCmp (la s10 131 0) 0) = 0 → (iR x4 → SR s10 → Wb g ad d mL_law Q 2061 [some (.ref (ag_b g)), some (.ref (ad 0)), some (.ref (ad 102)), some (.ref (ad 131)), some (vi x4), none, none] [] s10 rc rs)) ∧ (¬ (lCmp (la s10 131 0) 0) = 0 → (iR 0 → SR s10 → Q (.inl (some (vi 0))) s10)))) ∧ (¬ r9 = 0 → (((lCmp (la s10 131 0) 1) = 0 → (iR x4 → SR s10 → Wb g ad d mL_law Q 2061 [some (.ref (ag_b g)), some (.ref (ad 0)), some (.ref (ad 102)), some (.ref (ad 131)), some (vi x4), none, none] [] s10 rc rs)) ∧ (¬ (lCmp (la s10 131 0) 1) = 0 → (iR 0 → SR s10 → Q (.inl (some (vi 0))) s10)))))))) ∧ (¬ r10 = r8 → (iR 0 → SR s10 → Q (.inl (some (vi 0))) s10)))))) ∧ (¬ (sx g (x4 + 2)) = 0 → Cl g ad d mX11_drop 0 0 [(.ref (ad 102)), (vi (sx g (x4 + 1))), (vi 1)] s8 (Ki fun r11 s11 => Cl g ad d mX11_thrown 0 0 [(.ref (ad 102))] s11 (Ki fun r12 s12 => ((r12 = r8 → ((¬ r8 = 0 → (iR x4 → SR s12 → Wb g ad d mL_law Q 2061 [some (.ref (ag_b g)), some (.ref (ad 0)), some (.ref (ad 102)), some (.ref (ad 131)), some (vi x4), none, none] [] s12 rc rs)) ∧ (r8 = 0 → ((r11 = 0 → (((lCmp (la s12 131 0) 0) = 0 → (iR x4 → SR s12 → Wb g ad d mL_law Q 2061 [some (.ref (ag_b g)), some (.ref (ad 0)), some (.ref (ad 102)), some (.ref (ad 131)), some (vi x4), none, none] [] s12 rc rs)) ∧ (¬ (lCmp (la s12 131 0) 0) = 0 → (iR 0 → SR s12 → Q (.inl (some (vi 0))) s12)))) ∧ (¬ r11 = 0 → (((lCmp (la s12 131 0) 1) = 0 → (iR x4 → SR s12 → Wb g ad d mL_law Q 2061 [some (.ref (ag_b g)), some (.ref (ad 0)), some (.ref (ad 102)), some (.ref (ad 131)), some (vi x4), none, none] [] s12 rc rs)) ∧ (¬ (lCmp (la s12 131 0) 1) = 0 → (iR 0 → SR s12 → Q (.inl (some (vi 0))) s12)))))))) ∧ (¬ r12 = r8 → (iR 0 → SR s12 → Q (.inl (some (vi 0))) s12)))))))) (fun E s8 => SR s8 → Q (.inr E) s8))))) : Wb g ad d mL_law Q 987 [some (.ref (ag_b g)), some (.ref (ad 0)), some (.ref (ad 102)), some (.ref (ad 131)), some (vi x4), none, none] [] σ (rc + 2) (rs + 12) := by
  refine sb_aload_n (pc' := 988) rfl rfl dL_law_987 ?_
  refine sb_aload_n (pc' := 989) rfl rfl dL_law_988 ?_
  refine sb_iload (pc' := 991) rfl rfl dL_law_989 ?_
  refine sb_iconst (pc' := 992) rfl dL_law_991 ?_
  refine sb_iadd (pc' := 993) rfl dL_law_992 ?_
  obtain ⟨o1, H⟩ := H
  refine sb_sld (pc' := 994) rfl o1.1 o1.2 hL dL_law_993 ?_
  refine sb_aload_n (pc' := 995) rfl rfl dL_law_994 ?_
  refine sb_iload (pc' := 997) rfl rfl dL_law_995 ?_
  refine sb_iconst (pc' := 998) rfl dL_law_997 ?_
  refine sb_iadd (pc' := 999) rfl dL_law_998 ?_
  obtain ⟨o2, H⟩ := H
  refine sb_sld (pc' := 1000) rfl o2.1 o2.2 hL dL_law_999 ?_
  refine sb_if_eq (pc' := 1003) (tgt := 1007) rfl (by decide) (iR_b _) dL_law_1000 ?_ ?_
  · intro cc; have H := H.1 cc
    refine sb_iconst (pc' := 1008) rfl dL_law_1007 ?_
    refine sb_aload_n (pc' := 1009) rfl rfl dL_law_1008 ?_
    obtain ⟨d3, hd3, H⟩ := H
    refine sb_callSX (pc' := 1012) rfl rfl (rc := rc) (rs := rs) (mc' := 2) (ms' := 12) (As := [(.ref (ad 0)), (vi (sx g (x4 + 1))), (vi 0), (.ref (ad 131))]) (st := [])  rfl rfl (Nat.le_of_ble_eq_true rfl) hd3 kHL_drop ⟨wd_1350, wd_1351⟩ dL_law_1009 (Eb.mono H ?_)
    rintro o s3 (⟨r3, rfl, hr3, hs3, H⟩ | ⟨E, rfl, hs3, H⟩)
    case inr => exact H hs3
    show Wb g ad d mL_law Q 1012 [some (.ref (ag_b g)), some (.ref (ad 0)), some (.ref (ad 102)), some (.ref (ad 131)), some (vi x4), none, none] [(vi r3)] s3 rc rs
    refine sb_istore (pc' := 1014) rfl (L' := [some (.ref (ag_b g)), some (.ref (ad 0)), some (.ref (ad 102)), some (.ref (ad 131)), some (vi x4), some (vi r3), none]) rfl (by decide) dL_law_1012 ?_
    refine sb_aload_n (pc' := 1015) rfl rfl dL_law_1014 ?_
    refine sb_aload_n (pc' := 1016) rfl rfl dL_law_1015 ?_
    refine sb_iload (pc' := 1018) rfl rfl dL_law_1016 ?_
    refine sb_iconst (pc' := 1019) rfl dL_law_1018 ?_
    refine sb_iadd (pc' := 1020) rfl dL_law_1019 ?_
    refine sb_sld (pc' := 1021) rfl o1.1 o1.2 hL dL_law_1020 ?_
    refine sb_aload_n (pc' := 1022) rfl rfl dL_law_1021 ?_
    refine sb_iload (pc' := 1024) rfl rfl dL_law_1022 ?_
    refine sb_iconst (pc' := 1025) rfl dL_law_1024 ?_
    refine sb_iadd (pc' := 1026) rfl dL_law_1025 ?_
    refine sb_sld (pc' := 1027) rfl o2.1 o2.2 hL dL_law_1026 ?_
    refine sb_if_eq (pc' := 1030) (tgt := 1034) rfl (by decide) (iR_b _) dL_law_1027 ?_ ?_
    · intro cc; have H := H.1 cc
      refine sb_iconst (pc' := 1035) rfl dL_law_1034 ?_
      obtain ⟨d4, hd4, H⟩ := H
      refine sb_callV (pc' := 1038) rfl rfl (rc := rc) (rs := rs) (mc' := 0) (ms' := 0) (As := [(vi (sx g (x4 + 1))), (vi 0)]) (st := []) of_102 rfl rfl (Nat.le_of_ble_eq_true rfl) hd4 kX11_drop ⟨wd_1944, wd_1945, wd_1946⟩ dL_law_1035 (Eb.mono H ?_)
      rintro o s4 ⟨r4, rfl, hr4, hs4, H⟩
      show Wb g ad d mL_law Q 1038 [some (.ref (ag_b g)), some (.ref (ad 0)), some (.ref (ad 102)), some (.ref (ad 131)), some (vi x4), some (vi r3), none] [(vi r4)] s4 rc rs
      refine sb_istore (pc' := 1040) rfl (L' := [some (.ref (ag_b g)), some (.ref (ad 0)), some (.ref (ad 102)), some (.ref (ad 131)), some (vi x4), some (vi r3), some (vi r4)]) rfl (by decide) dL_law_1038 ?_
      refine sb_aload_n (pc' := 1041) rfl rfl dL_law_1040 ?_
      obtain ⟨d5, hd5, H⟩ := H
      refine sb_callV (pc' := 1044) rfl rfl (rc := rc) (rs := rs) (mc' := 0) (ms' := 0) (As := []) (st := []) of_102 rfl rfl (Nat.le_of_ble_eq_true rfl) hd5 kX11_thrown ⟨wd_1707, wd_1708, wd_1709⟩ dL_law_1041 (Eb.mono H ?_)
      rintro o s5 ⟨r5, rfl, hr5, hs5, H⟩
      show Wb g ad d mL_law Q 1044 [some (.ref (ag_b g)), some (.ref (ad 0)), some (.ref (ad 102)), some (.ref (ad 131)), some (vi x4), some (vi r3), some (vi r4)] [(vi r5)] s5 rc rs
      refine sb_iload (pc' := 1046) rfl rfl dL_law_1044 ?_
      refine sb_icmp_eq (pc' := 1049) (tgt := 1051) rfl (by decide) hr5 hr3 dL_law_1046 ?_ ?_
      · intro cc; have H := H.1 cc
        refine sb_iload (pc' := 1053) rfl rfl dL_law_1051 ?_
        refine sb_if_ne (pc' := 1056) (tgt := 1075) rfl (by decide) hr3 dL_law_1053 ?_ ?_
        · intro cc; have H := H.1 cc
          refine sb_goto (tgt := 2061) (by decide) dL_law_1075 ?_
          refine Wb.forget [true, true, true, true, true, false, false] ?_
          exact (H hx4 hs5)
        · intro cc; have H := H.2 cc
          refine sb_aload_n (pc' := 1057) rfl rfl dL_law_1056 ?_
          refine sb_iconst (pc' := 1058) rfl dL_law_1057 ?_
          refine sb_lald (pc' := 1059) rfl aL_131 (by decide) (by decide) dL_law_1058 ?_
          refine sb_iload (pc' := 1061) rfl rfl dL_law_1059 ?_
          refine sb_if_eq (pc' := 1064) (tgt := 1068) rfl (by decide) hr4 dL_law_1061 ?_ ?_
          · intro cc; have H := H.1 cc
            refine sb_lconst (pc' := 1069) rfl (z := 0) (by decide) dL_law_1068 ?_
            refine sb_lcmp (pc' := 1070) rfl dL_law_1069 ?_
            refine sb_if_eq (pc' := 1073) (tgt := 1075) rfl (by decide) (iR_b _) dL_law_1070 ?_ ?_
            · intro cc; have H := H.1 cc
              refine sb_goto (tgt := 2061) (by decide) dL_law_1075 ?_
              refine Wb.forget [true, true, true, true, true, false, false] ?_
              exact (H hx4 hs5)
            · intro cc; have H := H.2 cc
              refine sb_iconst (pc' := 1074) rfl dL_law_1073 ?_
              exact sb_iret rfl (nar_z2 (Or.inl rfl)) dL_law_1074 (H (iR_lit rfl) hs5)
          · intro cc; have H := H.2 cc
            refine sb_lconst (pc' := 1065) rfl (z := 1) (by decide) dL_law_1064 ?_
            refine sb_goto (tgt := 1069) (by decide) dL_law_1065 ?_
            refine sb_lcmp (pc' := 1070) rfl dL_law_1069 ?_
            refine sb_if_eq (pc' := 1073) (tgt := 1075) rfl (by decide) (iR_b _) dL_law_1070 ?_ ?_
            · intro cc; have H := H.1 cc
              refine sb_goto (tgt := 2061) (by decide) dL_law_1075 ?_
              refine Wb.forget [true, true, true, true, true, false, false] ?_
              exact (H hx4 hs5)
            · intro cc; have H := H.2 cc
              refine sb_iconst (pc' := 1074) rfl dL_law_1073 ?_
              exact sb_iret rfl (nar_z2 (Or.inl rfl)) dL_law_1074 (H (iR_lit rfl) hs5)
      · intro cc; have H := H.2 cc
        refine sb_iconst (pc' := 1050) rfl dL_law_1049 ?_
        exact sb_iret rfl (nar_z2 (Or.inl rfl)) dL_law_1050 (H (iR_lit rfl) hs5)
    · intro cc; have H := H.2 cc
      refine sb_iconst (pc' := 1031) rfl dL_law_1030 ?_
      refine sb_goto (tgt := 1035) (by decide) dL_law_1031 ?_
      obtain ⟨d6, hd6, H⟩ := H
      refine sb_callV (pc' := 1038) rfl rfl (rc := rc) (rs := rs) (mc' := 0) (ms' := 0) (As := [(vi (sx g (x4 + 1))), (vi 1)]) (st := []) of_102 rfl rfl (Nat.le_of_ble_eq_true rfl) hd6 kX11_drop ⟨wd_1944, wd_1945, wd_1946⟩ dL_law_1035 (Eb.mono H ?_)
      rintro o s6 ⟨r6, rfl, hr6, hs6, H⟩
      show Wb g ad d mL_law Q 1038 [some (.ref (ag_b g)), some (.ref (ad 0)), some (.ref (ad 102)), some (.ref (ad 131)), some (vi x4), some (vi r3), none] [(vi r6)] s6 rc rs
      refine sb_istore (pc' := 1040) rfl (L' := [some (.ref (ag_b g)), some (.ref (ad 0)), some (.ref (ad 102)), some (.ref (ad 131)), some (vi x4), some (vi r3), some (vi r6)]) rfl (by decide) dL_law_1038 ?_
      refine sb_aload_n (pc' := 1041) rfl rfl dL_law_1040 ?_
      obtain ⟨d7, hd7, H⟩ := H
      refine sb_callV (pc' := 1044) rfl rfl (rc := rc) (rs := rs) (mc' := 0) (ms' := 0) (As := []) (st := []) of_102 rfl rfl (Nat.le_of_ble_eq_true rfl) hd7 kX11_thrown ⟨wd_1707, wd_1708, wd_1709⟩ dL_law_1041 (Eb.mono H ?_)
      rintro o s7 ⟨r7, rfl, hr7, hs7, H⟩
      show Wb g ad d mL_law Q 1044 [some (.ref (ag_b g)), some (.ref (ad 0)), some (.ref (ad 102)), some (.ref (ad 131)), some (vi x4), some (vi r3), some (vi r6)] [(vi r7)] s7 rc rs
      refine sb_iload (pc' := 1046) rfl rfl dL_law_1044 ?_
      refine sb_icmp_eq (pc' := 1049) (tgt := 1051) rfl (by decide) hr7 hr3 dL_law_1046 ?_ ?_
      · intro cc; have H := H.1 cc
        refine sb_iload (pc' := 1053) rfl rfl dL_law_1051 ?_
        refine sb_if_ne (pc' := 1056) (tgt := 1075) rfl (by decide) hr3 dL_law_1053 ?_ ?_
        · intro cc; have H := H.1 cc
          refine sb_goto (tgt := 2061) (by decide) dL_law_1075 ?_
          refine Wb.forget [true, true, true, true, true, false, false] ?_
          exact (H hx4 hs7)
        · intro cc; have H := H.2 cc
          refine sb_aload_n (pc' := 1057) rfl rfl dL_law_1056 ?_
          refine sb_iconst (pc' := 1058) rfl dL_law_1057 ?_
          refine sb_lald (pc' := 1059) rfl aL_131 (by decide) (by decide) dL_law_1058 ?_
          refine sb_iload (pc' := 1061) rfl rfl dL_law_1059 ?_
          refine sb_if_eq (pc' := 1064) (tgt := 1068) rfl (by decide) hr6 dL_law_1061 ?_ ?_
          · intro cc; have H := H.1 cc
            refine sb_lconst (pc' := 1069) rfl (z := 0) (by decide) dL_law_1068 ?_
            refine sb_lcmp (pc' := 1070) rfl dL_law_1069 ?_
            refine sb_if_eq (pc' := 1073) (tgt := 1075) rfl (by decide) (iR_b _) dL_law_1070 ?_ ?_
            · intro cc; have H := H.1 cc
              refine sb_goto (tgt := 2061) (by decide) dL_law_1075 ?_
              refine Wb.forget [true, true, true, true, true, false, false] ?_
              exact (H hx4 hs7)
            · intro cc; have H := H.2 cc
              refine sb_iconst (pc' := 1074) rfl dL_law_1073 ?_
              exact sb_iret rfl (nar_z2 (Or.inl rfl)) dL_law_1074 (H (iR_lit rfl) hs7)
          · intro cc; have H := H.2 cc
            refine sb_lconst (pc' := 1065) rfl (z := 1) (by decide) dL_law_1064 ?_
            refine sb_goto (tgt := 1069) (by decide) dL_law_1065 ?_
            refine sb_lcmp (pc' := 1070) rfl dL_law_1069 ?_
            refine sb_if_eq (pc' := 1073) (tgt := 1075) rfl (by decide) (iR_b _) dL_law_1070 ?_ ?_
            · intro cc; have H := H.1 cc
              refine sb_goto (tgt := 2061) (by decide) dL_law_1075 ?_
              refine Wb.forget [true, true, true, true, true, false, false] ?_
              exact (H hx4 hs7)
            · intro cc; have H := H.2 cc
              refine sb_iconst (pc' := 1074) rfl dL_law_1073 ?_
              exact sb_iret rfl (nar_z2 (Or.inl rfl)) dL_law_1074 (H (iR_lit rfl) hs7)
      · intro cc; have H := H.2 cc
        refine sb_iconst (pc' := 1050) rfl dL_law_1049 ?_
        exact sb_iret rfl (nar_z2 (Or.inl rfl)) dL_law_1050 (H (iR_lit rfl) hs7)
  · intro cc; have H := H.2 cc
    refine sb_iconst (pc' := 1004) rfl dL_law_1003 ?_
    refine sb_goto (tgt := 1008) (by decide) dL_law_1004 ?_
    refine sb_aload_n (pc' := 1009) rfl rfl dL_law_1008 ?_
    obtain ⟨d8, hd8, H⟩ := H
    refine sb_callSX (pc' := 1012) rfl rfl (rc := rc) (rs := rs) (mc' := 2) (ms' := 12) (As := [(.ref (ad 0)), (vi (sx g (x4 + 1))), (vi 1), (.ref (ad 131))]) (st := [])  rfl rfl (Nat.le_of_ble_eq_true rfl) hd8 kHL_drop ⟨wd_1350, wd_1351⟩ dL_law_1009 (Eb.mono H ?_)
    rintro o s8 (⟨r8, rfl, hr8, hs8, H⟩ | ⟨E, rfl, hs8, H⟩)
    case inr => exact H hs8
    show Wb g ad d mL_law Q 1012 [some (.ref (ag_b g)), some (.ref (ad 0)), some (.ref (ad 102)), some (.ref (ad 131)), some (vi x4), none, none] [(vi r8)] s8 rc rs
    refine sb_istore (pc' := 1014) rfl (L' := [some (.ref (ag_b g)), some (.ref (ad 0)), some (.ref (ad 102)), some (.ref (ad 131)), some (vi x4), some (vi r8), none]) rfl (by decide) dL_law_1012 ?_
    refine sb_aload_n (pc' := 1015) rfl rfl dL_law_1014 ?_
    refine sb_aload_n (pc' := 1016) rfl rfl dL_law_1015 ?_
    refine sb_iload (pc' := 1018) rfl rfl dL_law_1016 ?_
    refine sb_iconst (pc' := 1019) rfl dL_law_1018 ?_
    refine sb_iadd (pc' := 1020) rfl dL_law_1019 ?_
    refine sb_sld (pc' := 1021) rfl o1.1 o1.2 hL dL_law_1020 ?_
    refine sb_aload_n (pc' := 1022) rfl rfl dL_law_1021 ?_
    refine sb_iload (pc' := 1024) rfl rfl dL_law_1022 ?_
    refine sb_iconst (pc' := 1025) rfl dL_law_1024 ?_
    refine sb_iadd (pc' := 1026) rfl dL_law_1025 ?_
    refine sb_sld (pc' := 1027) rfl o2.1 o2.2 hL dL_law_1026 ?_
    refine sb_if_eq (pc' := 1030) (tgt := 1034) rfl (by decide) (iR_b _) dL_law_1027 ?_ ?_
    · intro cc; have H := H.1 cc
      refine sb_iconst (pc' := 1035) rfl dL_law_1034 ?_
      obtain ⟨d9, hd9, H⟩ := H
      refine sb_callV (pc' := 1038) rfl rfl (rc := rc) (rs := rs) (mc' := 0) (ms' := 0) (As := [(vi (sx g (x4 + 1))), (vi 0)]) (st := []) of_102 rfl rfl (Nat.le_of_ble_eq_true rfl) hd9 kX11_drop ⟨wd_1944, wd_1945, wd_1946⟩ dL_law_1035 (Eb.mono H ?_)
      rintro o s9 ⟨r9, rfl, hr9, hs9, H⟩
      show Wb g ad d mL_law Q 1038 [some (.ref (ag_b g)), some (.ref (ad 0)), some (.ref (ad 102)), some (.ref (ad 131)), some (vi x4), some (vi r8), none] [(vi r9)] s9 rc rs
      refine sb_istore (pc' := 1040) rfl (L' := [some (.ref (ag_b g)), some (.ref (ad 0)), some (.ref (ad 102)), some (.ref (ad 131)), some (vi x4), some (vi r8), some (vi r9)]) rfl (by decide) dL_law_1038 ?_
      refine sb_aload_n (pc' := 1041) rfl rfl dL_law_1040 ?_
      obtain ⟨d10, hd10, H⟩ := H
      refine sb_callV (pc' := 1044) rfl rfl (rc := rc) (rs := rs) (mc' := 0) (ms' := 0) (As := []) (st := []) of_102 rfl rfl (Nat.le_of_ble_eq_true rfl) hd10 kX11_thrown ⟨wd_1707, wd_1708, wd_1709⟩ dL_law_1041 (Eb.mono H ?_)
      rintro o s10 ⟨r10, rfl, hr10, hs10, H⟩
      show Wb g ad d mL_law Q 1044 [some (.ref (ag_b g)), some (.ref (ad 0)), some (.ref (ad 102)), some (.ref (ad 131)), some (vi x4), some (vi r8), some (vi r9)] [(vi r10)] s10 rc rs
      refine sb_iload (pc' := 1046) rfl rfl dL_law_1044 ?_
      refine sb_icmp_eq (pc' := 1049) (tgt := 1051) rfl (by decide) hr10 hr8 dL_law_1046 ?_ ?_
      · intro cc; have H := H.1 cc
        refine sb_iload (pc' := 1053) rfl rfl dL_law_1051 ?_
        refine sb_if_ne (pc' := 1056) (tgt := 1075) rfl (by decide) hr8 dL_law_1053 ?_ ?_
        · intro cc; have H := H.1 cc
          refine sb_goto (tgt := 2061) (by decide) dL_law_1075 ?_
          refine Wb.forget [true, true, true, true, true, false, false] ?_
          exact (H hx4 hs10)
        · intro cc; have H := H.2 cc
          refine sb_aload_n (pc' := 1057) rfl rfl dL_law_1056 ?_
          refine sb_iconst (pc' := 1058) rfl dL_law_1057 ?_
          refine sb_lald (pc' := 1059) rfl aL_131 (by decide) (by decide) dL_law_1058 ?_
          refine sb_iload (pc' := 1061) rfl rfl dL_law_1059 ?_
          refine sb_if_eq (pc' := 1064) (tgt := 1068) rfl (by decide) hr9 dL_law_1061 ?_ ?_
          · intro cc; have H := H.1 cc
            refine sb_lconst (pc' := 1069) rfl (z := 0) (by decide) dL_law_1068 ?_
            refine sb_lcmp (pc' := 1070) rfl dL_law_1069 ?_
            refine sb_if_eq (pc' := 1073) (tgt := 1075) rfl (by decide) (iR_b _) dL_law_1070 ?_ ?_
            · intro cc; have H := H.1 cc
              refine sb_goto (tgt := 2061) (by decide) dL_law_1075 ?_
              refine Wb.forget [true, true, true, true, true, false, false] ?_
              exact (H hx4 hs10)
            · intro cc; have H := H.2 cc
              refine sb_iconst (pc' := 1074) rfl dL_law_1073 ?_
              exact sb_iret rfl (nar_z2 (Or.inl rfl)) dL_law_1074 (H (iR_lit rfl) hs10)
          · intro cc; have H := H.2 cc
            refine sb_lconst (pc' := 1065) rfl (z := 1) (by decide) dL_law_1064 ?_
            refine sb_goto (tgt := 1069) (by decide) dL_law_1065 ?_
            refine sb_lcmp (pc' := 1070) rfl dL_law_1069 ?_
            refine sb_if_eq (pc' := 1073) (tgt := 1075) rfl (by decide) (iR_b _) dL_law_1070 ?_ ?_
            · intro cc; have H := H.1 cc
              refine sb_goto (tgt := 2061) (by decide) dL_law_1075 ?_
              refine Wb.forget [true, true, true, true, true, false, false] ?_
              exact (H hx4 hs10)
            · intro cc; have H := H.2 cc
              refine sb_iconst (pc' := 1074) rfl dL_law_1073 ?_
              exact sb_iret rfl (nar_z2 (Or.inl rfl)) dL_law_1074 (H (iR_lit rfl) hs10)
      · intro cc; have H := H.2 cc
        refine sb_iconst (pc' := 1050) rfl dL_law_1049 ?_
        exact sb_iret rfl (nar_z2 (Or.inl rfl)) dL_law_1050 (H (iR_lit rfl) hs10)
    · intro cc; have H := H.2 cc
      refine sb_iconst (pc' := 1031) rfl dL_law_1030 ?_
      refine sb_goto (tgt := 1035) (by decide) dL_law_1031 ?_
      obtain ⟨d11, hd11, H⟩ := H
      refine sb_callV (pc' := 1038) rfl rfl (rc := rc) (rs := rs) (mc' := 0) (ms' := 0) (As := [(vi (sx g (x4 + 1))), (vi 1)]) (st := []) of_102 rfl rfl (Nat.le_of_ble_eq_true rfl) hd11 kX11_drop ⟨wd_1944, wd_1945, wd_1946⟩ dL_law_1035 (Eb.mono H ?_)
      rintro o s11 ⟨r11, rfl, hr11, hs11, H⟩
      show Wb g ad d mL_law Q 1038 [some (.ref (ag_b g)), some (.ref (ad 0)), some (.ref (ad 102)), some (.ref (ad 131)), some (vi x4), some (vi r8), none] [(vi r11)] s11 rc rs
      refine sb_istore (pc' := 1040) rfl (L' := [some (.ref (ag_b g)), some (.ref (ad 0)), some (.ref (ad 102)), some (.ref (ad 131)), some (vi x4), some (vi r8), some (vi r11)]) rfl (by decide) dL_law_1038 ?_
      refine sb_aload_n (pc' := 1041) rfl rfl dL_law_1040 ?_
      obtain ⟨d12, hd12, H⟩ := H
      refine sb_callV (pc' := 1044) rfl rfl (rc := rc) (rs := rs) (mc' := 0) (ms' := 0) (As := []) (st := []) of_102 rfl rfl (Nat.le_of_ble_eq_true rfl) hd12 kX11_thrown ⟨wd_1707, wd_1708, wd_1709⟩ dL_law_1041 (Eb.mono H ?_)
      rintro o s12 ⟨r12, rfl, hr12, hs12, H⟩
      show Wb g ad d mL_law Q 1044 [some (.ref (ag_b g)), some (.ref (ad 0)), some (.ref (ad 102)), some (.ref (ad 131)), some (vi x4), some (vi r8), some (vi r11)] [(vi r12)] s12 rc rs
      refine sb_iload (pc' := 1046) rfl rfl dL_law_1044 ?_
      refine sb_icmp_eq (pc' := 1049) (tgt := 1051) rfl (by decide) hr12 hr8 dL_law_1046 ?_ ?_
      · intro cc; have H := H.1 cc
        refine sb_iload (pc' := 1053) rfl rfl dL_law_1051 ?_
        refine sb_if_ne (pc' := 1056) (tgt := 1075) rfl (by decide) hr8 dL_law_1053 ?_ ?_
        · intro cc; have H := H.1 cc
          refine sb_goto (tgt := 2061) (by decide) dL_law_1075 ?_
          refine Wb.forget [true, true, true, true, true, false, false] ?_
          exact (H hx4 hs12)
        · intro cc; have H := H.2 cc
          refine sb_aload_n (pc' := 1057) rfl rfl dL_law_1056 ?_
          refine sb_iconst (pc' := 1058) rfl dL_law_1057 ?_
          refine sb_lald (pc' := 1059) rfl aL_131 (by decide) (by decide) dL_law_1058 ?_
          refine sb_iload (pc' := 1061) rfl rfl dL_law_1059 ?_
          refine sb_if_eq (pc' := 1064) (tgt := 1068) rfl (by decide) hr11 dL_law_1061 ?_ ?_
          · intro cc; have H := H.1 cc
            refine sb_lconst (pc' := 1069) rfl (z := 0) (by decide) dL_law_1068 ?_
            refine sb_lcmp (pc' := 1070) rfl dL_law_1069 ?_
            refine sb_if_eq (pc' := 1073) (tgt := 1075) rfl (by decide) (iR_b _) dL_law_1070 ?_ ?_
            · intro cc; have H := H.1 cc
              refine sb_goto (tgt := 2061) (by decide) dL_law_1075 ?_
              refine Wb.forget [true, true, true, true, true, false, false] ?_
              exact (H hx4 hs12)
            · intro cc; have H := H.2 cc
              refine sb_iconst (pc' := 1074) rfl dL_law_1073 ?_
              exact sb_iret rfl (nar_z2 (Or.inl rfl)) dL_law_1074 (H (iR_lit rfl) hs12)
          · intro cc; have H := H.2 cc
            refine sb_lconst (pc' := 1065) rfl (z := 1) (by decide) dL_law_1064 ?_
            refine sb_goto (tgt := 1069) (by decide) dL_law_1065 ?_
            refine sb_lcmp (pc' := 1070) rfl dL_law_1069 ?_
            refine sb_if_eq (pc' := 1073) (tgt := 1075) rfl (by decide) (iR_b _) dL_law_1070 ?_ ?_
            · intro cc; have H := H.1 cc
              refine sb_goto (tgt := 2061) (by decide) dL_law_1075 ?_
              refine Wb.forget [true, true, true, true, true, false, false] ?_
              exact (H hx4 hs12)
            · intro cc; have H := H.2 cc
              refine sb_iconst (pc' := 1074) rfl dL_law_1073 ?_
              exact sb_iret rfl (nar_z2 (Or.inl rfl)) dL_law_1074 (H (iR_lit rfl) hs12)
      · intro cc; have H := H.2 cc
        refine sb_iconst (pc' := 1050) rfl dL_law_1049 ?_
        exact sb_iret rfl (nar_z2 (Or.inl rfl)) dL_law_1050 (H (iR_lit rfl) hs12)
theorem bL_law_1078 {g : AG} {ad : Nat → Nat} {d : Nat} {Q : AO → SG → Prop} {rc rs : Nat} {σ : SG} {x4 : Int} (hL : ag_L g ≤ 3072) (hx4 : iR x4) (hS : SR σ) (H : (0 ≤ x4 + 1 ∧ x4 + 1 < ag_L g) ∧ (0 ≤ x4 + 2 ∧ x4 + 2 < ag_L g) ∧ Cl g ad d mL_tune 1 6 [(.ref (ad 0)), (vi (sx g (x4 + 1))), (vi (sx g (x4 + 2))), (.ref (ad 131))] σ (Kx (Ki fun r3 s3 => Cl g ad d mX11_tune 0 0 [(.ref (ad 102)), (vi (sx g (x4 + 1))), (vi (sx g (x4 + 2)))] s3 (Ki fun r4 s4 => Cl g ad d mX11_thrown 0 0 [(.ref (ad 102))] s4 (Ki fun r5 s5 => ((r5 = r3 → ((¬ r3 = 0 → (iR x4 → SR s5 → Wb g ad d mL_law Q 2061 [some (.ref (ag_b g)), some (.ref (ad 0)), some (.ref (ad 102)), some (.ref (ad 131)), some (vi x4), none, none] [] s5 rc rs)) ∧ (r3 = 0 → (((lCmp (la s5 131 0) r4) = 0 → (iR x4 → SR s5 → Wb g ad d mL_law Q 2061 [some (.ref (ag_b g)), some (.ref (ad 0)), some (.ref (ad 102)), some (.ref (ad 131)), some (vi x4), none, none] [] s5 rc rs)) ∧ (¬ (lCmp (la s5 131 0) r4) = 0 → (iR 0 → SR s5 → Q (.inl (some (vi 0))) s5)))))) ∧ (¬ r5 = r3 → (iR 0 → SR s5 → Q (.inl (some (vi 0))) s5)))))) (fun E s3 => SR s3 → Q (.inr E) s3))) : Wb g ad d mL_law Q 1078 [some (.ref (ag_b g)), some (.ref (ad 0)), some (.ref (ad 102)), some (.ref (ad 131)), some (vi x4), none, none] [] σ (rc + 1) (rs + 6) := by
  refine sb_aload_n (pc' := 1079) rfl rfl dL_law_1078 ?_
  refine sb_aload_n (pc' := 1080) rfl rfl dL_law_1079 ?_
  refine sb_iload (pc' := 1082) rfl rfl dL_law_1080 ?_
  refine sb_iconst (pc' := 1083) rfl dL_law_1082 ?_
  refine sb_iadd (pc' := 1084) rfl dL_law_1083 ?_
  obtain ⟨o1, H⟩ := H
  refine sb_sld (pc' := 1085) rfl o1.1 o1.2 hL dL_law_1084 ?_
  refine sb_aload_n (pc' := 1086) rfl rfl dL_law_1085 ?_
  refine sb_iload (pc' := 1088) rfl rfl dL_law_1086 ?_
  refine sb_iconst (pc' := 1089) rfl dL_law_1088 ?_
  refine sb_iadd (pc' := 1090) rfl dL_law_1089 ?_
  obtain ⟨o2, H⟩ := H
  refine sb_sld (pc' := 1091) rfl o2.1 o2.2 hL dL_law_1090 ?_
  refine sb_aload_n (pc' := 1092) rfl rfl dL_law_1091 ?_
  obtain ⟨d3, hd3, H⟩ := H
  refine sb_callSX (pc' := 1095) rfl rfl (rc := rc) (rs := rs) (mc' := 1) (ms' := 6) (As := [(.ref (ad 0)), (vi (sx g (x4 + 1))), (vi (sx g (x4 + 2))), (.ref (ad 131))]) (st := [])  rfl rfl (Nat.le_of_ble_eq_true rfl) hd3 kHL_tune ⟨wd_1362, wd_1363⟩ dL_law_1092 (Eb.mono H ?_)
  rintro o s3 (⟨r3, rfl, hr3, hs3, H⟩ | ⟨E, rfl, hs3, H⟩)
  case inr => exact H hs3
  show Wb g ad d mL_law Q 1095 [some (.ref (ag_b g)), some (.ref (ad 0)), some (.ref (ad 102)), some (.ref (ad 131)), some (vi x4), none, none] [(vi r3)] s3 rc rs
  refine sb_istore (pc' := 1097) rfl (L' := [some (.ref (ag_b g)), some (.ref (ad 0)), some (.ref (ad 102)), some (.ref (ad 131)), some (vi x4), some (vi r3), none]) rfl (by decide) dL_law_1095 ?_
  refine sb_aload_n (pc' := 1098) rfl rfl dL_law_1097 ?_
  refine sb_aload_n (pc' := 1099) rfl rfl dL_law_1098 ?_
  refine sb_iload (pc' := 1101) rfl rfl dL_law_1099 ?_
  refine sb_iconst (pc' := 1102) rfl dL_law_1101 ?_
  refine sb_iadd (pc' := 1103) rfl dL_law_1102 ?_
  refine sb_sld (pc' := 1104) rfl o1.1 o1.2 hL dL_law_1103 ?_
  refine sb_aload_n (pc' := 1105) rfl rfl dL_law_1104 ?_
  refine sb_iload (pc' := 1107) rfl rfl dL_law_1105 ?_
  refine sb_iconst (pc' := 1108) rfl dL_law_1107 ?_
  refine sb_iadd (pc' := 1109) rfl dL_law_1108 ?_
  refine sb_sld (pc' := 1110) rfl o2.1 o2.2 hL dL_law_1109 ?_
  obtain ⟨d4, hd4, H⟩ := H
  refine sb_callV (pc' := 1113) rfl rfl (rc := rc) (rs := rs) (mc' := 0) (ms' := 0) (As := [(vi (sx g (x4 + 1))), (vi (sx g (x4 + 2)))]) (st := []) of_102 rfl rfl (Nat.le_of_ble_eq_true rfl) hd4 kX11_tune ⟨wd_1948, wd_1949, wd_1950⟩ dL_law_1110 (Eb.mono H ?_)
  rintro o s4 ⟨r4, rfl, hr4, hs4, H⟩
  show Wb g ad d mL_law Q 1113 [some (.ref (ag_b g)), some (.ref (ad 0)), some (.ref (ad 102)), some (.ref (ad 131)), some (vi x4), some (vi r3), none] [(vi r4)] s4 rc rs
  refine sb_istore (pc' := 1115) rfl (L' := [some (.ref (ag_b g)), some (.ref (ad 0)), some (.ref (ad 102)), some (.ref (ad 131)), some (vi x4), some (vi r3), some (vi r4)]) rfl (by decide) dL_law_1113 ?_
  refine sb_aload_n (pc' := 1116) rfl rfl dL_law_1115 ?_
  obtain ⟨d5, hd5, H⟩ := H
  refine sb_callV (pc' := 1119) rfl rfl (rc := rc) (rs := rs) (mc' := 0) (ms' := 0) (As := []) (st := []) of_102 rfl rfl (Nat.le_of_ble_eq_true rfl) hd5 kX11_thrown ⟨wd_1707, wd_1708, wd_1709⟩ dL_law_1116 (Eb.mono H ?_)
  rintro o s5 ⟨r5, rfl, hr5, hs5, H⟩
  show Wb g ad d mL_law Q 1119 [some (.ref (ag_b g)), some (.ref (ad 0)), some (.ref (ad 102)), some (.ref (ad 131)), some (vi x4), some (vi r3), some (vi r4)] [(vi r5)] s5 rc rs
  refine sb_iload (pc' := 1121) rfl rfl dL_law_1119 ?_
  refine sb_icmp_eq (pc' := 1124) (tgt := 1126) rfl (by decide) hr5 hr3 dL_law_1121 ?_ ?_
  · intro cc; have H := H.1 cc
    refine sb_iload (pc' := 1128) rfl rfl dL_law_1126 ?_
    refine sb_if_ne (pc' := 1131) (tgt := 1143) rfl (by decide) hr3 dL_law_1128 ?_ ?_
    · intro cc; have H := H.1 cc
      refine sb_goto (tgt := 2061) (by decide) dL_law_1143 ?_
      refine Wb.forget [true, true, true, true, true, false, false] ?_
      exact (H hx4 hs5)
    · intro cc; have H := H.2 cc
      refine sb_aload_n (pc' := 1132) rfl rfl dL_law_1131 ?_
      refine sb_iconst (pc' := 1133) rfl dL_law_1132 ?_
      refine sb_lald (pc' := 1134) rfl aL_131 (by decide) (by decide) dL_law_1133 ?_
      refine sb_iload (pc' := 1136) rfl rfl dL_law_1134 ?_
      refine sb_i2l (pc' := 1137) rfl hr4 dL_law_1136 ?_
      refine sb_lcmp (pc' := 1138) rfl dL_law_1137 ?_
      refine sb_if_eq (pc' := 1141) (tgt := 1143) rfl (by decide) (iR_b _) dL_law_1138 ?_ ?_
      · intro cc; have H := H.1 cc
        refine sb_goto (tgt := 2061) (by decide) dL_law_1143 ?_
        refine Wb.forget [true, true, true, true, true, false, false] ?_
        exact (H hx4 hs5)
      · intro cc; have H := H.2 cc
        refine sb_iconst (pc' := 1142) rfl dL_law_1141 ?_
        exact sb_iret rfl (nar_z2 (Or.inl rfl)) dL_law_1142 (H (iR_lit rfl) hs5)
  · intro cc; have H := H.2 cc
    refine sb_iconst (pc' := 1125) rfl dL_law_1124 ?_
    exact sb_iret rfl (nar_z2 (Or.inl rfl)) dL_law_1125 (H (iR_lit rfl) hs5)
theorem bL_law_1146 {g : AG} {ad : Nat → Nat} {d : Nat} {Q : AO → SG → Prop} {rc rs : Nat} {σ : SG} {x4 : Int} (hL : ag_L g ≤ 3072) (hx4 : iR x4) (hS : SR σ) (H : (0 ≤ x4 + 1 ∧ x4 + 1 < ag_L g) ∧ (0 ≤ x4 + 2 ∧ x4 + 2 < ag_L g) ∧ Cl g ad d mL_option 1 6 [(.ref (ad 0)), (vi (sx g (x4 + 1))), (vi (sx g (x4 + 2))), (.ref (ad 131))] σ (Kx (Ki fun r3 s3 => Cl g ad d mX11_option 0 0 [(.ref (ad 102)), (vi (sx g (x4 + 1))), (vi (sx g (x4 + 2)))] s3 (Ki fun r4 s4 => Cl g ad d mX11_thrown 0 0 [(.ref (ad 102))] s4 (Ki fun r5 s5 => ((r5 = r3 → ((¬ r3 = 0 → (iR x4 → SR s5 → Wb g ad d mL_law Q 2061 [some (.ref (ag_b g)), some (.ref (ad 0)), some (.ref (ad 102)), some (.ref (ad 131)), some (vi x4), none, none] [] s5 rc rs)) ∧ (r3 = 0 → (((lCmp (la s5 131 0) r4) = 0 → (iR x4 → SR s5 → Wb g ad d mL_law Q 2061 [some (.ref (ag_b g)), some (.ref (ad 0)), some (.ref (ad 102)), some (.ref (ad 131)), some (vi x4), none, none] [] s5 rc rs)) ∧ (¬ (lCmp (la s5 131 0) r4) = 0 → (iR 0 → SR s5 → Q (.inl (some (vi 0))) s5)))))) ∧ (¬ r5 = r3 → (iR 0 → SR s5 → Q (.inl (some (vi 0))) s5)))))) (fun E s3 => SR s3 → Q (.inr E) s3))) : Wb g ad d mL_law Q 1146 [some (.ref (ag_b g)), some (.ref (ad 0)), some (.ref (ad 102)), some (.ref (ad 131)), some (vi x4), none, none] [] σ (rc + 1) (rs + 6) := by
  refine sb_aload_n (pc' := 1147) rfl rfl dL_law_1146 ?_
  refine sb_aload_n (pc' := 1148) rfl rfl dL_law_1147 ?_
  refine sb_iload (pc' := 1150) rfl rfl dL_law_1148 ?_
  refine sb_iconst (pc' := 1151) rfl dL_law_1150 ?_
  refine sb_iadd (pc' := 1152) rfl dL_law_1151 ?_
  obtain ⟨o1, H⟩ := H
  refine sb_sld (pc' := 1153) rfl o1.1 o1.2 hL dL_law_1152 ?_
  refine sb_aload_n (pc' := 1154) rfl rfl dL_law_1153 ?_
  refine sb_iload (pc' := 1156) rfl rfl dL_law_1154 ?_
  refine sb_iconst (pc' := 1157) rfl dL_law_1156 ?_
  refine sb_iadd (pc' := 1158) rfl dL_law_1157 ?_
  obtain ⟨o2, H⟩ := H
  refine sb_sld (pc' := 1159) rfl o2.1 o2.2 hL dL_law_1158 ?_
  refine sb_aload_n (pc' := 1160) rfl rfl dL_law_1159 ?_
  obtain ⟨d3, hd3, H⟩ := H
  refine sb_callSX (pc' := 1163) rfl rfl (rc := rc) (rs := rs) (mc' := 1) (ms' := 6) (As := [(.ref (ad 0)), (vi (sx g (x4 + 1))), (vi (sx g (x4 + 2))), (.ref (ad 131))]) (st := [])  rfl rfl (Nat.le_of_ble_eq_true rfl) hd3 kHL_option ⟨wd_1375, wd_1376⟩ dL_law_1160 (Eb.mono H ?_)
  rintro o s3 (⟨r3, rfl, hr3, hs3, H⟩ | ⟨E, rfl, hs3, H⟩)
  case inr => exact H hs3
  show Wb g ad d mL_law Q 1163 [some (.ref (ag_b g)), some (.ref (ad 0)), some (.ref (ad 102)), some (.ref (ad 131)), some (vi x4), none, none] [(vi r3)] s3 rc rs
  refine sb_istore (pc' := 1165) rfl (L' := [some (.ref (ag_b g)), some (.ref (ad 0)), some (.ref (ad 102)), some (.ref (ad 131)), some (vi x4), some (vi r3), none]) rfl (by decide) dL_law_1163 ?_
  refine sb_aload_n (pc' := 1166) rfl rfl dL_law_1165 ?_
  refine sb_aload_n (pc' := 1167) rfl rfl dL_law_1166 ?_
  refine sb_iload (pc' := 1169) rfl rfl dL_law_1167 ?_
  refine sb_iconst (pc' := 1170) rfl dL_law_1169 ?_
  refine sb_iadd (pc' := 1171) rfl dL_law_1170 ?_
  refine sb_sld (pc' := 1172) rfl o1.1 o1.2 hL dL_law_1171 ?_
  refine sb_aload_n (pc' := 1173) rfl rfl dL_law_1172 ?_
  refine sb_iload (pc' := 1175) rfl rfl dL_law_1173 ?_
  refine sb_iconst (pc' := 1176) rfl dL_law_1175 ?_
  refine sb_iadd (pc' := 1177) rfl dL_law_1176 ?_
  refine sb_sld (pc' := 1178) rfl o2.1 o2.2 hL dL_law_1177 ?_
  obtain ⟨d4, hd4, H⟩ := H
  refine sb_callV (pc' := 1181) rfl rfl (rc := rc) (rs := rs) (mc' := 0) (ms' := 0) (As := [(vi (sx g (x4 + 1))), (vi (sx g (x4 + 2)))]) (st := []) of_102 rfl rfl (Nat.le_of_ble_eq_true rfl) hd4 kX11_option ⟨wd_1952, wd_1953, wd_1954⟩ dL_law_1178 (Eb.mono H ?_)
  rintro o s4 ⟨r4, rfl, hr4, hs4, H⟩
  show Wb g ad d mL_law Q 1181 [some (.ref (ag_b g)), some (.ref (ad 0)), some (.ref (ad 102)), some (.ref (ad 131)), some (vi x4), some (vi r3), none] [(vi r4)] s4 rc rs
  refine sb_istore (pc' := 1183) rfl (L' := [some (.ref (ag_b g)), some (.ref (ad 0)), some (.ref (ad 102)), some (.ref (ad 131)), some (vi x4), some (vi r3), some (vi r4)]) rfl (by decide) dL_law_1181 ?_
  refine sb_aload_n (pc' := 1184) rfl rfl dL_law_1183 ?_
  obtain ⟨d5, hd5, H⟩ := H
  refine sb_callV (pc' := 1187) rfl rfl (rc := rc) (rs := rs) (mc' := 0) (ms' := 0) (As := []) (st := []) of_102 rfl rfl (Nat.le_of_ble_eq_true rfl) hd5 kX11_thrown ⟨wd_1707, wd_1708, wd_1709⟩ dL_law_1184 (Eb.mono H ?_)
  rintro o s5 ⟨r5, rfl, hr5, hs5, H⟩
  show Wb g ad d mL_law Q 1187 [some (.ref (ag_b g)), some (.ref (ad 0)), some (.ref (ad 102)), some (.ref (ad 131)), some (vi x4), some (vi r3), some (vi r4)] [(vi r5)] s5 rc rs
  refine sb_iload (pc' := 1189) rfl rfl dL_law_1187 ?_
  refine sb_icmp_eq (pc' := 1192) (tgt := 1194) rfl (by decide) hr5 hr3 dL_law_1189 ?_ ?_
  · intro cc; have H := H.1 cc
    refine sb_iload (pc' := 1196) rfl rfl dL_law_1194 ?_
    refine sb_if_ne (pc' := 1199) (tgt := 1211) rfl (by decide) hr3 dL_law_1196 ?_ ?_
    · intro cc; have H := H.1 cc
      refine sb_goto (tgt := 2061) (by decide) dL_law_1211 ?_
      refine Wb.forget [true, true, true, true, true, false, false] ?_
      exact (H hx4 hs5)
    · intro cc; have H := H.2 cc
      refine sb_aload_n (pc' := 1200) rfl rfl dL_law_1199 ?_
      refine sb_iconst (pc' := 1201) rfl dL_law_1200 ?_
      refine sb_lald (pc' := 1202) rfl aL_131 (by decide) (by decide) dL_law_1201 ?_
      refine sb_iload (pc' := 1204) rfl rfl dL_law_1202 ?_
      refine sb_i2l (pc' := 1205) rfl hr4 dL_law_1204 ?_
      refine sb_lcmp (pc' := 1206) rfl dL_law_1205 ?_
      refine sb_if_eq (pc' := 1209) (tgt := 1211) rfl (by decide) (iR_b _) dL_law_1206 ?_ ?_
      · intro cc; have H := H.1 cc
        refine sb_goto (tgt := 2061) (by decide) dL_law_1211 ?_
        refine Wb.forget [true, true, true, true, true, false, false] ?_
        exact (H hx4 hs5)
      · intro cc; have H := H.2 cc
        refine sb_iconst (pc' := 1210) rfl dL_law_1209 ?_
        exact sb_iret rfl (nar_z2 (Or.inl rfl)) dL_law_1210 (H (iR_lit rfl) hs5)
  · intro cc; have H := H.2 cc
    refine sb_iconst (pc' := 1193) rfl dL_law_1192 ?_
    exact sb_iret rfl (nar_z2 (Or.inl rfl)) dL_law_1193 (H (iR_lit rfl) hs5)
theorem bL_law_1214 {g : AG} {ad : Nat → Nat} {d : Nat} {Q : AO → SG → Prop} {rc rs : Nat} {σ : SG} {x4 : Int} (hL : ag_L g ≤ 3072) (hx4 : iR x4) (hS : SR σ) (H : (0 ≤ x4 + 1 ∧ x4 + 1 < ag_L g) ∧ (0 ≤ x4 + 2 ∧ x4 + 2 < ag_L g) ∧ Cl g ad d mL_stretch 3 18 [(.ref (ad 0)), (vi (sx g (x4 + 1))), (vi (sx g (x4 + 2))), (.ref (ad 131))] σ (Kx (Ki fun r3 s3 => Cl g ad d mX11_stretch 0 0 [(.ref (ad 102)), (vi (sx g (x4 + 1))), (vi (sx g (x4 + 2)))] s3 (Ki fun r4 s4 => Cl g ad d mX11_thrown 0 0 [(.ref (ad 102))] s4 (Ki fun r5 s5 => ((r5 = r3 → ((¬ r3 = 0 → (iR x4 → SR s5 → Wb g ad d mL_law Q 2061 [some (.ref (ag_b g)), some (.ref (ad 0)), some (.ref (ad 102)), some (.ref (ad 131)), some (vi x4), none, none] [] s5 rc rs)) ∧ (r3 = 0 → (((lCmp (la s5 131 0) r4) = 0 → (iR x4 → SR s5 → Wb g ad d mL_law Q 2061 [some (.ref (ag_b g)), some (.ref (ad 0)), some (.ref (ad 102)), some (.ref (ad 131)), some (vi x4), none, none] [] s5 rc rs)) ∧ (¬ (lCmp (la s5 131 0) r4) = 0 → (iR 0 → SR s5 → Q (.inl (some (vi 0))) s5)))))) ∧ (¬ r5 = r3 → (iR 0 → SR s5 → Q (.inl (some (vi 0))) s5)))))) (fun E s3 => SR s3 → Q (.inr E) s3))) : Wb g ad d mL_law Q 1214 [some (.ref (ag_b g)), some (.ref (ad 0)), some (.ref (ad 102)), some (.ref (ad 131)), some (vi x4), none, none] [] σ (rc + 3) (rs + 18) := by
  refine sb_aload_n (pc' := 1215) rfl rfl dL_law_1214 ?_
  refine sb_aload_n (pc' := 1216) rfl rfl dL_law_1215 ?_
  refine sb_iload (pc' := 1218) rfl rfl dL_law_1216 ?_
  refine sb_iconst (pc' := 1219) rfl dL_law_1218 ?_
  refine sb_iadd (pc' := 1220) rfl dL_law_1219 ?_
  obtain ⟨o1, H⟩ := H
  refine sb_sld (pc' := 1221) rfl o1.1 o1.2 hL dL_law_1220 ?_
  refine sb_aload_n (pc' := 1222) rfl rfl dL_law_1221 ?_
  refine sb_iload (pc' := 1224) rfl rfl dL_law_1222 ?_
  refine sb_iconst (pc' := 1225) rfl dL_law_1224 ?_
  refine sb_iadd (pc' := 1226) rfl dL_law_1225 ?_
  obtain ⟨o2, H⟩ := H
  refine sb_sld (pc' := 1227) rfl o2.1 o2.2 hL dL_law_1226 ?_
  refine sb_aload_n (pc' := 1228) rfl rfl dL_law_1227 ?_
  obtain ⟨d3, hd3, H⟩ := H
  refine sb_callSX (pc' := 1231) rfl rfl (rc := rc) (rs := rs) (mc' := 3) (ms' := 18) (As := [(.ref (ad 0)), (vi (sx g (x4 + 1))), (vi (sx g (x4 + 2))), (.ref (ad 131))]) (st := [])  rfl rfl (Nat.le_of_ble_eq_true rfl) hd3 kHL_stretch ⟨wd_1386, wd_1387⟩ dL_law_1228 (Eb.mono H ?_)
  rintro o s3 (⟨r3, rfl, hr3, hs3, H⟩ | ⟨E, rfl, hs3, H⟩)
  case inr => exact H hs3
  show Wb g ad d mL_law Q 1231 [some (.ref (ag_b g)), some (.ref (ad 0)), some (.ref (ad 102)), some (.ref (ad 131)), some (vi x4), none, none] [(vi r3)] s3 rc rs
  refine sb_istore (pc' := 1233) rfl (L' := [some (.ref (ag_b g)), some (.ref (ad 0)), some (.ref (ad 102)), some (.ref (ad 131)), some (vi x4), some (vi r3), none]) rfl (by decide) dL_law_1231 ?_
  refine sb_aload_n (pc' := 1234) rfl rfl dL_law_1233 ?_
  refine sb_aload_n (pc' := 1235) rfl rfl dL_law_1234 ?_
  refine sb_iload (pc' := 1237) rfl rfl dL_law_1235 ?_
  refine sb_iconst (pc' := 1238) rfl dL_law_1237 ?_
  refine sb_iadd (pc' := 1239) rfl dL_law_1238 ?_
  refine sb_sld (pc' := 1240) rfl o1.1 o1.2 hL dL_law_1239 ?_
  refine sb_aload_n (pc' := 1241) rfl rfl dL_law_1240 ?_
  refine sb_iload (pc' := 1243) rfl rfl dL_law_1241 ?_
  refine sb_iconst (pc' := 1244) rfl dL_law_1243 ?_
  refine sb_iadd (pc' := 1245) rfl dL_law_1244 ?_
  refine sb_sld (pc' := 1246) rfl o2.1 o2.2 hL dL_law_1245 ?_
  obtain ⟨d4, hd4, H⟩ := H
  refine sb_callV (pc' := 1249) rfl rfl (rc := rc) (rs := rs) (mc' := 0) (ms' := 0) (As := [(vi (sx g (x4 + 1))), (vi (sx g (x4 + 2)))]) (st := []) of_102 rfl rfl (Nat.le_of_ble_eq_true rfl) hd4 kX11_stretch ⟨wd_2001, wd_2002, wd_2003⟩ dL_law_1246 (Eb.mono H ?_)
  rintro o s4 ⟨r4, rfl, hr4, hs4, H⟩
  show Wb g ad d mL_law Q 1249 [some (.ref (ag_b g)), some (.ref (ad 0)), some (.ref (ad 102)), some (.ref (ad 131)), some (vi x4), some (vi r3), none] [(vi r4)] s4 rc rs
  refine sb_istore (pc' := 1251) rfl (L' := [some (.ref (ag_b g)), some (.ref (ad 0)), some (.ref (ad 102)), some (.ref (ad 131)), some (vi x4), some (vi r3), some (vi r4)]) rfl (by decide) dL_law_1249 ?_
  refine sb_aload_n (pc' := 1252) rfl rfl dL_law_1251 ?_
  obtain ⟨d5, hd5, H⟩ := H
  refine sb_callV (pc' := 1255) rfl rfl (rc := rc) (rs := rs) (mc' := 0) (ms' := 0) (As := []) (st := []) of_102 rfl rfl (Nat.le_of_ble_eq_true rfl) hd5 kX11_thrown ⟨wd_1707, wd_1708, wd_1709⟩ dL_law_1252 (Eb.mono H ?_)
  rintro o s5 ⟨r5, rfl, hr5, hs5, H⟩
  show Wb g ad d mL_law Q 1255 [some (.ref (ag_b g)), some (.ref (ad 0)), some (.ref (ad 102)), some (.ref (ad 131)), some (vi x4), some (vi r3), some (vi r4)] [(vi r5)] s5 rc rs
  refine sb_iload (pc' := 1257) rfl rfl dL_law_1255 ?_
  refine sb_icmp_eq (pc' := 1260) (tgt := 1262) rfl (by decide) hr5 hr3 dL_law_1257 ?_ ?_
  · intro cc; have H := H.1 cc
    refine sb_iload (pc' := 1264) rfl rfl dL_law_1262 ?_
    refine sb_if_ne (pc' := 1267) (tgt := 1279) rfl (by decide) hr3 dL_law_1264 ?_ ?_
    · intro cc; have H := H.1 cc
      refine sb_goto (tgt := 2061) (by decide) dL_law_1279 ?_
      refine Wb.forget [true, true, true, true, true, false, false] ?_
      exact (H hx4 hs5)
    · intro cc; have H := H.2 cc
      refine sb_aload_n (pc' := 1268) rfl rfl dL_law_1267 ?_
      refine sb_iconst (pc' := 1269) rfl dL_law_1268 ?_
      refine sb_lald (pc' := 1270) rfl aL_131 (by decide) (by decide) dL_law_1269 ?_
      refine sb_iload (pc' := 1272) rfl rfl dL_law_1270 ?_
      refine sb_i2l (pc' := 1273) rfl hr4 dL_law_1272 ?_
      refine sb_lcmp (pc' := 1274) rfl dL_law_1273 ?_
      refine sb_if_eq (pc' := 1277) (tgt := 1279) rfl (by decide) (iR_b _) dL_law_1274 ?_ ?_
      · intro cc; have H := H.1 cc
        refine sb_goto (tgt := 2061) (by decide) dL_law_1279 ?_
        refine Wb.forget [true, true, true, true, true, false, false] ?_
        exact (H hx4 hs5)
      · intro cc; have H := H.2 cc
        refine sb_iconst (pc' := 1278) rfl dL_law_1277 ?_
        exact sb_iret rfl (nar_z2 (Or.inl rfl)) dL_law_1278 (H (iR_lit rfl) hs5)
  · intro cc; have H := H.2 cc
    refine sb_iconst (pc' := 1261) rfl dL_law_1260 ?_
    exact sb_iret rfl (nar_z2 (Or.inl rfl)) dL_law_1261 (H (iR_lit rfl) hs5)
theorem bL_law_1282 {g : AG} {ad : Nat → Nat} {d : Nat} {Q : AO → SG → Prop} {rc rs : Nat} {σ : SG} {x4 : Int} (hL : ag_L g ≤ 3072) (hx4 : iR x4) (hS : SR σ) (H : Cl g ad d mX10_exact 0 0 [(.ref (ad 0))] σ (Ki fun r1 s1 => Cl g ad d mX11_exact 0 0 [(.ref (ad 102))] s1 (Ki fun r2 s2 => ((r1 = r2 → (iR x4 → SR s2 → Wb g ad d mL_law Q 2061 [some (.ref (ag_b g)), some (.ref (ad 0)), some (.ref (ad 102)), some (.ref (ad 131)), some (vi x4), none, none] [] s2 rc rs)) ∧ (¬ r1 = r2 → (iR 0 → SR s2 → Q (.inl (some (vi 0))) s2)))))) : Wb g ad d mL_law Q 1282 [some (.ref (ag_b g)), some (.ref (ad 0)), some (.ref (ad 102)), some (.ref (ad 131)), some (vi x4), none, none] [] σ rc rs := by
  refine sb_aload_n (pc' := 1283) rfl rfl dL_law_1282 ?_
  obtain ⟨d1, hd1, H⟩ := H
  refine sb_callV (pc' := 1286) rfl rfl (rc := rc) (rs := rs) (mc' := 0) (ms' := 0) (As := []) (st := []) of_0 rfl rfl (Nat.le_of_ble_eq_true rfl) hd1 kX10_exact ⟨wd_704, wd_705, wd_706⟩ dL_law_1283 (Eb.mono H ?_)
  rintro o s1 ⟨r1, rfl, hr1, hs1, H⟩
  show Wb g ad d mL_law Q 1286 [some (.ref (ag_b g)), some (.ref (ad 0)), some (.ref (ad 102)), some (.ref (ad 131)), some (vi x4), none, none] [(vi r1)] s1 rc rs
  refine sb_aload_n (pc' := 1287) rfl rfl dL_law_1286 ?_
  obtain ⟨d2, hd2, H⟩ := H
  refine sb_callV (pc' := 1290) rfl rfl (rc := rc) (rs := rs) (mc' := 0) (ms' := 0) (As := []) (st := [(vi r1)]) of_102 rfl rfl (Nat.le_of_ble_eq_true rfl) hd2 kX11_exact ⟨wd_1956, wd_1957, wd_1958⟩ dL_law_1287 (Eb.mono H ?_)
  rintro o s2 ⟨r2, rfl, hr2, hs2, H⟩
  show Wb g ad d mL_law Q 1290 [some (.ref (ag_b g)), some (.ref (ad 0)), some (.ref (ad 102)), some (.ref (ad 131)), some (vi x4), none, none] [(vi r2), (vi r1)] s2 rc rs
  refine sb_icmp_eq (pc' := 1293) (tgt := 2061) rfl (by decide) hr1 hr2 dL_law_1290 ?_ ?_
  · intro cc; have H := H.1 cc
    exact (H hx4 hs2)
  · intro cc; have H := H.2 cc
    refine sb_iconst (pc' := 1294) rfl dL_law_1293 ?_
    exact sb_iret rfl (nar_z2 (Or.inl rfl)) dL_law_1294 (H (iR_lit rfl) hs2)
theorem bL_law_1295 {g : AG} {ad : Nat → Nat} {d : Nat} {Q : AO → SG → Prop} {rc rs : Nat} {σ : SG} {x4 : Int} (hL : ag_L g ≤ 3072) (hx4 : iR x4) (hS : SR σ) (H : Cl g ad d mX10_many 0 0 [(.ref (ad 0))] σ (Ki fun r1 s1 => Cl g ad d mX11_many 0 0 [(.ref (ad 102))] s1 (Ki fun r2 s2 => ((r1 = r2 → (iR x4 → SR s2 → Wb g ad d mL_law Q 2061 [some (.ref (ag_b g)), some (.ref (ad 0)), some (.ref (ad 102)), some (.ref (ad 131)), some (vi x4), none, none] [] s2 rc rs)) ∧ (¬ r1 = r2 → (iR 0 → SR s2 → Q (.inl (some (vi 0))) s2)))))) : Wb g ad d mL_law Q 1295 [some (.ref (ag_b g)), some (.ref (ad 0)), some (.ref (ad 102)), some (.ref (ad 131)), some (vi x4), none, none] [] σ rc rs := by
  refine sb_aload_n (pc' := 1296) rfl rfl dL_law_1295 ?_
  obtain ⟨d1, hd1, H⟩ := H
  refine sb_callV (pc' := 1299) rfl rfl (rc := rc) (rs := rs) (mc' := 0) (ms' := 0) (As := []) (st := []) of_0 rfl rfl (Nat.le_of_ble_eq_true rfl) hd1 kX10_many ⟨wd_845, wd_846, wd_847⟩ dL_law_1296 (Eb.mono H ?_)
  rintro o s1 ⟨r1, rfl, hr1, hs1, H⟩
  show Wb g ad d mL_law Q 1299 [some (.ref (ag_b g)), some (.ref (ad 0)), some (.ref (ad 102)), some (.ref (ad 131)), some (vi x4), none, none] [(vi r1)] s1 rc rs
  refine sb_aload_n (pc' := 1300) rfl rfl dL_law_1299 ?_
  obtain ⟨d2, hd2, H⟩ := H
  refine sb_callV (pc' := 1303) rfl rfl (rc := rc) (rs := rs) (mc' := 0) (ms' := 0) (As := []) (st := [(vi r1)]) of_102 rfl rfl (Nat.le_of_ble_eq_true rfl) hd2 kX11_many ⟨wd_1960, wd_1961, wd_1962⟩ dL_law_1300 (Eb.mono H ?_)
  rintro o s2 ⟨r2, rfl, hr2, hs2, H⟩
  show Wb g ad d mL_law Q 1303 [some (.ref (ag_b g)), some (.ref (ad 0)), some (.ref (ad 102)), some (.ref (ad 131)), some (vi x4), none, none] [(vi r2), (vi r1)] s2 rc rs
  refine sb_icmp_eq (pc' := 1306) (tgt := 2061) rfl (by decide) hr1 hr2 dL_law_1303 ?_ ?_
  · intro cc; have H := H.1 cc
    exact (H hx4 hs2)
  · intro cc; have H := H.2 cc
    refine sb_iconst (pc' := 1307) rfl dL_law_1306 ?_
    exact sb_iret rfl (nar_z2 (Or.inl rfl)) dL_law_1307 (H (iR_lit rfl) hs2)
theorem bL_law_1308 {g : AG} {ad : Nat → Nat} {d : Nat} {Q : AO → SG → Prop} {rc rs : Nat} {σ : SG} {x4 : Int} (hL : ag_L g ≤ 3072) (hx4 : iR x4) (hS : SR σ) (H : (0 ≤ x4 + 1 ∧ x4 + 1 < ag_L g) ∧ (0 ≤ x4 + 2 ∧ x4 + 2 < ag_L g) ∧ Cl g ad d mL_way 1 6 [(.ref (ad 0)), (vi (sx g (x4 + 1))), (vi (sx g (x4 + 2))), (.ref (ad 131))] σ (Kx (Ki fun r3 s3 => Cl g ad d mX11_way 0 0 [(.ref (ad 102)), (vi (sx g (x4 + 1))), (vi (sx g (x4 + 2)))] s3 (Ki fun r4 s4 => Cl g ad d mX11_thrown 0 0 [(.ref (ad 102))] s4 (Ki fun r5 s5 => ((r5 = r3 → ((¬ r3 = 0 → (iR x4 → SR s5 → Wb g ad d mL_law Q 2061 [some (.ref (ag_b g)), some (.ref (ad 0)), some (.ref (ad 102)), some (.ref (ad 131)), some (vi x4), none, none] [] s5 rc rs)) ∧ (r3 = 0 → (((lCmp (la s5 131 0) r4) = 0 → (iR x4 → SR s5 → Wb g ad d mL_law Q 2061 [some (.ref (ag_b g)), some (.ref (ad 0)), some (.ref (ad 102)), some (.ref (ad 131)), some (vi x4), none, none] [] s5 rc rs)) ∧ (¬ (lCmp (la s5 131 0) r4) = 0 → (iR 0 → SR s5 → Q (.inl (some (vi 0))) s5)))))) ∧ (¬ r5 = r3 → (iR 0 → SR s5 → Q (.inl (some (vi 0))) s5)))))) (fun E s3 => SR s3 → Q (.inr E) s3))) : Wb g ad d mL_law Q 1308 [some (.ref (ag_b g)), some (.ref (ad 0)), some (.ref (ad 102)), some (.ref (ad 131)), some (vi x4), none, none] [] σ (rc + 1) (rs + 6) := by
  refine sb_aload_n (pc' := 1309) rfl rfl dL_law_1308 ?_
  refine sb_aload_n (pc' := 1310) rfl rfl dL_law_1309 ?_
  refine sb_iload (pc' := 1312) rfl rfl dL_law_1310 ?_
  refine sb_iconst (pc' := 1313) rfl dL_law_1312 ?_
  refine sb_iadd (pc' := 1314) rfl dL_law_1313 ?_
  obtain ⟨o1, H⟩ := H
  refine sb_sld (pc' := 1315) rfl o1.1 o1.2 hL dL_law_1314 ?_
  refine sb_aload_n (pc' := 1316) rfl rfl dL_law_1315 ?_
  refine sb_iload (pc' := 1318) rfl rfl dL_law_1316 ?_
  refine sb_iconst (pc' := 1319) rfl dL_law_1318 ?_
  refine sb_iadd (pc' := 1320) rfl dL_law_1319 ?_
  obtain ⟨o2, H⟩ := H
  refine sb_sld (pc' := 1321) rfl o2.1 o2.2 hL dL_law_1320 ?_
  refine sb_aload_n (pc' := 1322) rfl rfl dL_law_1321 ?_
  obtain ⟨d3, hd3, H⟩ := H
  refine sb_callSX (pc' := 1325) rfl rfl (rc := rc) (rs := rs) (mc' := 1) (ms' := 6) (As := [(.ref (ad 0)), (vi (sx g (x4 + 1))), (vi (sx g (x4 + 2))), (.ref (ad 131))]) (st := [])  rfl rfl (Nat.le_of_ble_eq_true rfl) hd3 kHL_way ⟨wd_1394, wd_1395⟩ dL_law_1322 (Eb.mono H ?_)
  rintro o s3 (⟨r3, rfl, hr3, hs3, H⟩ | ⟨E, rfl, hs3, H⟩)
  case inr => exact H hs3
  show Wb g ad d mL_law Q 1325 [some (.ref (ag_b g)), some (.ref (ad 0)), some (.ref (ad 102)), some (.ref (ad 131)), some (vi x4), none, none] [(vi r3)] s3 rc rs
  refine sb_istore (pc' := 1327) rfl (L' := [some (.ref (ag_b g)), some (.ref (ad 0)), some (.ref (ad 102)), some (.ref (ad 131)), some (vi x4), some (vi r3), none]) rfl (by decide) dL_law_1325 ?_
  refine sb_aload_n (pc' := 1328) rfl rfl dL_law_1327 ?_
  refine sb_aload_n (pc' := 1329) rfl rfl dL_law_1328 ?_
  refine sb_iload (pc' := 1331) rfl rfl dL_law_1329 ?_
  refine sb_iconst (pc' := 1332) rfl dL_law_1331 ?_
  refine sb_iadd (pc' := 1333) rfl dL_law_1332 ?_
  refine sb_sld (pc' := 1334) rfl o1.1 o1.2 hL dL_law_1333 ?_
  refine sb_aload_n (pc' := 1335) rfl rfl dL_law_1334 ?_
  refine sb_iload (pc' := 1337) rfl rfl dL_law_1335 ?_
  refine sb_iconst (pc' := 1338) rfl dL_law_1337 ?_
  refine sb_iadd (pc' := 1339) rfl dL_law_1338 ?_
  refine sb_sld (pc' := 1340) rfl o2.1 o2.2 hL dL_law_1339 ?_
  obtain ⟨d4, hd4, H⟩ := H
  refine sb_callV (pc' := 1343) rfl rfl (rc := rc) (rs := rs) (mc' := 0) (ms' := 0) (As := [(vi (sx g (x4 + 1))), (vi (sx g (x4 + 2)))]) (st := []) of_102 rfl rfl (Nat.le_of_ble_eq_true rfl) hd4 kX11_way ⟨wd_1970, wd_1971, wd_1972⟩ dL_law_1340 (Eb.mono H ?_)
  rintro o s4 ⟨r4, rfl, hr4, hs4, H⟩
  show Wb g ad d mL_law Q 1343 [some (.ref (ag_b g)), some (.ref (ad 0)), some (.ref (ad 102)), some (.ref (ad 131)), some (vi x4), some (vi r3), none] [(vi r4)] s4 rc rs
  refine sb_istore (pc' := 1345) rfl (L' := [some (.ref (ag_b g)), some (.ref (ad 0)), some (.ref (ad 102)), some (.ref (ad 131)), some (vi x4), some (vi r3), some (vi r4)]) rfl (by decide) dL_law_1343 ?_
  refine sb_aload_n (pc' := 1346) rfl rfl dL_law_1345 ?_
  obtain ⟨d5, hd5, H⟩ := H
  refine sb_callV (pc' := 1349) rfl rfl (rc := rc) (rs := rs) (mc' := 0) (ms' := 0) (As := []) (st := []) of_102 rfl rfl (Nat.le_of_ble_eq_true rfl) hd5 kX11_thrown ⟨wd_1707, wd_1708, wd_1709⟩ dL_law_1346 (Eb.mono H ?_)
  rintro o s5 ⟨r5, rfl, hr5, hs5, H⟩
  show Wb g ad d mL_law Q 1349 [some (.ref (ag_b g)), some (.ref (ad 0)), some (.ref (ad 102)), some (.ref (ad 131)), some (vi x4), some (vi r3), some (vi r4)] [(vi r5)] s5 rc rs
  refine sb_iload (pc' := 1351) rfl rfl dL_law_1349 ?_
  refine sb_icmp_eq (pc' := 1354) (tgt := 1356) rfl (by decide) hr5 hr3 dL_law_1351 ?_ ?_
  · intro cc; have H := H.1 cc
    refine sb_iload (pc' := 1358) rfl rfl dL_law_1356 ?_
    refine sb_if_ne (pc' := 1361) (tgt := 1373) rfl (by decide) hr3 dL_law_1358 ?_ ?_
    · intro cc; have H := H.1 cc
      refine sb_goto (tgt := 2061) (by decide) dL_law_1373 ?_
      refine Wb.forget [true, true, true, true, true, false, false] ?_
      exact (H hx4 hs5)
    · intro cc; have H := H.2 cc
      refine sb_aload_n (pc' := 1362) rfl rfl dL_law_1361 ?_
      refine sb_iconst (pc' := 1363) rfl dL_law_1362 ?_
      refine sb_lald (pc' := 1364) rfl aL_131 (by decide) (by decide) dL_law_1363 ?_
      refine sb_iload (pc' := 1366) rfl rfl dL_law_1364 ?_
      refine sb_i2l (pc' := 1367) rfl hr4 dL_law_1366 ?_
      refine sb_lcmp (pc' := 1368) rfl dL_law_1367 ?_
      refine sb_if_eq (pc' := 1371) (tgt := 1373) rfl (by decide) (iR_b _) dL_law_1368 ?_ ?_
      · intro cc; have H := H.1 cc
        refine sb_goto (tgt := 2061) (by decide) dL_law_1373 ?_
        refine Wb.forget [true, true, true, true, true, false, false] ?_
        exact (H hx4 hs5)
      · intro cc; have H := H.2 cc
        refine sb_iconst (pc' := 1372) rfl dL_law_1371 ?_
        exact sb_iret rfl (nar_z2 (Or.inl rfl)) dL_law_1372 (H (iR_lit rfl) hs5)
  · intro cc; have H := H.2 cc
    refine sb_iconst (pc' := 1355) rfl dL_law_1354 ?_
    exact sb_iret rfl (nar_z2 (Or.inl rfl)) dL_law_1355 (H (iR_lit rfl) hs5)
theorem bL_law_1376 {g : AG} {ad : Nat → Nat} {d : Nat} {Q : AO → SG → Prop} {rc rs : Nat} {σ : SG} {x4 : Int} (hL : ag_L g ≤ 3072) (hx4 : iR x4) (hS : SR σ) (H : (0 ≤ x4 + 1 ∧ x4 + 1 < ag_L g) ∧ (0 ≤ x4 + 2 ∧ x4 + 2 < ag_L g) ∧ (0 ≤ x4 + 3 ∧ x4 + 3 < ag_L g) ∧ Cl g ad d mL_step 1 6 [(.ref (ad 0)), (vi (sx g (x4 + 1))), (vi (sx g (x4 + 2))), (vi (sx g (x4 + 3))), (.ref (ad 131))] σ (Kx (Ki fun r4 s4 => Cl g ad d mX11_step 0 0 [(.ref (ad 102)), (vi (sx g (x4 + 1))), (vi (sx g (x4 + 2))), (vi (sx g (x4 + 3)))] s4 (Ki fun r5 s5 => Cl g ad d mX11_thrown 0 0 [(.ref (ad 102))] s5 (Ki fun r6 s6 => ((r6 = r4 → ((¬ r4 = 0 → (iR x4 → SR s6 → Wb g ad d mL_law Q 2061 [some (.ref (ag_b g)), some (.ref (ad 0)), some (.ref (ad 102)), some (.ref (ad 131)), some (vi x4), none, none] [] s6 rc rs)) ∧ (r4 = 0 → (((lCmp (la s6 131 0) r5) = 0 → (iR x4 → SR s6 → Wb g ad d mL_law Q 2061 [some (.ref (ag_b g)), some (.ref (ad 0)), some (.ref (ad 102)), some (.ref (ad 131)), some (vi x4), none, none] [] s6 rc rs)) ∧ (¬ (lCmp (la s6 131 0) r5) = 0 → (iR 0 → SR s6 → Q (.inl (some (vi 0))) s6)))))) ∧ (¬ r6 = r4 → (iR 0 → SR s6 → Q (.inl (some (vi 0))) s6)))))) (fun E s4 => SR s4 → Q (.inr E) s4))) : Wb g ad d mL_law Q 1376 [some (.ref (ag_b g)), some (.ref (ad 0)), some (.ref (ad 102)), some (.ref (ad 131)), some (vi x4), none, none] [] σ (rc + 1) (rs + 6) := by
  refine sb_aload_n (pc' := 1377) rfl rfl dL_law_1376 ?_
  refine sb_aload_n (pc' := 1378) rfl rfl dL_law_1377 ?_
  refine sb_iload (pc' := 1380) rfl rfl dL_law_1378 ?_
  refine sb_iconst (pc' := 1381) rfl dL_law_1380 ?_
  refine sb_iadd (pc' := 1382) rfl dL_law_1381 ?_
  obtain ⟨o1, H⟩ := H
  refine sb_sld (pc' := 1383) rfl o1.1 o1.2 hL dL_law_1382 ?_
  refine sb_aload_n (pc' := 1384) rfl rfl dL_law_1383 ?_
  refine sb_iload (pc' := 1386) rfl rfl dL_law_1384 ?_
  refine sb_iconst (pc' := 1387) rfl dL_law_1386 ?_
  refine sb_iadd (pc' := 1388) rfl dL_law_1387 ?_
  obtain ⟨o2, H⟩ := H
  refine sb_sld (pc' := 1389) rfl o2.1 o2.2 hL dL_law_1388 ?_
  refine sb_aload_n (pc' := 1390) rfl rfl dL_law_1389 ?_
  refine sb_iload (pc' := 1392) rfl rfl dL_law_1390 ?_
  refine sb_iconst (pc' := 1393) rfl dL_law_1392 ?_
  refine sb_iadd (pc' := 1394) rfl dL_law_1393 ?_
  obtain ⟨o3, H⟩ := H
  refine sb_sld (pc' := 1395) rfl o3.1 o3.2 hL dL_law_1394 ?_
  refine sb_aload_n (pc' := 1396) rfl rfl dL_law_1395 ?_
  obtain ⟨d4, hd4, H⟩ := H
  refine sb_callSX (pc' := 1399) rfl rfl (rc := rc) (rs := rs) (mc' := 1) (ms' := 6) (As := [(.ref (ad 0)), (vi (sx g (x4 + 1))), (vi (sx g (x4 + 2))), (vi (sx g (x4 + 3))), (.ref (ad 131))]) (st := [])  rfl rfl (Nat.le_of_ble_eq_true rfl) hd4 kHL_step ⟨wd_1411, wd_1412⟩ dL_law_1396 (Eb.mono H ?_)
  rintro o s4 (⟨r4, rfl, hr4, hs4, H⟩ | ⟨E, rfl, hs4, H⟩)
  case inr => exact H hs4
  show Wb g ad d mL_law Q 1399 [some (.ref (ag_b g)), some (.ref (ad 0)), some (.ref (ad 102)), some (.ref (ad 131)), some (vi x4), none, none] [(vi r4)] s4 rc rs
  refine sb_istore (pc' := 1401) rfl (L' := [some (.ref (ag_b g)), some (.ref (ad 0)), some (.ref (ad 102)), some (.ref (ad 131)), some (vi x4), some (vi r4), none]) rfl (by decide) dL_law_1399 ?_
  refine sb_aload_n (pc' := 1402) rfl rfl dL_law_1401 ?_
  refine sb_aload_n (pc' := 1403) rfl rfl dL_law_1402 ?_
  refine sb_iload (pc' := 1405) rfl rfl dL_law_1403 ?_
  refine sb_iconst (pc' := 1406) rfl dL_law_1405 ?_
  refine sb_iadd (pc' := 1407) rfl dL_law_1406 ?_
  refine sb_sld (pc' := 1408) rfl o1.1 o1.2 hL dL_law_1407 ?_
  refine sb_aload_n (pc' := 1409) rfl rfl dL_law_1408 ?_
  refine sb_iload (pc' := 1411) rfl rfl dL_law_1409 ?_
  refine sb_iconst (pc' := 1412) rfl dL_law_1411 ?_
  refine sb_iadd (pc' := 1413) rfl dL_law_1412 ?_
  refine sb_sld (pc' := 1414) rfl o2.1 o2.2 hL dL_law_1413 ?_
  refine sb_aload_n (pc' := 1415) rfl rfl dL_law_1414 ?_
  refine sb_iload (pc' := 1417) rfl rfl dL_law_1415 ?_
  refine sb_iconst (pc' := 1418) rfl dL_law_1417 ?_
  refine sb_iadd (pc' := 1419) rfl dL_law_1418 ?_
  refine sb_sld (pc' := 1420) rfl o3.1 o3.2 hL dL_law_1419 ?_
  obtain ⟨d5, hd5, H⟩ := H
  refine sb_callV (pc' := 1423) rfl rfl (rc := rc) (rs := rs) (mc' := 0) (ms' := 0) (As := [(vi (sx g (x4 + 1))), (vi (sx g (x4 + 2))), (vi (sx g (x4 + 3)))]) (st := []) of_102 rfl rfl (Nat.le_of_ble_eq_true rfl) hd5 kX11_step ⟨wd_1989, wd_1990, wd_1991⟩ dL_law_1420 (Eb.mono H ?_)
  rintro o s5 ⟨r5, rfl, hr5, hs5, H⟩
  show Wb g ad d mL_law Q 1423 [some (.ref (ag_b g)), some (.ref (ad 0)), some (.ref (ad 102)), some (.ref (ad 131)), some (vi x4), some (vi r4), none] [(vi r5)] s5 rc rs
  refine sb_istore (pc' := 1425) rfl (L' := [some (.ref (ag_b g)), some (.ref (ad 0)), some (.ref (ad 102)), some (.ref (ad 131)), some (vi x4), some (vi r4), some (vi r5)]) rfl (by decide) dL_law_1423 ?_
  refine sb_aload_n (pc' := 1426) rfl rfl dL_law_1425 ?_
  obtain ⟨d6, hd6, H⟩ := H
  refine sb_callV (pc' := 1429) rfl rfl (rc := rc) (rs := rs) (mc' := 0) (ms' := 0) (As := []) (st := []) of_102 rfl rfl (Nat.le_of_ble_eq_true rfl) hd6 kX11_thrown ⟨wd_1707, wd_1708, wd_1709⟩ dL_law_1426 (Eb.mono H ?_)
  rintro o s6 ⟨r6, rfl, hr6, hs6, H⟩
  show Wb g ad d mL_law Q 1429 [some (.ref (ag_b g)), some (.ref (ad 0)), some (.ref (ad 102)), some (.ref (ad 131)), some (vi x4), some (vi r4), some (vi r5)] [(vi r6)] s6 rc rs
  refine sb_iload (pc' := 1431) rfl rfl dL_law_1429 ?_
  refine sb_icmp_eq (pc' := 1434) (tgt := 1436) rfl (by decide) hr6 hr4 dL_law_1431 ?_ ?_
  · intro cc; have H := H.1 cc
    refine sb_iload (pc' := 1438) rfl rfl dL_law_1436 ?_
    refine sb_if_ne (pc' := 1441) (tgt := 1453) rfl (by decide) hr4 dL_law_1438 ?_ ?_
    · intro cc; have H := H.1 cc
      refine sb_goto (tgt := 2061) (by decide) dL_law_1453 ?_
      refine Wb.forget [true, true, true, true, true, false, false] ?_
      exact (H hx4 hs6)
    · intro cc; have H := H.2 cc
      refine sb_aload_n (pc' := 1442) rfl rfl dL_law_1441 ?_
      refine sb_iconst (pc' := 1443) rfl dL_law_1442 ?_
      refine sb_lald (pc' := 1444) rfl aL_131 (by decide) (by decide) dL_law_1443 ?_
      refine sb_iload (pc' := 1446) rfl rfl dL_law_1444 ?_
      refine sb_i2l (pc' := 1447) rfl hr5 dL_law_1446 ?_
      refine sb_lcmp (pc' := 1448) rfl dL_law_1447 ?_
      refine sb_if_eq (pc' := 1451) (tgt := 1453) rfl (by decide) (iR_b _) dL_law_1448 ?_ ?_
      · intro cc; have H := H.1 cc
        refine sb_goto (tgt := 2061) (by decide) dL_law_1453 ?_
        refine Wb.forget [true, true, true, true, true, false, false] ?_
        exact (H hx4 hs6)
      · intro cc; have H := H.2 cc
        refine sb_iconst (pc' := 1452) rfl dL_law_1451 ?_
        exact sb_iret rfl (nar_z2 (Or.inl rfl)) dL_law_1452 (H (iR_lit rfl) hs6)
  · intro cc; have H := H.2 cc
    refine sb_iconst (pc' := 1435) rfl dL_law_1434 ?_
    exact sb_iret rfl (nar_z2 (Or.inl rfl)) dL_law_1435 (H (iR_lit rfl) hs6)
theorem bL_law_1456 {g : AG} {ad : Nat → Nat} {d : Nat} {Q : AO → SG → Prop} {rc rs : Nat} {σ : SG} {x4 : Int} (hL : ag_L g ≤ 3072) (hx4 : iR x4) (hS : SR σ) (H : (0 ≤ x4 + 1 ∧ x4 + 1 < ag_L g) ∧ (0 ≤ x4 + 2 ∧ x4 + 2 < ag_L g) ∧ Cl g ad d mL_word 1 6 [(.ref (ad 0)), (vi (sx g (x4 + 1))), (vi (sx g (x4 + 2))), (.ref (ad 131))] σ (Kx (Ki fun r3 s3 => Cl g ad d mX11_word_ 0 0 [(.ref (ad 102)), (vi (sx g (x4 + 1))), (vi (sx g (x4 + 2)))] s3 (Ki fun r4 s4 => Cl g ad d mX11_thrown 0 0 [(.ref (ad 102))] s4 (Ki fun r5 s5 => ((r5 = r3 → ((¬ r3 = 0 → (iR x4 → SR s5 → Wb g ad d mL_law Q 2061 [some (.ref (ag_b g)), some (.ref (ad 0)), some (.ref (ad 102)), some (.ref (ad 131)), some (vi x4), none, none] [] s5 rc rs)) ∧ (r3 = 0 → (((lCmp (la s5 131 0) r4) = 0 → (iR x4 → SR s5 → Wb g ad d mL_law Q 2061 [some (.ref (ag_b g)), some (.ref (ad 0)), some (.ref (ad 102)), some (.ref (ad 131)), some (vi x4), none, none] [] s5 rc rs)) ∧ (¬ (lCmp (la s5 131 0) r4) = 0 → (iR 0 → SR s5 → Q (.inl (some (vi 0))) s5)))))) ∧ (¬ r5 = r3 → (iR 0 → SR s5 → Q (.inl (some (vi 0))) s5)))))) (fun E s3 => SR s3 → Q (.inr E) s3))) : Wb g ad d mL_law Q 1456 [some (.ref (ag_b g)), some (.ref (ad 0)), some (.ref (ad 102)), some (.ref (ad 131)), some (vi x4), none, none] [] σ (rc + 1) (rs + 6) := by
  refine sb_aload_n (pc' := 1457) rfl rfl dL_law_1456 ?_
  refine sb_aload_n (pc' := 1458) rfl rfl dL_law_1457 ?_
  refine sb_iload (pc' := 1460) rfl rfl dL_law_1458 ?_
  refine sb_iconst (pc' := 1461) rfl dL_law_1460 ?_
  refine sb_iadd (pc' := 1462) rfl dL_law_1461 ?_
  obtain ⟨o1, H⟩ := H
  refine sb_sld (pc' := 1463) rfl o1.1 o1.2 hL dL_law_1462 ?_
  refine sb_aload_n (pc' := 1464) rfl rfl dL_law_1463 ?_
  refine sb_iload (pc' := 1466) rfl rfl dL_law_1464 ?_
  refine sb_iconst (pc' := 1467) rfl dL_law_1466 ?_
  refine sb_iadd (pc' := 1468) rfl dL_law_1467 ?_
  obtain ⟨o2, H⟩ := H
  refine sb_sld (pc' := 1469) rfl o2.1 o2.2 hL dL_law_1468 ?_
  refine sb_aload_n (pc' := 1470) rfl rfl dL_law_1469 ?_
  obtain ⟨d3, hd3, H⟩ := H
  refine sb_callSX (pc' := 1473) rfl rfl (rc := rc) (rs := rs) (mc' := 1) (ms' := 6) (As := [(.ref (ad 0)), (vi (sx g (x4 + 1))), (vi (sx g (x4 + 2))), (.ref (ad 131))]) (st := [])  rfl rfl (Nat.le_of_ble_eq_true rfl) hd3 kHL_word ⟨wd_1419, wd_1420⟩ dL_law_1470 (Eb.mono H ?_)
  rintro o s3 (⟨r3, rfl, hr3, hs3, H⟩ | ⟨E, rfl, hs3, H⟩)
  case inr => exact H hs3
  show Wb g ad d mL_law Q 1473 [some (.ref (ag_b g)), some (.ref (ad 0)), some (.ref (ad 102)), some (.ref (ad 131)), some (vi x4), none, none] [(vi r3)] s3 rc rs
  refine sb_istore (pc' := 1475) rfl (L' := [some (.ref (ag_b g)), some (.ref (ad 0)), some (.ref (ad 102)), some (.ref (ad 131)), some (vi x4), some (vi r3), none]) rfl (by decide) dL_law_1473 ?_
  refine sb_aload_n (pc' := 1476) rfl rfl dL_law_1475 ?_
  refine sb_aload_n (pc' := 1477) rfl rfl dL_law_1476 ?_
  refine sb_iload (pc' := 1479) rfl rfl dL_law_1477 ?_
  refine sb_iconst (pc' := 1480) rfl dL_law_1479 ?_
  refine sb_iadd (pc' := 1481) rfl dL_law_1480 ?_
  refine sb_sld (pc' := 1482) rfl o1.1 o1.2 hL dL_law_1481 ?_
  refine sb_aload_n (pc' := 1483) rfl rfl dL_law_1482 ?_
  refine sb_iload (pc' := 1485) rfl rfl dL_law_1483 ?_
  refine sb_iconst (pc' := 1486) rfl dL_law_1485 ?_
  refine sb_iadd (pc' := 1487) rfl dL_law_1486 ?_
  refine sb_sld (pc' := 1488) rfl o2.1 o2.2 hL dL_law_1487 ?_
  obtain ⟨d4, hd4, H⟩ := H
  refine sb_callV (pc' := 1491) rfl rfl (rc := rc) (rs := rs) (mc' := 0) (ms' := 0) (As := [(vi (sx g (x4 + 1))), (vi (sx g (x4 + 2)))]) (st := []) of_102 rfl rfl (Nat.le_of_ble_eq_true rfl) hd4 kX11_word_ ⟨wd_1997, wd_1998, wd_1999⟩ dL_law_1488 (Eb.mono H ?_)
  rintro o s4 ⟨r4, rfl, hr4, hs4, H⟩
  show Wb g ad d mL_law Q 1491 [some (.ref (ag_b g)), some (.ref (ad 0)), some (.ref (ad 102)), some (.ref (ad 131)), some (vi x4), some (vi r3), none] [(vi r4)] s4 rc rs
  refine sb_istore (pc' := 1493) rfl (L' := [some (.ref (ag_b g)), some (.ref (ad 0)), some (.ref (ad 102)), some (.ref (ad 131)), some (vi x4), some (vi r3), some (vi r4)]) rfl (by decide) dL_law_1491 ?_
  refine sb_aload_n (pc' := 1494) rfl rfl dL_law_1493 ?_
  obtain ⟨d5, hd5, H⟩ := H
  refine sb_callV (pc' := 1497) rfl rfl (rc := rc) (rs := rs) (mc' := 0) (ms' := 0) (As := []) (st := []) of_102 rfl rfl (Nat.le_of_ble_eq_true rfl) hd5 kX11_thrown ⟨wd_1707, wd_1708, wd_1709⟩ dL_law_1494 (Eb.mono H ?_)
  rintro o s5 ⟨r5, rfl, hr5, hs5, H⟩
  show Wb g ad d mL_law Q 1497 [some (.ref (ag_b g)), some (.ref (ad 0)), some (.ref (ad 102)), some (.ref (ad 131)), some (vi x4), some (vi r3), some (vi r4)] [(vi r5)] s5 rc rs
  refine sb_iload (pc' := 1499) rfl rfl dL_law_1497 ?_
  refine sb_icmp_eq (pc' := 1502) (tgt := 1504) rfl (by decide) hr5 hr3 dL_law_1499 ?_ ?_
  · intro cc; have H := H.1 cc
    refine sb_iload (pc' := 1506) rfl rfl dL_law_1504 ?_
    refine sb_if_ne (pc' := 1509) (tgt := 1521) rfl (by decide) hr3 dL_law_1506 ?_ ?_
    · intro cc; have H := H.1 cc
      refine sb_goto (tgt := 2061) (by decide) dL_law_1521 ?_
      refine Wb.forget [true, true, true, true, true, false, false] ?_
      exact (H hx4 hs5)
    · intro cc; have H := H.2 cc
      refine sb_aload_n (pc' := 1510) rfl rfl dL_law_1509 ?_
      refine sb_iconst (pc' := 1511) rfl dL_law_1510 ?_
      refine sb_lald (pc' := 1512) rfl aL_131 (by decide) (by decide) dL_law_1511 ?_
      refine sb_iload (pc' := 1514) rfl rfl dL_law_1512 ?_
      refine sb_i2l (pc' := 1515) rfl hr4 dL_law_1514 ?_
      refine sb_lcmp (pc' := 1516) rfl dL_law_1515 ?_
      refine sb_if_eq (pc' := 1519) (tgt := 1521) rfl (by decide) (iR_b _) dL_law_1516 ?_ ?_
      · intro cc; have H := H.1 cc
        refine sb_goto (tgt := 2061) (by decide) dL_law_1521 ?_
        refine Wb.forget [true, true, true, true, true, false, false] ?_
        exact (H hx4 hs5)
      · intro cc; have H := H.2 cc
        refine sb_iconst (pc' := 1520) rfl dL_law_1519 ?_
        exact sb_iret rfl (nar_z2 (Or.inl rfl)) dL_law_1520 (H (iR_lit rfl) hs5)
  · intro cc; have H := H.2 cc
    refine sb_iconst (pc' := 1503) rfl dL_law_1502 ?_
    exact sb_iret rfl (nar_z2 (Or.inl rfl)) dL_law_1503 (H (iR_lit rfl) hs5)
theorem bL_law_1524 {g : AG} {ad : Nat → Nat} {d : Nat} {Q : AO → SG → Prop} {rc rs : Nat} {σ : SG} {x4 : Int} (hL : ag_L g ≤ 3072) (hx4 : iR x4) (hS : SR σ) (H : (0 ≤ x4 + 1 ∧ x4 + 1 < ag_L g) ∧ Cl g ad d mL_found 1 6 [(.ref (ad 0)), (vi (sx g (x4 + 1))), (.ref (ad 131))] σ (Kx (Ki fun r2 s2 => Cl g ad d mX11_found 0 0 [(.ref (ad 102)), (vi (sx g (x4 + 1)))] s2 (Ki fun r3 s3 => Cl g ad d mX11_thrown 0 0 [(.ref (ad 102))] s3 (Ki fun r4 s4 => ((r4 = r2 → ((¬ r2 = 0 → (iR x4 → SR s4 → Wb g ad d mL_law Q 2061 [some (.ref (ag_b g)), some (.ref (ad 0)), some (.ref (ad 102)), some (.ref (ad 131)), some (vi x4), none, none] [] s4 rc rs)) ∧ (r2 = 0 → (((lCmp (la s4 131 0) r3) = 0 → (iR x4 → SR s4 → Wb g ad d mL_law Q 2061 [some (.ref (ag_b g)), some (.ref (ad 0)), some (.ref (ad 102)), some (.ref (ad 131)), some (vi x4), none, none] [] s4 rc rs)) ∧ (¬ (lCmp (la s4 131 0) r3) = 0 → (iR 0 → SR s4 → Q (.inl (some (vi 0))) s4)))))) ∧ (¬ r4 = r2 → (iR 0 → SR s4 → Q (.inl (some (vi 0))) s4)))))) (fun E s2 => SR s2 → Q (.inr E) s2))) : Wb g ad d mL_law Q 1524 [some (.ref (ag_b g)), some (.ref (ad 0)), some (.ref (ad 102)), some (.ref (ad 131)), some (vi x4), none, none] [] σ (rc + 1) (rs + 6) := by
  refine sb_aload_n (pc' := 1525) rfl rfl dL_law_1524 ?_
  refine sb_aload_n (pc' := 1526) rfl rfl dL_law_1525 ?_
  refine sb_iload (pc' := 1528) rfl rfl dL_law_1526 ?_
  refine sb_iconst (pc' := 1529) rfl dL_law_1528 ?_
  refine sb_iadd (pc' := 1530) rfl dL_law_1529 ?_
  obtain ⟨o1, H⟩ := H
  refine sb_sld (pc' := 1531) rfl o1.1 o1.2 hL dL_law_1530 ?_
  refine sb_aload_n (pc' := 1532) rfl rfl dL_law_1531 ?_
  obtain ⟨d2, hd2, H⟩ := H
  refine sb_callSX (pc' := 1535) rfl rfl (rc := rc) (rs := rs) (mc' := 1) (ms' := 6) (As := [(.ref (ad 0)), (vi (sx g (x4 + 1))), (.ref (ad 131))]) (st := [])  rfl rfl (Nat.le_of_ble_eq_true rfl) hd2 kHL_found ⟨wd_1426, wd_1427⟩ dL_law_1532 (Eb.mono H ?_)
  rintro o s2 (⟨r2, rfl, hr2, hs2, H⟩ | ⟨E, rfl, hs2, H⟩)
  case inr => exact H hs2
  show Wb g ad d mL_law Q 1535 [some (.ref (ag_b g)), some (.ref (ad 0)), some (.ref (ad 102)), some (.ref (ad 131)), some (vi x4), none, none] [(vi r2)] s2 rc rs
  refine sb_istore (pc' := 1537) rfl (L' := [some (.ref (ag_b g)), some (.ref (ad 0)), some (.ref (ad 102)), some (.ref (ad 131)), some (vi x4), some (vi r2), none]) rfl (by decide) dL_law_1535 ?_
  refine sb_aload_n (pc' := 1538) rfl rfl dL_law_1537 ?_
  refine sb_aload_n (pc' := 1539) rfl rfl dL_law_1538 ?_
  refine sb_iload (pc' := 1541) rfl rfl dL_law_1539 ?_
  refine sb_iconst (pc' := 1542) rfl dL_law_1541 ?_
  refine sb_iadd (pc' := 1543) rfl dL_law_1542 ?_
  refine sb_sld (pc' := 1544) rfl o1.1 o1.2 hL dL_law_1543 ?_
  obtain ⟨d3, hd3, H⟩ := H
  refine sb_callV (pc' := 1547) rfl rfl (rc := rc) (rs := rs) (mc' := 0) (ms' := 0) (As := [(vi (sx g (x4 + 1)))]) (st := []) of_102 rfl rfl (Nat.le_of_ble_eq_true rfl) hd3 kX11_found ⟨wd_2013, wd_2014, wd_2015⟩ dL_law_1544 (Eb.mono H ?_)
  rintro o s3 ⟨r3, rfl, hr3, hs3, H⟩
  show Wb g ad d mL_law Q 1547 [some (.ref (ag_b g)), some (.ref (ad 0)), some (.ref (ad 102)), some (.ref (ad 131)), some (vi x4), some (vi r2), none] [(vi r3)] s3 rc rs
  refine sb_istore (pc' := 1549) rfl (L' := [some (.ref (ag_b g)), some (.ref (ad 0)), some (.ref (ad 102)), some (.ref (ad 131)), some (vi x4), some (vi r2), some (vi r3)]) rfl (by decide) dL_law_1547 ?_
  refine sb_aload_n (pc' := 1550) rfl rfl dL_law_1549 ?_
  obtain ⟨d4, hd4, H⟩ := H
  refine sb_callV (pc' := 1553) rfl rfl (rc := rc) (rs := rs) (mc' := 0) (ms' := 0) (As := []) (st := []) of_102 rfl rfl (Nat.le_of_ble_eq_true rfl) hd4 kX11_thrown ⟨wd_1707, wd_1708, wd_1709⟩ dL_law_1550 (Eb.mono H ?_)
  rintro o s4 ⟨r4, rfl, hr4, hs4, H⟩
  show Wb g ad d mL_law Q 1553 [some (.ref (ag_b g)), some (.ref (ad 0)), some (.ref (ad 102)), some (.ref (ad 131)), some (vi x4), some (vi r2), some (vi r3)] [(vi r4)] s4 rc rs
  refine sb_iload (pc' := 1555) rfl rfl dL_law_1553 ?_
  refine sb_icmp_eq (pc' := 1558) (tgt := 1560) rfl (by decide) hr4 hr2 dL_law_1555 ?_ ?_
  · intro cc; have H := H.1 cc
    refine sb_iload (pc' := 1562) rfl rfl dL_law_1560 ?_
    refine sb_if_ne (pc' := 1565) (tgt := 1577) rfl (by decide) hr2 dL_law_1562 ?_ ?_
    · intro cc; have H := H.1 cc
      refine sb_goto (tgt := 2061) (by decide) dL_law_1577 ?_
      refine Wb.forget [true, true, true, true, true, false, false] ?_
      exact (H hx4 hs4)
    · intro cc; have H := H.2 cc
      refine sb_aload_n (pc' := 1566) rfl rfl dL_law_1565 ?_
      refine sb_iconst (pc' := 1567) rfl dL_law_1566 ?_
      refine sb_lald (pc' := 1568) rfl aL_131 (by decide) (by decide) dL_law_1567 ?_
      refine sb_iload (pc' := 1570) rfl rfl dL_law_1568 ?_
      refine sb_i2l (pc' := 1571) rfl hr3 dL_law_1570 ?_
      refine sb_lcmp (pc' := 1572) rfl dL_law_1571 ?_
      refine sb_if_eq (pc' := 1575) (tgt := 1577) rfl (by decide) (iR_b _) dL_law_1572 ?_ ?_
      · intro cc; have H := H.1 cc
        refine sb_goto (tgt := 2061) (by decide) dL_law_1577 ?_
        refine Wb.forget [true, true, true, true, true, false, false] ?_
        exact (H hx4 hs4)
      · intro cc; have H := H.2 cc
        refine sb_iconst (pc' := 1576) rfl dL_law_1575 ?_
        exact sb_iret rfl (nar_z2 (Or.inl rfl)) dL_law_1576 (H (iR_lit rfl) hs4)
  · intro cc; have H := H.2 cc
    refine sb_iconst (pc' := 1559) rfl dL_law_1558 ?_
    exact sb_iret rfl (nar_z2 (Or.inl rfl)) dL_law_1559 (H (iR_lit rfl) hs4)
theorem bL_law_1580 {g : AG} {ad : Nat → Nat} {d : Nat} {Q : AO → SG → Prop} {rc rs : Nat} {σ : SG} {x4 : Int} (hL : ag_L g ≤ 3072) (hx4 : iR x4) (hS : SR σ) (H : (0 ≤ x4 + 1 ∧ x4 + 1 < ag_L g) ∧ (0 ≤ x4 + 2 ∧ x4 + 2 < ag_L g) ∧ Cl g ad d mL_halves 1 6 [(.ref (ad 0)), (vi (sx g (x4 + 1))), (vi (sx g (x4 + 2))), (.ref (ad 131))] σ (Kx (Ki fun r3 s3 => Cl g ad d mX11_halves 0 0 [(.ref (ad 102)), (vi (sx g (x4 + 1))), (vi (sx g (x4 + 2)))] s3 (Ki fun r4 s4 => Cl g ad d mX11_thrown 0 0 [(.ref (ad 102))] s4 (Ki fun r5 s5 => ((r5 = r3 → ((¬ r3 = 0 → (iR x4 → SR s5 → Wb g ad d mL_law Q 2061 [some (.ref (ag_b g)), some (.ref (ad 0)), some (.ref (ad 102)), some (.ref (ad 131)), some (vi x4), none, none] [] s5 rc rs)) ∧ (r3 = 0 → (((lCmp (la s5 131 0) r4) = 0 → (iR x4 → SR s5 → Wb g ad d mL_law Q 2061 [some (.ref (ag_b g)), some (.ref (ad 0)), some (.ref (ad 102)), some (.ref (ad 131)), some (vi x4), none, none] [] s5 rc rs)) ∧ (¬ (lCmp (la s5 131 0) r4) = 0 → (iR 0 → SR s5 → Q (.inl (some (vi 0))) s5)))))) ∧ (¬ r5 = r3 → (iR 0 → SR s5 → Q (.inl (some (vi 0))) s5)))))) (fun E s3 => SR s3 → Q (.inr E) s3))) : Wb g ad d mL_law Q 1580 [some (.ref (ag_b g)), some (.ref (ad 0)), some (.ref (ad 102)), some (.ref (ad 131)), some (vi x4), none, none] [] σ (rc + 1) (rs + 6) := by
  refine sb_aload_n (pc' := 1581) rfl rfl dL_law_1580 ?_
  refine sb_aload_n (pc' := 1582) rfl rfl dL_law_1581 ?_
  refine sb_iload (pc' := 1584) rfl rfl dL_law_1582 ?_
  refine sb_iconst (pc' := 1585) rfl dL_law_1584 ?_
  refine sb_iadd (pc' := 1586) rfl dL_law_1585 ?_
  obtain ⟨o1, H⟩ := H
  refine sb_sld (pc' := 1587) rfl o1.1 o1.2 hL dL_law_1586 ?_
  refine sb_aload_n (pc' := 1588) rfl rfl dL_law_1587 ?_
  refine sb_iload (pc' := 1590) rfl rfl dL_law_1588 ?_
  refine sb_iconst (pc' := 1591) rfl dL_law_1590 ?_
  refine sb_iadd (pc' := 1592) rfl dL_law_1591 ?_
  obtain ⟨o2, H⟩ := H
  refine sb_sld (pc' := 1593) rfl o2.1 o2.2 hL dL_law_1592 ?_
  refine sb_aload_n (pc' := 1594) rfl rfl dL_law_1593 ?_
  obtain ⟨d3, hd3, H⟩ := H
  refine sb_callSX (pc' := 1597) rfl rfl (rc := rc) (rs := rs) (mc' := 1) (ms' := 6) (As := [(.ref (ad 0)), (vi (sx g (x4 + 1))), (vi (sx g (x4 + 2))), (.ref (ad 131))]) (st := [])  rfl rfl (Nat.le_of_ble_eq_true rfl) hd3 kHL_halves ⟨wd_1438, wd_1439⟩ dL_law_1594 (Eb.mono H ?_)
  rintro o s3 (⟨r3, rfl, hr3, hs3, H⟩ | ⟨E, rfl, hs3, H⟩)
  case inr => exact H hs3
  show Wb g ad d mL_law Q 1597 [some (.ref (ag_b g)), some (.ref (ad 0)), some (.ref (ad 102)), some (.ref (ad 131)), some (vi x4), none, none] [(vi r3)] s3 rc rs
  refine sb_istore (pc' := 1599) rfl (L' := [some (.ref (ag_b g)), some (.ref (ad 0)), some (.ref (ad 102)), some (.ref (ad 131)), some (vi x4), some (vi r3), none]) rfl (by decide) dL_law_1597 ?_
  refine sb_aload_n (pc' := 1600) rfl rfl dL_law_1599 ?_
  refine sb_aload_n (pc' := 1601) rfl rfl dL_law_1600 ?_
  refine sb_iload (pc' := 1603) rfl rfl dL_law_1601 ?_
  refine sb_iconst (pc' := 1604) rfl dL_law_1603 ?_
  refine sb_iadd (pc' := 1605) rfl dL_law_1604 ?_
  refine sb_sld (pc' := 1606) rfl o1.1 o1.2 hL dL_law_1605 ?_
  refine sb_aload_n (pc' := 1607) rfl rfl dL_law_1606 ?_
  refine sb_iload (pc' := 1609) rfl rfl dL_law_1607 ?_
  refine sb_iconst (pc' := 1610) rfl dL_law_1609 ?_
  refine sb_iadd (pc' := 1611) rfl dL_law_1610 ?_
  refine sb_sld (pc' := 1612) rfl o2.1 o2.2 hL dL_law_1611 ?_
  obtain ⟨d4, hd4, H⟩ := H
  refine sb_callV (pc' := 1615) rfl rfl (rc := rc) (rs := rs) (mc' := 0) (ms' := 0) (As := [(vi (sx g (x4 + 1))), (vi (sx g (x4 + 2)))]) (st := []) of_102 rfl rfl (Nat.le_of_ble_eq_true rfl) hd4 kX11_halves ⟨wd_2071, wd_2072, wd_2073⟩ dL_law_1612 (Eb.mono H ?_)
  rintro o s4 ⟨r4, rfl, hr4, hs4, H⟩
  show Wb g ad d mL_law Q 1615 [some (.ref (ag_b g)), some (.ref (ad 0)), some (.ref (ad 102)), some (.ref (ad 131)), some (vi x4), some (vi r3), none] [(vi r4)] s4 rc rs
  refine sb_istore (pc' := 1617) rfl (L' := [some (.ref (ag_b g)), some (.ref (ad 0)), some (.ref (ad 102)), some (.ref (ad 131)), some (vi x4), some (vi r3), some (vi r4)]) rfl (by decide) dL_law_1615 ?_
  refine sb_aload_n (pc' := 1618) rfl rfl dL_law_1617 ?_
  obtain ⟨d5, hd5, H⟩ := H
  refine sb_callV (pc' := 1621) rfl rfl (rc := rc) (rs := rs) (mc' := 0) (ms' := 0) (As := []) (st := []) of_102 rfl rfl (Nat.le_of_ble_eq_true rfl) hd5 kX11_thrown ⟨wd_1707, wd_1708, wd_1709⟩ dL_law_1618 (Eb.mono H ?_)
  rintro o s5 ⟨r5, rfl, hr5, hs5, H⟩
  show Wb g ad d mL_law Q 1621 [some (.ref (ag_b g)), some (.ref (ad 0)), some (.ref (ad 102)), some (.ref (ad 131)), some (vi x4), some (vi r3), some (vi r4)] [(vi r5)] s5 rc rs
  refine sb_iload (pc' := 1623) rfl rfl dL_law_1621 ?_
  refine sb_icmp_eq (pc' := 1626) (tgt := 1628) rfl (by decide) hr5 hr3 dL_law_1623 ?_ ?_
  · intro cc; have H := H.1 cc
    refine sb_iload (pc' := 1630) rfl rfl dL_law_1628 ?_
    refine sb_if_ne (pc' := 1633) (tgt := 1645) rfl (by decide) hr3 dL_law_1630 ?_ ?_
    · intro cc; have H := H.1 cc
      refine sb_goto (tgt := 2061) (by decide) dL_law_1645 ?_
      refine Wb.forget [true, true, true, true, true, false, false] ?_
      exact (H hx4 hs5)
    · intro cc; have H := H.2 cc
      refine sb_aload_n (pc' := 1634) rfl rfl dL_law_1633 ?_
      refine sb_iconst (pc' := 1635) rfl dL_law_1634 ?_
      refine sb_lald (pc' := 1636) rfl aL_131 (by decide) (by decide) dL_law_1635 ?_
      refine sb_iload (pc' := 1638) rfl rfl dL_law_1636 ?_
      refine sb_i2l (pc' := 1639) rfl hr4 dL_law_1638 ?_
      refine sb_lcmp (pc' := 1640) rfl dL_law_1639 ?_
      refine sb_if_eq (pc' := 1643) (tgt := 1645) rfl (by decide) (iR_b _) dL_law_1640 ?_ ?_
      · intro cc; have H := H.1 cc
        refine sb_goto (tgt := 2061) (by decide) dL_law_1645 ?_
        refine Wb.forget [true, true, true, true, true, false, false] ?_
        exact (H hx4 hs5)
      · intro cc; have H := H.2 cc
        refine sb_iconst (pc' := 1644) rfl dL_law_1643 ?_
        exact sb_iret rfl (nar_z2 (Or.inl rfl)) dL_law_1644 (H (iR_lit rfl) hs5)
  · intro cc; have H := H.2 cc
    refine sb_iconst (pc' := 1627) rfl dL_law_1626 ?_
    exact sb_iret rfl (nar_z2 (Or.inl rfl)) dL_law_1627 (H (iR_lit rfl) hs5)
theorem bL_law_1648 {g : AG} {ad : Nat → Nat} {d : Nat} {Q : AO → SG → Prop} {rc rs : Nat} {σ : SG} {x4 : Int} (hL : ag_L g ≤ 3072) (hx4 : iR x4) (hS : SR σ) (H : (0 ≤ x4 + 1 ∧ x4 + 1 < ag_L g) ∧ (0 ≤ x4 + 2 ∧ x4 + 2 < ag_L g) ∧ Cl g ad d mL_stack 1 6 [(.ref (ad 0)), (vi (sx g (x4 + 1))), (vi (sx g (x4 + 2))), (.ref (ad 131))] σ (Kx (Ki fun r3 s3 => Cl g ad d mX11_stack 0 0 [(.ref (ad 102)), (vi (sx g (x4 + 1))), (vi (sx g (x4 + 2)))] s3 (Ki fun r4 s4 => Cl g ad d mX11_thrown 0 0 [(.ref (ad 102))] s4 (Ki fun r5 s5 => ((r5 = r3 → ((¬ r3 = 0 → (iR x4 → SR s5 → Wb g ad d mL_law Q 2061 [some (.ref (ag_b g)), some (.ref (ad 0)), some (.ref (ad 102)), some (.ref (ad 131)), some (vi x4), none, none] [] s5 rc rs)) ∧ (r3 = 0 → (((lCmp (la s5 131 0) r4) = 0 → (iR x4 → SR s5 → Wb g ad d mL_law Q 2061 [some (.ref (ag_b g)), some (.ref (ad 0)), some (.ref (ad 102)), some (.ref (ad 131)), some (vi x4), none, none] [] s5 rc rs)) ∧ (¬ (lCmp (la s5 131 0) r4) = 0 → (iR 0 → SR s5 → Q (.inl (some (vi 0))) s5)))))) ∧ (¬ r5 = r3 → (iR 0 → SR s5 → Q (.inl (some (vi 0))) s5)))))) (fun E s3 => SR s3 → Q (.inr E) s3))) : Wb g ad d mL_law Q 1648 [some (.ref (ag_b g)), some (.ref (ad 0)), some (.ref (ad 102)), some (.ref (ad 131)), some (vi x4), none, none] [] σ (rc + 1) (rs + 6) := by
  refine sb_aload_n (pc' := 1649) rfl rfl dL_law_1648 ?_
  refine sb_aload_n (pc' := 1650) rfl rfl dL_law_1649 ?_
  refine sb_iload (pc' := 1652) rfl rfl dL_law_1650 ?_
  refine sb_iconst (pc' := 1653) rfl dL_law_1652 ?_
  refine sb_iadd (pc' := 1654) rfl dL_law_1653 ?_
  obtain ⟨o1, H⟩ := H
  refine sb_sld (pc' := 1655) rfl o1.1 o1.2 hL dL_law_1654 ?_
  refine sb_aload_n (pc' := 1656) rfl rfl dL_law_1655 ?_
  refine sb_iload (pc' := 1658) rfl rfl dL_law_1656 ?_
  refine sb_iconst (pc' := 1659) rfl dL_law_1658 ?_
  refine sb_iadd (pc' := 1660) rfl dL_law_1659 ?_
  obtain ⟨o2, H⟩ := H
  refine sb_sld (pc' := 1661) rfl o2.1 o2.2 hL dL_law_1660 ?_
  refine sb_aload_n (pc' := 1662) rfl rfl dL_law_1661 ?_
  obtain ⟨d3, hd3, H⟩ := H
  refine sb_callSX (pc' := 1665) rfl rfl (rc := rc) (rs := rs) (mc' := 1) (ms' := 6) (As := [(.ref (ad 0)), (vi (sx g (x4 + 1))), (vi (sx g (x4 + 2))), (.ref (ad 131))]) (st := [])  rfl rfl (Nat.le_of_ble_eq_true rfl) hd3 kHL_stack ⟨wd_1445, wd_1446⟩ dL_law_1662 (Eb.mono H ?_)
  rintro o s3 (⟨r3, rfl, hr3, hs3, H⟩ | ⟨E, rfl, hs3, H⟩)
  case inr => exact H hs3
  show Wb g ad d mL_law Q 1665 [some (.ref (ag_b g)), some (.ref (ad 0)), some (.ref (ad 102)), some (.ref (ad 131)), some (vi x4), none, none] [(vi r3)] s3 rc rs
  refine sb_istore (pc' := 1667) rfl (L' := [some (.ref (ag_b g)), some (.ref (ad 0)), some (.ref (ad 102)), some (.ref (ad 131)), some (vi x4), some (vi r3), none]) rfl (by decide) dL_law_1665 ?_
  refine sb_aload_n (pc' := 1668) rfl rfl dL_law_1667 ?_
  refine sb_aload_n (pc' := 1669) rfl rfl dL_law_1668 ?_
  refine sb_iload (pc' := 1671) rfl rfl dL_law_1669 ?_
  refine sb_iconst (pc' := 1672) rfl dL_law_1671 ?_
  refine sb_iadd (pc' := 1673) rfl dL_law_1672 ?_
  refine sb_sld (pc' := 1674) rfl o1.1 o1.2 hL dL_law_1673 ?_
  refine sb_aload_n (pc' := 1675) rfl rfl dL_law_1674 ?_
  refine sb_iload (pc' := 1677) rfl rfl dL_law_1675 ?_
  refine sb_iconst (pc' := 1678) rfl dL_law_1677 ?_
  refine sb_iadd (pc' := 1679) rfl dL_law_1678 ?_
  refine sb_sld (pc' := 1680) rfl o2.1 o2.2 hL dL_law_1679 ?_
  obtain ⟨d4, hd4, H⟩ := H
  refine sb_callV (pc' := 1683) rfl rfl (rc := rc) (rs := rs) (mc' := 0) (ms' := 0) (As := [(vi (sx g (x4 + 1))), (vi (sx g (x4 + 2)))]) (st := []) of_102 rfl rfl (Nat.le_of_ble_eq_true rfl) hd4 kX11_stack ⟨wd_2075, wd_2076, wd_2077⟩ dL_law_1680 (Eb.mono H ?_)
  rintro o s4 ⟨r4, rfl, hr4, hs4, H⟩
  show Wb g ad d mL_law Q 1683 [some (.ref (ag_b g)), some (.ref (ad 0)), some (.ref (ad 102)), some (.ref (ad 131)), some (vi x4), some (vi r3), none] [(vi r4)] s4 rc rs
  refine sb_istore (pc' := 1685) rfl (L' := [some (.ref (ag_b g)), some (.ref (ad 0)), some (.ref (ad 102)), some (.ref (ad 131)), some (vi x4), some (vi r3), some (vi r4)]) rfl (by decide) dL_law_1683 ?_
  refine sb_aload_n (pc' := 1686) rfl rfl dL_law_1685 ?_
  obtain ⟨d5, hd5, H⟩ := H
  refine sb_callV (pc' := 1689) rfl rfl (rc := rc) (rs := rs) (mc' := 0) (ms' := 0) (As := []) (st := []) of_102 rfl rfl (Nat.le_of_ble_eq_true rfl) hd5 kX11_thrown ⟨wd_1707, wd_1708, wd_1709⟩ dL_law_1686 (Eb.mono H ?_)
  rintro o s5 ⟨r5, rfl, hr5, hs5, H⟩
  show Wb g ad d mL_law Q 1689 [some (.ref (ag_b g)), some (.ref (ad 0)), some (.ref (ad 102)), some (.ref (ad 131)), some (vi x4), some (vi r3), some (vi r4)] [(vi r5)] s5 rc rs
  refine sb_iload (pc' := 1691) rfl rfl dL_law_1689 ?_
  refine sb_icmp_eq (pc' := 1694) (tgt := 1696) rfl (by decide) hr5 hr3 dL_law_1691 ?_ ?_
  · intro cc; have H := H.1 cc
    refine sb_iload (pc' := 1698) rfl rfl dL_law_1696 ?_
    refine sb_if_ne (pc' := 1701) (tgt := 1713) rfl (by decide) hr3 dL_law_1698 ?_ ?_
    · intro cc; have H := H.1 cc
      refine sb_goto (tgt := 2061) (by decide) dL_law_1713 ?_
      refine Wb.forget [true, true, true, true, true, false, false] ?_
      exact (H hx4 hs5)
    · intro cc; have H := H.2 cc
      refine sb_aload_n (pc' := 1702) rfl rfl dL_law_1701 ?_
      refine sb_iconst (pc' := 1703) rfl dL_law_1702 ?_
      refine sb_lald (pc' := 1704) rfl aL_131 (by decide) (by decide) dL_law_1703 ?_
      refine sb_iload (pc' := 1706) rfl rfl dL_law_1704 ?_
      refine sb_i2l (pc' := 1707) rfl hr4 dL_law_1706 ?_
      refine sb_lcmp (pc' := 1708) rfl dL_law_1707 ?_
      refine sb_if_eq (pc' := 1711) (tgt := 1713) rfl (by decide) (iR_b _) dL_law_1708 ?_ ?_
      · intro cc; have H := H.1 cc
        refine sb_goto (tgt := 2061) (by decide) dL_law_1713 ?_
        refine Wb.forget [true, true, true, true, true, false, false] ?_
        exact (H hx4 hs5)
      · intro cc; have H := H.2 cc
        refine sb_iconst (pc' := 1712) rfl dL_law_1711 ?_
        exact sb_iret rfl (nar_z2 (Or.inl rfl)) dL_law_1712 (H (iR_lit rfl) hs5)
  · intro cc; have H := H.2 cc
    refine sb_iconst (pc' := 1695) rfl dL_law_1694 ?_
    exact sb_iret rfl (nar_z2 (Or.inl rfl)) dL_law_1695 (H (iR_lit rfl) hs5)
theorem bL_law_1716 {g : AG} {ad : Nat → Nat} {d : Nat} {Q : AO → SG → Prop} {rc rs : Nat} {σ : SG} {x4 : Int} (hL : ag_L g ≤ 3072) (hx4 : iR x4) (hS : SR σ) (H : Cl g ad d mL_forced 1 6 [(.ref (ad 0)), (.ref (ad 131))] σ (Kx (Ki fun r1 s1 => Cl g ad d mX11_forced 0 0 [(.ref (ad 102))] s1 (Ki fun r2 s2 => Cl g ad d mX11_thrown 0 0 [(.ref (ad 102))] s2 (Ki fun r3 s3 => ((r3 = r1 → ((¬ r1 = 0 → (iR x4 → SR s3 → Wb g ad d mL_law Q 2061 [some (.ref (ag_b g)), some (.ref (ad 0)), some (.ref (ad 102)), some (.ref (ad 131)), some (vi x4), none, none] [] s3 rc rs)) ∧ (r1 = 0 → (((lCmp (la s3 131 0) r2) = 0 → (iR x4 → SR s3 → Wb g ad d mL_law Q 2061 [some (.ref (ag_b g)), some (.ref (ad 0)), some (.ref (ad 102)), some (.ref (ad 131)), some (vi x4), none, none] [] s3 rc rs)) ∧ (¬ (lCmp (la s3 131 0) r2) = 0 → (iR 0 → SR s3 → Q (.inl (some (vi 0))) s3)))))) ∧ (¬ r3 = r1 → (iR 0 → SR s3 → Q (.inl (some (vi 0))) s3)))))) (fun E s1 => SR s1 → Q (.inr E) s1))) : Wb g ad d mL_law Q 1716 [some (.ref (ag_b g)), some (.ref (ad 0)), some (.ref (ad 102)), some (.ref (ad 131)), some (vi x4), none, none] [] σ (rc + 1) (rs + 6) := by
  refine sb_aload_n (pc' := 1717) rfl rfl dL_law_1716 ?_
  refine sb_aload_n (pc' := 1718) rfl rfl dL_law_1717 ?_
  obtain ⟨d1, hd1, H⟩ := H
  refine sb_callSX (pc' := 1721) rfl rfl (rc := rc) (rs := rs) (mc' := 1) (ms' := 6) (As := [(.ref (ad 0)), (.ref (ad 131))]) (st := [])  rfl rfl (Nat.le_of_ble_eq_true rfl) hd1 kHL_forced ⟨wd_1454, wd_1455⟩ dL_law_1718 (Eb.mono H ?_)
  rintro o s1 (⟨r1, rfl, hr1, hs1, H⟩ | ⟨E, rfl, hs1, H⟩)
  case inr => exact H hs1
  show Wb g ad d mL_law Q 1721 [some (.ref (ag_b g)), some (.ref (ad 0)), some (.ref (ad 102)), some (.ref (ad 131)), some (vi x4), none, none] [(vi r1)] s1 rc rs
  refine sb_istore (pc' := 1723) rfl (L' := [some (.ref (ag_b g)), some (.ref (ad 0)), some (.ref (ad 102)), some (.ref (ad 131)), some (vi x4), some (vi r1), none]) rfl (by decide) dL_law_1721 ?_
  refine sb_aload_n (pc' := 1724) rfl rfl dL_law_1723 ?_
  obtain ⟨d2, hd2, H⟩ := H
  refine sb_callV (pc' := 1727) rfl rfl (rc := rc) (rs := rs) (mc' := 0) (ms' := 0) (As := []) (st := []) of_102 rfl rfl (Nat.le_of_ble_eq_true rfl) hd2 kX11_forced ⟨wd_2079, wd_2080, wd_2081⟩ dL_law_1724 (Eb.mono H ?_)
  rintro o s2 ⟨r2, rfl, hr2, hs2, H⟩
  show Wb g ad d mL_law Q 1727 [some (.ref (ag_b g)), some (.ref (ad 0)), some (.ref (ad 102)), some (.ref (ad 131)), some (vi x4), some (vi r1), none] [(vi r2)] s2 rc rs
  refine sb_istore (pc' := 1729) rfl (L' := [some (.ref (ag_b g)), some (.ref (ad 0)), some (.ref (ad 102)), some (.ref (ad 131)), some (vi x4), some (vi r1), some (vi r2)]) rfl (by decide) dL_law_1727 ?_
  refine sb_aload_n (pc' := 1730) rfl rfl dL_law_1729 ?_
  obtain ⟨d3, hd3, H⟩ := H
  refine sb_callV (pc' := 1733) rfl rfl (rc := rc) (rs := rs) (mc' := 0) (ms' := 0) (As := []) (st := []) of_102 rfl rfl (Nat.le_of_ble_eq_true rfl) hd3 kX11_thrown ⟨wd_1707, wd_1708, wd_1709⟩ dL_law_1730 (Eb.mono H ?_)
  rintro o s3 ⟨r3, rfl, hr3, hs3, H⟩
  show Wb g ad d mL_law Q 1733 [some (.ref (ag_b g)), some (.ref (ad 0)), some (.ref (ad 102)), some (.ref (ad 131)), some (vi x4), some (vi r1), some (vi r2)] [(vi r3)] s3 rc rs
  refine sb_iload (pc' := 1735) rfl rfl dL_law_1733 ?_
  refine sb_icmp_eq (pc' := 1738) (tgt := 1740) rfl (by decide) hr3 hr1 dL_law_1735 ?_ ?_
  · intro cc; have H := H.1 cc
    refine sb_iload (pc' := 1742) rfl rfl dL_law_1740 ?_
    refine sb_if_ne (pc' := 1745) (tgt := 1757) rfl (by decide) hr1 dL_law_1742 ?_ ?_
    · intro cc; have H := H.1 cc
      refine sb_goto (tgt := 2061) (by decide) dL_law_1757 ?_
      refine Wb.forget [true, true, true, true, true, false, false] ?_
      exact (H hx4 hs3)
    · intro cc; have H := H.2 cc
      refine sb_aload_n (pc' := 1746) rfl rfl dL_law_1745 ?_
      refine sb_iconst (pc' := 1747) rfl dL_law_1746 ?_
      refine sb_lald (pc' := 1748) rfl aL_131 (by decide) (by decide) dL_law_1747 ?_
      refine sb_iload (pc' := 1750) rfl rfl dL_law_1748 ?_
      refine sb_i2l (pc' := 1751) rfl hr2 dL_law_1750 ?_
      refine sb_lcmp (pc' := 1752) rfl dL_law_1751 ?_
      refine sb_if_eq (pc' := 1755) (tgt := 1757) rfl (by decide) (iR_b _) dL_law_1752 ?_ ?_
      · intro cc; have H := H.1 cc
        refine sb_goto (tgt := 2061) (by decide) dL_law_1757 ?_
        refine Wb.forget [true, true, true, true, true, false, false] ?_
        exact (H hx4 hs3)
      · intro cc; have H := H.2 cc
        refine sb_iconst (pc' := 1756) rfl dL_law_1755 ?_
        exact sb_iret rfl (nar_z2 (Or.inl rfl)) dL_law_1756 (H (iR_lit rfl) hs3)
  · intro cc; have H := H.2 cc
    refine sb_iconst (pc' := 1739) rfl dL_law_1738 ?_
    exact sb_iret rfl (nar_z2 (Or.inl rfl)) dL_law_1739 (H (iR_lit rfl) hs3)
theorem bL_law_1760 {g : AG} {ad : Nat → Nat} {d : Nat} {Q : AO → SG → Prop} {rc rs : Nat} {σ : SG} {x4 : Int} (hL : ag_L g ≤ 3072) (hx4 : iR x4) (hS : SR σ) (H : Cl g ad d mL_near 1 6 [(.ref (ad 0)), (.ref (ad 131))] σ (Kx (Ki fun r1 s1 => Cl g ad d mX11_near 0 0 [(.ref (ad 102))] s1 (Ki fun r2 s2 => Cl g ad d mX11_thrown 0 0 [(.ref (ad 102))] s2 (Ki fun r3 s3 => ((r3 = r1 → ((¬ r1 = 0 → (iR x4 → SR s3 → Wb g ad d mL_law Q 2061 [some (.ref (ag_b g)), some (.ref (ad 0)), some (.ref (ad 102)), some (.ref (ad 131)), some (vi x4), none, none] [] s3 rc rs)) ∧ (r1 = 0 → (((lCmp (la s3 131 0) r2) = 0 → (iR x4 → SR s3 → Wb g ad d mL_law Q 2061 [some (.ref (ag_b g)), some (.ref (ad 0)), some (.ref (ad 102)), some (.ref (ad 131)), some (vi x4), none, none] [] s3 rc rs)) ∧ (¬ (lCmp (la s3 131 0) r2) = 0 → (iR 0 → SR s3 → Q (.inl (some (vi 0))) s3)))))) ∧ (¬ r3 = r1 → (iR 0 → SR s3 → Q (.inl (some (vi 0))) s3)))))) (fun E s1 => SR s1 → Q (.inr E) s1))) : Wb g ad d mL_law Q 1760 [some (.ref (ag_b g)), some (.ref (ad 0)), some (.ref (ad 102)), some (.ref (ad 131)), some (vi x4), none, none] [] σ (rc + 1) (rs + 6) := by
  refine sb_aload_n (pc' := 1761) rfl rfl dL_law_1760 ?_
  refine sb_aload_n (pc' := 1762) rfl rfl dL_law_1761 ?_
  obtain ⟨d1, hd1, H⟩ := H
  refine sb_callSX (pc' := 1765) rfl rfl (rc := rc) (rs := rs) (mc' := 1) (ms' := 6) (As := [(.ref (ad 0)), (.ref (ad 131))]) (st := [])  rfl rfl (Nat.le_of_ble_eq_true rfl) hd1 kHL_near ⟨wd_1484, wd_1485⟩ dL_law_1762 (Eb.mono H ?_)
  rintro o s1 (⟨r1, rfl, hr1, hs1, H⟩ | ⟨E, rfl, hs1, H⟩)
  case inr => exact H hs1
  show Wb g ad d mL_law Q 1765 [some (.ref (ag_b g)), some (.ref (ad 0)), some (.ref (ad 102)), some (.ref (ad 131)), some (vi x4), none, none] [(vi r1)] s1 rc rs
  refine sb_istore (pc' := 1767) rfl (L' := [some (.ref (ag_b g)), some (.ref (ad 0)), some (.ref (ad 102)), some (.ref (ad 131)), some (vi x4), some (vi r1), none]) rfl (by decide) dL_law_1765 ?_
  refine sb_aload_n (pc' := 1768) rfl rfl dL_law_1767 ?_
  obtain ⟨d2, hd2, H⟩ := H
  refine sb_callV (pc' := 1771) rfl rfl (rc := rc) (rs := rs) (mc' := 0) (ms' := 0) (As := []) (st := []) of_102 rfl rfl (Nat.le_of_ble_eq_true rfl) hd2 kX11_near ⟨wd_2095, wd_2096, wd_2097⟩ dL_law_1768 (Eb.mono H ?_)
  rintro o s2 ⟨r2, rfl, hr2, hs2, H⟩
  show Wb g ad d mL_law Q 1771 [some (.ref (ag_b g)), some (.ref (ad 0)), some (.ref (ad 102)), some (.ref (ad 131)), some (vi x4), some (vi r1), none] [(vi r2)] s2 rc rs
  refine sb_istore (pc' := 1773) rfl (L' := [some (.ref (ag_b g)), some (.ref (ad 0)), some (.ref (ad 102)), some (.ref (ad 131)), some (vi x4), some (vi r1), some (vi r2)]) rfl (by decide) dL_law_1771 ?_
  refine sb_aload_n (pc' := 1774) rfl rfl dL_law_1773 ?_
  obtain ⟨d3, hd3, H⟩ := H
  refine sb_callV (pc' := 1777) rfl rfl (rc := rc) (rs := rs) (mc' := 0) (ms' := 0) (As := []) (st := []) of_102 rfl rfl (Nat.le_of_ble_eq_true rfl) hd3 kX11_thrown ⟨wd_1707, wd_1708, wd_1709⟩ dL_law_1774 (Eb.mono H ?_)
  rintro o s3 ⟨r3, rfl, hr3, hs3, H⟩
  show Wb g ad d mL_law Q 1777 [some (.ref (ag_b g)), some (.ref (ad 0)), some (.ref (ad 102)), some (.ref (ad 131)), some (vi x4), some (vi r1), some (vi r2)] [(vi r3)] s3 rc rs
  refine sb_iload (pc' := 1779) rfl rfl dL_law_1777 ?_
  refine sb_icmp_eq (pc' := 1782) (tgt := 1784) rfl (by decide) hr3 hr1 dL_law_1779 ?_ ?_
  · intro cc; have H := H.1 cc
    refine sb_iload (pc' := 1786) rfl rfl dL_law_1784 ?_
    refine sb_if_ne (pc' := 1789) (tgt := 1801) rfl (by decide) hr1 dL_law_1786 ?_ ?_
    · intro cc; have H := H.1 cc
      refine sb_goto (tgt := 2061) (by decide) dL_law_1801 ?_
      refine Wb.forget [true, true, true, true, true, false, false] ?_
      exact (H hx4 hs3)
    · intro cc; have H := H.2 cc
      refine sb_aload_n (pc' := 1790) rfl rfl dL_law_1789 ?_
      refine sb_iconst (pc' := 1791) rfl dL_law_1790 ?_
      refine sb_lald (pc' := 1792) rfl aL_131 (by decide) (by decide) dL_law_1791 ?_
      refine sb_iload (pc' := 1794) rfl rfl dL_law_1792 ?_
      refine sb_i2l (pc' := 1795) rfl hr2 dL_law_1794 ?_
      refine sb_lcmp (pc' := 1796) rfl dL_law_1795 ?_
      refine sb_if_eq (pc' := 1799) (tgt := 1801) rfl (by decide) (iR_b _) dL_law_1796 ?_ ?_
      · intro cc; have H := H.1 cc
        refine sb_goto (tgt := 2061) (by decide) dL_law_1801 ?_
        refine Wb.forget [true, true, true, true, true, false, false] ?_
        exact (H hx4 hs3)
      · intro cc; have H := H.2 cc
        refine sb_iconst (pc' := 1800) rfl dL_law_1799 ?_
        exact sb_iret rfl (nar_z2 (Or.inl rfl)) dL_law_1800 (H (iR_lit rfl) hs3)
  · intro cc; have H := H.2 cc
    refine sb_iconst (pc' := 1783) rfl dL_law_1782 ?_
    exact sb_iret rfl (nar_z2 (Or.inl rfl)) dL_law_1783 (H (iR_lit rfl) hs3)
theorem bL_law_1804 {g : AG} {ad : Nat → Nat} {d : Nat} {Q : AO → SG → Prop} {rc rs : Nat} {σ : SG} {x4 : Int} (hL : ag_L g ≤ 3072) (hx4 : iR x4) (hS : SR σ) (H : (0 ≤ x4 + 1 ∧ x4 + 1 < ag_L g) ∧ Cl g ad d mL_match 1 6 [(.ref (ad 0)), (vi (sx g (x4 + 1))), (.ref (ad 131))] σ (Kx (Ki fun r2 s2 => Cl g ad d mX11_match 0 0 [(.ref (ad 102)), (vi (sx g (x4 + 1)))] s2 (Ki fun r3 s3 => Cl g ad d mX11_thrown 0 0 [(.ref (ad 102))] s3 (Ki fun r4 s4 => ((r4 = r2 → ((¬ r2 = 0 → (iR x4 → SR s4 → Wb g ad d mL_law Q 2061 [some (.ref (ag_b g)), some (.ref (ad 0)), some (.ref (ad 102)), some (.ref (ad 131)), some (vi x4), none, none] [] s4 rc rs)) ∧ (r2 = 0 → (((lCmp (la s4 131 0) r3) = 0 → (iR x4 → SR s4 → Wb g ad d mL_law Q 2061 [some (.ref (ag_b g)), some (.ref (ad 0)), some (.ref (ad 102)), some (.ref (ad 131)), some (vi x4), none, none] [] s4 rc rs)) ∧ (¬ (lCmp (la s4 131 0) r3) = 0 → (iR 0 → SR s4 → Q (.inl (some (vi 0))) s4)))))) ∧ (¬ r4 = r2 → (iR 0 → SR s4 → Q (.inl (some (vi 0))) s4)))))) (fun E s2 => SR s2 → Q (.inr E) s2))) : Wb g ad d mL_law Q 1804 [some (.ref (ag_b g)), some (.ref (ad 0)), some (.ref (ad 102)), some (.ref (ad 131)), some (vi x4), none, none] [] σ (rc + 1) (rs + 6) := by
  refine sb_aload_n (pc' := 1805) rfl rfl dL_law_1804 ?_
  refine sb_aload_n (pc' := 1806) rfl rfl dL_law_1805 ?_
  refine sb_iload (pc' := 1808) rfl rfl dL_law_1806 ?_
  refine sb_iconst (pc' := 1809) rfl dL_law_1808 ?_
  refine sb_iadd (pc' := 1810) rfl dL_law_1809 ?_
  obtain ⟨o1, H⟩ := H
  refine sb_sld (pc' := 1811) rfl o1.1 o1.2 hL dL_law_1810 ?_
  refine sb_aload_n (pc' := 1812) rfl rfl dL_law_1811 ?_
  obtain ⟨d2, hd2, H⟩ := H
  refine sb_callSX (pc' := 1815) rfl rfl (rc := rc) (rs := rs) (mc' := 1) (ms' := 6) (As := [(.ref (ad 0)), (vi (sx g (x4 + 1))), (.ref (ad 131))]) (st := [])  rfl rfl (Nat.le_of_ble_eq_true rfl) hd2 kHL_match ⟨wd_1496, wd_1497⟩ dL_law_1812 (Eb.mono H ?_)
  rintro o s2 (⟨r2, rfl, hr2, hs2, H⟩ | ⟨E, rfl, hs2, H⟩)
  case inr => exact H hs2
  show Wb g ad d mL_law Q 1815 [some (.ref (ag_b g)), some (.ref (ad 0)), some (.ref (ad 102)), some (.ref (ad 131)), some (vi x4), none, none] [(vi r2)] s2 rc rs
  refine sb_istore (pc' := 1817) rfl (L' := [some (.ref (ag_b g)), some (.ref (ad 0)), some (.ref (ad 102)), some (.ref (ad 131)), some (vi x4), some (vi r2), none]) rfl (by decide) dL_law_1815 ?_
  refine sb_aload_n (pc' := 1818) rfl rfl dL_law_1817 ?_
  refine sb_aload_n (pc' := 1819) rfl rfl dL_law_1818 ?_
  refine sb_iload (pc' := 1821) rfl rfl dL_law_1819 ?_
  refine sb_iconst (pc' := 1822) rfl dL_law_1821 ?_
  refine sb_iadd (pc' := 1823) rfl dL_law_1822 ?_
  refine sb_sld (pc' := 1824) rfl o1.1 o1.2 hL dL_law_1823 ?_
  obtain ⟨d3, hd3, H⟩ := H
  refine sb_callV (pc' := 1827) rfl rfl (rc := rc) (rs := rs) (mc' := 0) (ms' := 0) (As := [(vi (sx g (x4 + 1)))]) (st := []) of_102 rfl rfl (Nat.le_of_ble_eq_true rfl) hd3 kX11_match ⟨wd_2107, wd_2108, wd_2109⟩ dL_law_1824 (Eb.mono H ?_)
  rintro o s3 ⟨r3, rfl, hr3, hs3, H⟩
  show Wb g ad d mL_law Q 1827 [some (.ref (ag_b g)), some (.ref (ad 0)), some (.ref (ad 102)), some (.ref (ad 131)), some (vi x4), some (vi r2), none] [(vi r3)] s3 rc rs
  refine sb_istore (pc' := 1829) rfl (L' := [some (.ref (ag_b g)), some (.ref (ad 0)), some (.ref (ad 102)), some (.ref (ad 131)), some (vi x4), some (vi r2), some (vi r3)]) rfl (by decide) dL_law_1827 ?_
  refine sb_aload_n (pc' := 1830) rfl rfl dL_law_1829 ?_
  obtain ⟨d4, hd4, H⟩ := H
  refine sb_callV (pc' := 1833) rfl rfl (rc := rc) (rs := rs) (mc' := 0) (ms' := 0) (As := []) (st := []) of_102 rfl rfl (Nat.le_of_ble_eq_true rfl) hd4 kX11_thrown ⟨wd_1707, wd_1708, wd_1709⟩ dL_law_1830 (Eb.mono H ?_)
  rintro o s4 ⟨r4, rfl, hr4, hs4, H⟩
  show Wb g ad d mL_law Q 1833 [some (.ref (ag_b g)), some (.ref (ad 0)), some (.ref (ad 102)), some (.ref (ad 131)), some (vi x4), some (vi r2), some (vi r3)] [(vi r4)] s4 rc rs
  refine sb_iload (pc' := 1835) rfl rfl dL_law_1833 ?_
  refine sb_icmp_eq (pc' := 1838) (tgt := 1840) rfl (by decide) hr4 hr2 dL_law_1835 ?_ ?_
  · intro cc; have H := H.1 cc
    refine sb_iload (pc' := 1842) rfl rfl dL_law_1840 ?_
    refine sb_if_ne (pc' := 1845) (tgt := 1857) rfl (by decide) hr2 dL_law_1842 ?_ ?_
    · intro cc; have H := H.1 cc
      refine sb_goto (tgt := 2061) (by decide) dL_law_1857 ?_
      refine Wb.forget [true, true, true, true, true, false, false] ?_
      exact (H hx4 hs4)
    · intro cc; have H := H.2 cc
      refine sb_aload_n (pc' := 1846) rfl rfl dL_law_1845 ?_
      refine sb_iconst (pc' := 1847) rfl dL_law_1846 ?_
      refine sb_lald (pc' := 1848) rfl aL_131 (by decide) (by decide) dL_law_1847 ?_
      refine sb_iload (pc' := 1850) rfl rfl dL_law_1848 ?_
      refine sb_i2l (pc' := 1851) rfl hr3 dL_law_1850 ?_
      refine sb_lcmp (pc' := 1852) rfl dL_law_1851 ?_
      refine sb_if_eq (pc' := 1855) (tgt := 1857) rfl (by decide) (iR_b _) dL_law_1852 ?_ ?_
      · intro cc; have H := H.1 cc
        refine sb_goto (tgt := 2061) (by decide) dL_law_1857 ?_
        refine Wb.forget [true, true, true, true, true, false, false] ?_
        exact (H hx4 hs4)
      · intro cc; have H := H.2 cc
        refine sb_iconst (pc' := 1856) rfl dL_law_1855 ?_
        exact sb_iret rfl (nar_z2 (Or.inl rfl)) dL_law_1856 (H (iR_lit rfl) hs4)
  · intro cc; have H := H.2 cc
    refine sb_iconst (pc' := 1839) rfl dL_law_1838 ?_
    exact sb_iret rfl (nar_z2 (Or.inl rfl)) dL_law_1839 (H (iR_lit rfl) hs4)
theorem bL_law_1860 {g : AG} {ad : Nat → Nat} {d : Nat} {Q : AO → SG → Prop} {rc rs : Nat} {σ : SG} {x4 : Int} (hL : ag_L g ≤ 3072) (hx4 : iR x4) (hS : SR σ) (H : (0 ≤ x4 + 1 ∧ x4 + 1 < ag_L g) ∧ Cl g ad d mL_agreed 1 6 [(.ref (ad 0)), (vi (sx g (x4 + 1))), (.ref (ad 131))] σ (Kx (Ki fun r2 s2 => Cl g ad d mX11_agreed 0 0 [(.ref (ad 102)), (vi (sx g (x4 + 1)))] s2 (Ki fun r3 s3 => Cl g ad d mX11_thrown 0 0 [(.ref (ad 102))] s3 (Ki fun r4 s4 => ((r4 = r2 → ((¬ r2 = 0 → (iR x4 → SR s4 → Wb g ad d mL_law Q 2061 [some (.ref (ag_b g)), some (.ref (ad 0)), some (.ref (ad 102)), some (.ref (ad 131)), some (vi x4), none, none] [] s4 rc rs)) ∧ (r2 = 0 → (((lCmp (la s4 131 0) r3) = 0 → (iR x4 → SR s4 → Wb g ad d mL_law Q 2061 [some (.ref (ag_b g)), some (.ref (ad 0)), some (.ref (ad 102)), some (.ref (ad 131)), some (vi x4), none, none] [] s4 rc rs)) ∧ (¬ (lCmp (la s4 131 0) r3) = 0 → (iR 0 → SR s4 → Q (.inl (some (vi 0))) s4)))))) ∧ (¬ r4 = r2 → (iR 0 → SR s4 → Q (.inl (some (vi 0))) s4)))))) (fun E s2 => SR s2 → Q (.inr E) s2))) : Wb g ad d mL_law Q 1860 [some (.ref (ag_b g)), some (.ref (ad 0)), some (.ref (ad 102)), some (.ref (ad 131)), some (vi x4), none, none] [] σ (rc + 1) (rs + 6) := by
  refine sb_aload_n (pc' := 1861) rfl rfl dL_law_1860 ?_
  refine sb_aload_n (pc' := 1862) rfl rfl dL_law_1861 ?_
  refine sb_iload (pc' := 1864) rfl rfl dL_law_1862 ?_
  refine sb_iconst (pc' := 1865) rfl dL_law_1864 ?_
  refine sb_iadd (pc' := 1866) rfl dL_law_1865 ?_
  obtain ⟨o1, H⟩ := H
  refine sb_sld (pc' := 1867) rfl o1.1 o1.2 hL dL_law_1866 ?_
  refine sb_aload_n (pc' := 1868) rfl rfl dL_law_1867 ?_
  obtain ⟨d2, hd2, H⟩ := H
  refine sb_callSX (pc' := 1871) rfl rfl (rc := rc) (rs := rs) (mc' := 1) (ms' := 6) (As := [(.ref (ad 0)), (vi (sx g (x4 + 1))), (.ref (ad 131))]) (st := [])  rfl rfl (Nat.le_of_ble_eq_true rfl) hd2 kHL_agreed ⟨wd_1513, wd_1514⟩ dL_law_1868 (Eb.mono H ?_)
  rintro o s2 (⟨r2, rfl, hr2, hs2, H⟩ | ⟨E, rfl, hs2, H⟩)
  case inr => exact H hs2
  show Wb g ad d mL_law Q 1871 [some (.ref (ag_b g)), some (.ref (ad 0)), some (.ref (ad 102)), some (.ref (ad 131)), some (vi x4), none, none] [(vi r2)] s2 rc rs
  refine sb_istore (pc' := 1873) rfl (L' := [some (.ref (ag_b g)), some (.ref (ad 0)), some (.ref (ad 102)), some (.ref (ad 131)), some (vi x4), some (vi r2), none]) rfl (by decide) dL_law_1871 ?_
  refine sb_aload_n (pc' := 1874) rfl rfl dL_law_1873 ?_
  refine sb_aload_n (pc' := 1875) rfl rfl dL_law_1874 ?_
  refine sb_iload (pc' := 1877) rfl rfl dL_law_1875 ?_
  refine sb_iconst (pc' := 1878) rfl dL_law_1877 ?_
  refine sb_iadd (pc' := 1879) rfl dL_law_1878 ?_
  refine sb_sld (pc' := 1880) rfl o1.1 o1.2 hL dL_law_1879 ?_
  obtain ⟨d3, hd3, H⟩ := H
  refine sb_callV (pc' := 1883) rfl rfl (rc := rc) (rs := rs) (mc' := 0) (ms' := 0) (As := [(vi (sx g (x4 + 1)))]) (st := []) of_102 rfl rfl (Nat.le_of_ble_eq_true rfl) hd3 kX11_agreed ⟨wd_2117, wd_2118, wd_2119⟩ dL_law_1880 (Eb.mono H ?_)
  rintro o s3 ⟨r3, rfl, hr3, hs3, H⟩
  show Wb g ad d mL_law Q 1883 [some (.ref (ag_b g)), some (.ref (ad 0)), some (.ref (ad 102)), some (.ref (ad 131)), some (vi x4), some (vi r2), none] [(vi r3)] s3 rc rs
  refine sb_istore (pc' := 1885) rfl (L' := [some (.ref (ag_b g)), some (.ref (ad 0)), some (.ref (ad 102)), some (.ref (ad 131)), some (vi x4), some (vi r2), some (vi r3)]) rfl (by decide) dL_law_1883 ?_
  refine sb_aload_n (pc' := 1886) rfl rfl dL_law_1885 ?_
  obtain ⟨d4, hd4, H⟩ := H
  refine sb_callV (pc' := 1889) rfl rfl (rc := rc) (rs := rs) (mc' := 0) (ms' := 0) (As := []) (st := []) of_102 rfl rfl (Nat.le_of_ble_eq_true rfl) hd4 kX11_thrown ⟨wd_1707, wd_1708, wd_1709⟩ dL_law_1886 (Eb.mono H ?_)
  rintro o s4 ⟨r4, rfl, hr4, hs4, H⟩
  show Wb g ad d mL_law Q 1889 [some (.ref (ag_b g)), some (.ref (ad 0)), some (.ref (ad 102)), some (.ref (ad 131)), some (vi x4), some (vi r2), some (vi r3)] [(vi r4)] s4 rc rs
  refine sb_iload (pc' := 1891) rfl rfl dL_law_1889 ?_
  refine sb_icmp_eq (pc' := 1894) (tgt := 1896) rfl (by decide) hr4 hr2 dL_law_1891 ?_ ?_
  · intro cc; have H := H.1 cc
    refine sb_iload (pc' := 1898) rfl rfl dL_law_1896 ?_
    refine sb_if_ne (pc' := 1901) (tgt := 1913) rfl (by decide) hr2 dL_law_1898 ?_ ?_
    · intro cc; have H := H.1 cc
      refine sb_goto (tgt := 2061) (by decide) dL_law_1913 ?_
      refine Wb.forget [true, true, true, true, true, false, false] ?_
      exact (H hx4 hs4)
    · intro cc; have H := H.2 cc
      refine sb_aload_n (pc' := 1902) rfl rfl dL_law_1901 ?_
      refine sb_iconst (pc' := 1903) rfl dL_law_1902 ?_
      refine sb_lald (pc' := 1904) rfl aL_131 (by decide) (by decide) dL_law_1903 ?_
      refine sb_iload (pc' := 1906) rfl rfl dL_law_1904 ?_
      refine sb_i2l (pc' := 1907) rfl hr3 dL_law_1906 ?_
      refine sb_lcmp (pc' := 1908) rfl dL_law_1907 ?_
      refine sb_if_eq (pc' := 1911) (tgt := 1913) rfl (by decide) (iR_b _) dL_law_1908 ?_ ?_
      · intro cc; have H := H.1 cc
        refine sb_goto (tgt := 2061) (by decide) dL_law_1913 ?_
        refine Wb.forget [true, true, true, true, true, false, false] ?_
        exact (H hx4 hs4)
      · intro cc; have H := H.2 cc
        refine sb_iconst (pc' := 1912) rfl dL_law_1911 ?_
        exact sb_iret rfl (nar_z2 (Or.inl rfl)) dL_law_1912 (H (iR_lit rfl) hs4)
  · intro cc; have H := H.2 cc
    refine sb_iconst (pc' := 1895) rfl dL_law_1894 ?_
    exact sb_iret rfl (nar_z2 (Or.inl rfl)) dL_law_1895 (H (iR_lit rfl) hs4)
theorem bL_law_1916 {g : AG} {ad : Nat → Nat} {d : Nat} {Q : AO → SG → Prop} {rc rs : Nat} {σ : SG} {x4 : Int} (hL : ag_L g ≤ 3072) (hx4 : iR x4) (hS : SR σ) (H : Cl g ad d mX10_needed 0 0 [(.ref (ad 0))] σ (Ki fun r1 s1 => Cl g ad d mX11_needed 0 0 [(.ref (ad 102))] s1 (Ki fun r2 s2 => ((r1 = r2 → (iR x4 → SR s2 → Wb g ad d mL_law Q 2061 [some (.ref (ag_b g)), some (.ref (ad 0)), some (.ref (ad 102)), some (.ref (ad 131)), some (vi x4), none, none] [] s2 rc rs)) ∧ (¬ r1 = r2 → (iR 0 → SR s2 → Q (.inl (some (vi 0))) s2)))))) : Wb g ad d mL_law Q 1916 [some (.ref (ag_b g)), some (.ref (ad 0)), some (.ref (ad 102)), some (.ref (ad 131)), some (vi x4), none, none] [] σ rc rs := by
  refine sb_aload_n (pc' := 1917) rfl rfl dL_law_1916 ?_
  obtain ⟨d1, hd1, H⟩ := H
  refine sb_callV (pc' := 1920) rfl rfl (rc := rc) (rs := rs) (mc' := 0) (ms' := 0) (As := []) (st := []) of_0 rfl rfl (Nat.le_of_ble_eq_true rfl) hd1 kX10_needed ⟨wd_862, wd_863, wd_864⟩ dL_law_1917 (Eb.mono H ?_)
  rintro o s1 ⟨r1, rfl, hr1, hs1, H⟩
  show Wb g ad d mL_law Q 1920 [some (.ref (ag_b g)), some (.ref (ad 0)), some (.ref (ad 102)), some (.ref (ad 131)), some (vi x4), none, none] [(vi r1)] s1 rc rs
  refine sb_aload_n (pc' := 1921) rfl rfl dL_law_1920 ?_
  obtain ⟨d2, hd2, H⟩ := H
  refine sb_callV (pc' := 1924) rfl rfl (rc := rc) (rs := rs) (mc' := 0) (ms' := 0) (As := []) (st := [(vi r1)]) of_102 rfl rfl (Nat.le_of_ble_eq_true rfl) hd2 kX11_needed ⟨wd_2121, wd_2122, wd_2123⟩ dL_law_1921 (Eb.mono H ?_)
  rintro o s2 ⟨r2, rfl, hr2, hs2, H⟩
  show Wb g ad d mL_law Q 1924 [some (.ref (ag_b g)), some (.ref (ad 0)), some (.ref (ad 102)), some (.ref (ad 131)), some (vi x4), none, none] [(vi r2), (vi r1)] s2 rc rs
  refine sb_icmp_eq (pc' := 1927) (tgt := 2061) rfl (by decide) hr1 hr2 dL_law_1924 ?_ ?_
  · intro cc; have H := H.1 cc
    exact (H hx4 hs2)
  · intro cc; have H := H.2 cc
    refine sb_iconst (pc' := 1928) rfl dL_law_1927 ?_
    exact sb_iret rfl (nar_z2 (Or.inl rfl)) dL_law_1928 (H (iR_lit rfl) hs2)
theorem bL_law_1929 {g : AG} {ad : Nat → Nat} {d : Nat} {Q : AO → SG → Prop} {rc rs : Nat} {σ : SG} {x4 : Int} (hL : ag_L g ≤ 3072) (hx4 : iR x4) (hS : SR σ) (H : Cl g ad d mX10_idle 0 0 [(.ref (ad 0))] σ (Ki fun r1 s1 => Cl g ad d mX11_idle 0 0 [(.ref (ad 102))] s1 (Ki fun r2 s2 => ((r1 = r2 → (iR x4 → SR s2 → Wb g ad d mL_law Q 2061 [some (.ref (ag_b g)), some (.ref (ad 0)), some (.ref (ad 102)), some (.ref (ad 131)), some (vi x4), none, none] [] s2 rc rs)) ∧ (¬ r1 = r2 → (iR 0 → SR s2 → Q (.inl (some (vi 0))) s2)))))) : Wb g ad d mL_law Q 1929 [some (.ref (ag_b g)), some (.ref (ad 0)), some (.ref (ad 102)), some (.ref (ad 131)), some (vi x4), none, none] [] σ rc rs := by
  refine sb_aload_n (pc' := 1930) rfl rfl dL_law_1929 ?_
  obtain ⟨d1, hd1, H⟩ := H
  refine sb_callV (pc' := 1933) rfl rfl (rc := rc) (rs := rs) (mc' := 0) (ms' := 0) (As := []) (st := []) of_0 rfl rfl (Nat.le_of_ble_eq_true rfl) hd1 kX10_idle ⟨wd_908, wd_909, wd_910⟩ dL_law_1930 (Eb.mono H ?_)
  rintro o s1 ⟨r1, rfl, hr1, hs1, H⟩
  show Wb g ad d mL_law Q 1933 [some (.ref (ag_b g)), some (.ref (ad 0)), some (.ref (ad 102)), some (.ref (ad 131)), some (vi x4), none, none] [(vi r1)] s1 rc rs
  refine sb_aload_n (pc' := 1934) rfl rfl dL_law_1933 ?_
  obtain ⟨d2, hd2, H⟩ := H
  refine sb_callV (pc' := 1937) rfl rfl (rc := rc) (rs := rs) (mc' := 0) (ms' := 0) (As := []) (st := [(vi r1)]) of_102 rfl rfl (Nat.le_of_ble_eq_true rfl) hd2 kX11_idle ⟨wd_2125, wd_2126, wd_2127⟩ dL_law_1934 (Eb.mono H ?_)
  rintro o s2 ⟨r2, rfl, hr2, hs2, H⟩
  show Wb g ad d mL_law Q 1937 [some (.ref (ag_b g)), some (.ref (ad 0)), some (.ref (ad 102)), some (.ref (ad 131)), some (vi x4), none, none] [(vi r2), (vi r1)] s2 rc rs
  refine sb_icmp_eq (pc' := 1940) (tgt := 2061) rfl (by decide) hr1 hr2 dL_law_1937 ?_ ?_
  · intro cc; have H := H.1 cc
    exact (H hx4 hs2)
  · intro cc; have H := H.2 cc
    refine sb_iconst (pc' := 1941) rfl dL_law_1940 ?_
    exact sb_iret rfl (nar_z2 (Or.inl rfl)) dL_law_1941 (H (iR_lit rfl) hs2)
theorem bL_law_1942 {g : AG} {ad : Nat → Nat} {d : Nat} {Q : AO → SG → Prop} {rc rs : Nat} {σ : SG} {x4 : Int} (hL : ag_L g ≤ 3072) (hx4 : iR x4) (hS : SR σ) (H : Cl g ad d mX10_reach 0 0 [(.ref (ad 0))] σ (Ki fun r1 s1 => Cl g ad d mX11_reach 0 0 [(.ref (ad 102))] s1 (Ki fun r2 s2 => ((r1 = r2 → (iR x4 → SR s2 → Wb g ad d mL_law Q 2061 [some (.ref (ag_b g)), some (.ref (ad 0)), some (.ref (ad 102)), some (.ref (ad 131)), some (vi x4), none, none] [] s2 rc rs)) ∧ (¬ r1 = r2 → (iR 0 → SR s2 → Q (.inl (some (vi 0))) s2)))))) : Wb g ad d mL_law Q 1942 [some (.ref (ag_b g)), some (.ref (ad 0)), some (.ref (ad 102)), some (.ref (ad 131)), some (vi x4), none, none] [] σ rc rs := by
  refine sb_aload_n (pc' := 1943) rfl rfl dL_law_1942 ?_
  obtain ⟨d1, hd1, H⟩ := H
  refine sb_callV (pc' := 1946) rfl rfl (rc := rc) (rs := rs) (mc' := 0) (ms' := 0) (As := []) (st := []) of_0 rfl rfl (Nat.le_of_ble_eq_true rfl) hd1 kX10_reach ⟨wd_916, wd_917, wd_918⟩ dL_law_1943 (Eb.mono H ?_)
  rintro o s1 ⟨r1, rfl, hr1, hs1, H⟩
  show Wb g ad d mL_law Q 1946 [some (.ref (ag_b g)), some (.ref (ad 0)), some (.ref (ad 102)), some (.ref (ad 131)), some (vi x4), none, none] [(vi r1)] s1 rc rs
  refine sb_aload_n (pc' := 1947) rfl rfl dL_law_1946 ?_
  obtain ⟨d2, hd2, H⟩ := H
  refine sb_callV (pc' := 1950) rfl rfl (rc := rc) (rs := rs) (mc' := 0) (ms' := 0) (As := []) (st := [(vi r1)]) of_102 rfl rfl (Nat.le_of_ble_eq_true rfl) hd2 kX11_reach ⟨wd_2129, wd_2130, wd_2131⟩ dL_law_1947 (Eb.mono H ?_)
  rintro o s2 ⟨r2, rfl, hr2, hs2, H⟩
  show Wb g ad d mL_law Q 1950 [some (.ref (ag_b g)), some (.ref (ad 0)), some (.ref (ad 102)), some (.ref (ad 131)), some (vi x4), none, none] [(vi r2), (vi r1)] s2 rc rs
  refine sb_icmp_eq (pc' := 1953) (tgt := 2061) rfl (by decide) hr1 hr2 dL_law_1950 ?_ ?_
  · intro cc; have H := H.1 cc
    exact (H hx4 hs2)
  · intro cc; have H := H.2 cc
    refine sb_iconst (pc' := 1954) rfl dL_law_1953 ?_
    exact sb_iret rfl (nar_z2 (Or.inl rfl)) dL_law_1954 (H (iR_lit rfl) hs2)
theorem bL_law_1955 {g : AG} {ad : Nat → Nat} {d : Nat} {Q : AO → SG → Prop} {rc rs : Nat} {σ : SG} {x4 : Int} (hL : ag_L g ≤ 3072) (hx4 : iR x4) (hS : SR σ) (H : Cl g ad d mX10_width 0 0 [(.ref (ad 0))] σ (Ki fun r1 s1 => Cl g ad d mX11_width 0 0 [(.ref (ad 102))] s1 (Ki fun r2 s2 => ((r1 = r2 → (iR x4 → SR s2 → Wb g ad d mL_law Q 2061 [some (.ref (ag_b g)), some (.ref (ad 0)), some (.ref (ad 102)), some (.ref (ad 131)), some (vi x4), none, none] [] s2 rc rs)) ∧ (¬ r1 = r2 → (iR 0 → SR s2 → Q (.inl (some (vi 0))) s2)))))) : Wb g ad d mL_law Q 1955 [some (.ref (ag_b g)), some (.ref (ad 0)), some (.ref (ad 102)), some (.ref (ad 131)), some (vi x4), none, none] [] σ rc rs := by
  refine sb_aload_n (pc' := 1956) rfl rfl dL_law_1955 ?_
  obtain ⟨d1, hd1, H⟩ := H
  refine sb_callV (pc' := 1959) rfl rfl (rc := rc) (rs := rs) (mc' := 0) (ms' := 0) (As := []) (st := []) of_0 rfl rfl (Nat.le_of_ble_eq_true rfl) hd1 kX10_width ⟨wd_920, wd_921, wd_922⟩ dL_law_1956 (Eb.mono H ?_)
  rintro o s1 ⟨r1, rfl, hr1, hs1, H⟩
  show Wb g ad d mL_law Q 1959 [some (.ref (ag_b g)), some (.ref (ad 0)), some (.ref (ad 102)), some (.ref (ad 131)), some (vi x4), none, none] [(vi r1)] s1 rc rs
  refine sb_aload_n (pc' := 1960) rfl rfl dL_law_1959 ?_
  obtain ⟨d2, hd2, H⟩ := H
  refine sb_callV (pc' := 1963) rfl rfl (rc := rc) (rs := rs) (mc' := 0) (ms' := 0) (As := []) (st := [(vi r1)]) of_102 rfl rfl (Nat.le_of_ble_eq_true rfl) hd2 kX11_width ⟨wd_2137, wd_2138, wd_2139⟩ dL_law_1960 (Eb.mono H ?_)
  rintro o s2 ⟨r2, rfl, hr2, hs2, H⟩
  show Wb g ad d mL_law Q 1963 [some (.ref (ag_b g)), some (.ref (ad 0)), some (.ref (ad 102)), some (.ref (ad 131)), some (vi x4), none, none] [(vi r2), (vi r1)] s2 rc rs
  refine sb_icmp_eq (pc' := 1966) (tgt := 2061) rfl (by decide) hr1 hr2 dL_law_1963 ?_ ?_
  · intro cc; have H := H.1 cc
    exact (H hx4 hs2)
  · intro cc; have H := H.2 cc
    refine sb_iconst (pc' := 1967) rfl dL_law_1966 ?_
    exact sb_iret rfl (nar_z2 (Or.inl rfl)) dL_law_1967 (H (iR_lit rfl) hs2)
theorem bL_law_1968 {g : AG} {ad : Nat → Nat} {d : Nat} {Q : AO → SG → Prop} {rc rs : Nat} {σ : SG} {x4 : Int} (hL : ag_L g ≤ 3072) (hx4 : iR x4) (hS : SR σ) (H : Cl g ad d mL_tuned 1 6 [(.ref (ad 0)), (.ref (ad 131))] σ (Kx (Ki fun r1 s1 => Cl g ad d mX11_tuned 0 0 [(.ref (ad 102))] s1 (Ki fun r2 s2 => Cl g ad d mX11_thrown 0 0 [(.ref (ad 102))] s2 (Ki fun r3 s3 => ((r3 = r1 → ((¬ r1 = 0 → (iR x4 → SR s3 → Wb g ad d mL_law Q 2061 [some (.ref (ag_b g)), some (.ref (ad 0)), some (.ref (ad 102)), some (.ref (ad 131)), some (vi x4), none, none] [] s3 rc rs)) ∧ (r1 = 0 → (((lCmp (la s3 131 0) r2) = 0 → (iR x4 → SR s3 → Wb g ad d mL_law Q 2061 [some (.ref (ag_b g)), some (.ref (ad 0)), some (.ref (ad 102)), some (.ref (ad 131)), some (vi x4), none, none] [] s3 rc rs)) ∧ (¬ (lCmp (la s3 131 0) r2) = 0 → (iR 0 → SR s3 → Q (.inl (some (vi 0))) s3)))))) ∧ (¬ r3 = r1 → (iR 0 → SR s3 → Q (.inl (some (vi 0))) s3)))))) (fun E s1 => SR s1 → Q (.inr E) s1))) : Wb g ad d mL_law Q 1968 [some (.ref (ag_b g)), some (.ref (ad 0)), some (.ref (ad 102)), some (.ref (ad 131)), some (vi x4), none, none] [] σ (rc + 1) (rs + 6) := by
  refine sb_aload_n (pc' := 1969) rfl rfl dL_law_1968 ?_
  refine sb_aload_n (pc' := 1970) rfl rfl dL_law_1969 ?_
  obtain ⟨d1, hd1, H⟩ := H
  refine sb_callSX (pc' := 1973) rfl rfl (rc := rc) (rs := rs) (mc' := 1) (ms' := 6) (As := [(.ref (ad 0)), (.ref (ad 131))]) (st := [])  rfl rfl (Nat.le_of_ble_eq_true rfl) hd1 kHL_tuned ⟨wd_1536, wd_1537⟩ dL_law_1970 (Eb.mono H ?_)
  rintro o s1 (⟨r1, rfl, hr1, hs1, H⟩ | ⟨E, rfl, hs1, H⟩)
  case inr => exact H hs1
  show Wb g ad d mL_law Q 1973 [some (.ref (ag_b g)), some (.ref (ad 0)), some (.ref (ad 102)), some (.ref (ad 131)), some (vi x4), none, none] [(vi r1)] s1 rc rs
  refine sb_istore (pc' := 1975) rfl (L' := [some (.ref (ag_b g)), some (.ref (ad 0)), some (.ref (ad 102)), some (.ref (ad 131)), some (vi x4), some (vi r1), none]) rfl (by decide) dL_law_1973 ?_
  refine sb_aload_n (pc' := 1976) rfl rfl dL_law_1975 ?_
  obtain ⟨d2, hd2, H⟩ := H
  refine sb_callV (pc' := 1979) rfl rfl (rc := rc) (rs := rs) (mc' := 0) (ms' := 0) (As := []) (st := []) of_102 rfl rfl (Nat.le_of_ble_eq_true rfl) hd2 kX11_tuned ⟨wd_2141, wd_2142, wd_2143⟩ dL_law_1976 (Eb.mono H ?_)
  rintro o s2 ⟨r2, rfl, hr2, hs2, H⟩
  show Wb g ad d mL_law Q 1979 [some (.ref (ag_b g)), some (.ref (ad 0)), some (.ref (ad 102)), some (.ref (ad 131)), some (vi x4), some (vi r1), none] [(vi r2)] s2 rc rs
  refine sb_istore (pc' := 1981) rfl (L' := [some (.ref (ag_b g)), some (.ref (ad 0)), some (.ref (ad 102)), some (.ref (ad 131)), some (vi x4), some (vi r1), some (vi r2)]) rfl (by decide) dL_law_1979 ?_
  refine sb_aload_n (pc' := 1982) rfl rfl dL_law_1981 ?_
  obtain ⟨d3, hd3, H⟩ := H
  refine sb_callV (pc' := 1985) rfl rfl (rc := rc) (rs := rs) (mc' := 0) (ms' := 0) (As := []) (st := []) of_102 rfl rfl (Nat.le_of_ble_eq_true rfl) hd3 kX11_thrown ⟨wd_1707, wd_1708, wd_1709⟩ dL_law_1982 (Eb.mono H ?_)
  rintro o s3 ⟨r3, rfl, hr3, hs3, H⟩
  show Wb g ad d mL_law Q 1985 [some (.ref (ag_b g)), some (.ref (ad 0)), some (.ref (ad 102)), some (.ref (ad 131)), some (vi x4), some (vi r1), some (vi r2)] [(vi r3)] s3 rc rs
  refine sb_iload (pc' := 1987) rfl rfl dL_law_1985 ?_
  refine sb_icmp_eq (pc' := 1990) (tgt := 1992) rfl (by decide) hr3 hr1 dL_law_1987 ?_ ?_
  · intro cc; have H := H.1 cc
    refine sb_iload (pc' := 1994) rfl rfl dL_law_1992 ?_
    refine sb_if_ne (pc' := 1997) (tgt := 2009) rfl (by decide) hr1 dL_law_1994 ?_ ?_
    · intro cc; have H := H.1 cc
      refine sb_goto (tgt := 2061) (by decide) dL_law_2009 ?_
      refine Wb.forget [true, true, true, true, true, false, false] ?_
      exact (H hx4 hs3)
    · intro cc; have H := H.2 cc
      refine sb_aload_n (pc' := 1998) rfl rfl dL_law_1997 ?_
      refine sb_iconst (pc' := 1999) rfl dL_law_1998 ?_
      refine sb_lald (pc' := 2000) rfl aL_131 (by decide) (by decide) dL_law_1999 ?_
      refine sb_iload (pc' := 2002) rfl rfl dL_law_2000 ?_
      refine sb_i2l (pc' := 2003) rfl hr2 dL_law_2002 ?_
      refine sb_lcmp (pc' := 2004) rfl dL_law_2003 ?_
      refine sb_if_eq (pc' := 2007) (tgt := 2009) rfl (by decide) (iR_b _) dL_law_2004 ?_ ?_
      · intro cc; have H := H.1 cc
        refine sb_goto (tgt := 2061) (by decide) dL_law_2009 ?_
        refine Wb.forget [true, true, true, true, true, false, false] ?_
        exact (H hx4 hs3)
      · intro cc; have H := H.2 cc
        refine sb_iconst (pc' := 2008) rfl dL_law_2007 ?_
        exact sb_iret rfl (nar_z2 (Or.inl rfl)) dL_law_2008 (H (iR_lit rfl) hs3)
  · intro cc; have H := H.2 cc
    refine sb_iconst (pc' := 1991) rfl dL_law_1990 ?_
    exact sb_iret rfl (nar_z2 (Or.inl rfl)) dL_law_1991 (H (iR_lit rfl) hs3)
theorem bL_law_2012 {g : AG} {ad : Nat → Nat} {d : Nat} {Q : AO → SG → Prop} {rc rs : Nat} {σ : SG} {x4 : Int} (hL : ag_L g ≤ 3072) (hx4 : iR x4) (hS : SR σ) (H : Cl g ad d mX10_image 0 0 [(.ref (ad 0))] σ (Kv fun s1 => Cl g ad d mX11_image 0 0 [(.ref (ad 102))] s1 (Kv fun s2 => (iR x4 → SR s2 → Wb g ad d mL_law Q 2061 [some (.ref (ag_b g)), some (.ref (ad 0)), some (.ref (ad 102)), some (.ref (ad 131)), some (vi x4), none, none] [] s2 rc rs)))) : Wb g ad d mL_law Q 2012 [some (.ref (ag_b g)), some (.ref (ad 0)), some (.ref (ad 102)), some (.ref (ad 131)), some (vi x4), none, none] [] σ rc rs := by
  refine sb_aload_n (pc' := 2013) rfl rfl dL_law_2012 ?_
  obtain ⟨d1, hd1, H⟩ := H
  refine sb_callV (pc' := 2016) rfl rfl (rc := rc) (rs := rs) (mc' := 0) (ms' := 0) (As := []) (st := []) of_0 rfl rfl (Nat.le_of_ble_eq_true rfl) hd1 kX10_image ⟨wd_966, wd_967, wd_968⟩ dL_law_2013 (Eb.mono H ?_)
  rintro o s1 ⟨rfl, hs1, H⟩
  show Wb g ad d mL_law Q 2016 [some (.ref (ag_b g)), some (.ref (ad 0)), some (.ref (ad 102)), some (.ref (ad 131)), some (vi x4), none, none] [] s1 rc rs
  refine sb_aload_n (pc' := 2017) rfl rfl dL_law_2016 ?_
  obtain ⟨d2, hd2, H⟩ := H
  refine sb_callV (pc' := 2020) rfl rfl (rc := rc) (rs := rs) (mc' := 0) (ms' := 0) (As := []) (st := []) of_102 rfl rfl (Nat.le_of_ble_eq_true rfl) hd2 kX11_image ⟨wd_2145, wd_2146, wd_2147⟩ dL_law_2017 (Eb.mono H ?_)
  rintro o s2 ⟨rfl, hs2, H⟩
  show Wb g ad d mL_law Q 2020 [some (.ref (ag_b g)), some (.ref (ad 0)), some (.ref (ad 102)), some (.ref (ad 131)), some (vi x4), none, none] [] s2 rc rs
  refine sb_goto (tgt := 2061) (by decide) dL_law_2020 ?_
  exact (H hx4 hs2)
theorem bL_law_2023 {g : AG} {ad : Nat → Nat} {d : Nat} {Q : AO → SG → Prop} {rc rs : Nat} {σ : SG} {x4 : Int} (hL : ag_L g ≤ 3072) (hx4 : iR x4) (hS : SR σ) (H : Cl g ad d mX10_back 0 0 [(.ref (ad 0))] σ (Ki fun r1 s1 => Cl g ad d mX11_back 0 0 [(.ref (ad 102))] s1 (Ki fun r2 s2 => ((r1 = r2 → (iR x4 → SR s2 → Wb g ad d mL_law Q 2061 [some (.ref (ag_b g)), some (.ref (ad 0)), some (.ref (ad 102)), some (.ref (ad 131)), some (vi x4), none, none] [] s2 rc rs)) ∧ (¬ r1 = r2 → (iR 0 → SR s2 → Q (.inl (some (vi 0))) s2)))))) : Wb g ad d mL_law Q 2023 [some (.ref (ag_b g)), some (.ref (ad 0)), some (.ref (ad 102)), some (.ref (ad 131)), some (vi x4), none, none] [] σ rc rs := by
  refine sb_aload_n (pc' := 2024) rfl rfl dL_law_2023 ?_
  obtain ⟨d1, hd1, H⟩ := H
  refine sb_callV (pc' := 2027) rfl rfl (rc := rc) (rs := rs) (mc' := 0) (ms' := 0) (As := []) (st := []) of_0 rfl rfl (Nat.le_of_ble_eq_true rfl) hd1 kX10_back ⟨wd_975, wd_976, wd_977⟩ dL_law_2024 (Eb.mono H ?_)
  rintro o s1 ⟨r1, rfl, hr1, hs1, H⟩
  show Wb g ad d mL_law Q 2027 [some (.ref (ag_b g)), some (.ref (ad 0)), some (.ref (ad 102)), some (.ref (ad 131)), some (vi x4), none, none] [(vi r1)] s1 rc rs
  refine sb_aload_n (pc' := 2028) rfl rfl dL_law_2027 ?_
  obtain ⟨d2, hd2, H⟩ := H
  refine sb_callV (pc' := 2031) rfl rfl (rc := rc) (rs := rs) (mc' := 0) (ms' := 0) (As := []) (st := [(vi r1)]) of_102 rfl rfl (Nat.le_of_ble_eq_true rfl) hd2 kX11_back ⟨wd_2149, wd_2150, wd_2151⟩ dL_law_2028 (Eb.mono H ?_)
  rintro o s2 ⟨r2, rfl, hr2, hs2, H⟩
  show Wb g ad d mL_law Q 2031 [some (.ref (ag_b g)), some (.ref (ad 0)), some (.ref (ad 102)), some (.ref (ad 131)), some (vi x4), none, none] [(vi r2), (vi r1)] s2 rc rs
  refine sb_icmp_eq (pc' := 2034) (tgt := 2061) rfl (by decide) hr1 hr2 dL_law_2031 ?_ ?_
  · intro cc; have H := H.1 cc
    exact (H hx4 hs2)
  · intro cc; have H := H.2 cc
    refine sb_iconst (pc' := 2035) rfl dL_law_2034 ?_
    exact sb_iret rfl (nar_z2 (Or.inl rfl)) dL_law_2035 (H (iR_lit rfl) hs2)
theorem bL_law_2036 {g : AG} {ad : Nat → Nat} {d : Nat} {Q : AO → SG → Prop} {rc rs : Nat} {σ : SG} {x4 : Int} (hL : ag_L g ≤ 3072) (hx4 : iR x4) (hS : SR σ) (H : (0 ≤ x4 + 1 ∧ x4 + 1 < ag_L g) ∧ Cl g ad d mX10_count 0 0 [(.ref (ad 0)), (vi (sx g (x4 + 1)))] σ (Ki fun r2 s2 => Cl g ad d mX11_count 0 0 [(.ref (ad 102)), (vi (sx g (x4 + 1)))] s2 (Ki fun r3 s3 => ((r2 = r3 → (iR x4 → SR s3 → Wb g ad d mL_law Q 2061 [some (.ref (ag_b g)), some (.ref (ad 0)), some (.ref (ad 102)), some (.ref (ad 131)), some (vi x4), none, none] [] s3 rc rs)) ∧ (¬ r2 = r3 → (iR 0 → SR s3 → Q (.inl (some (vi 0))) s3)))))) : Wb g ad d mL_law Q 2036 [some (.ref (ag_b g)), some (.ref (ad 0)), some (.ref (ad 102)), some (.ref (ad 131)), some (vi x4), none, none] [] σ rc rs := by
  refine sb_aload_n (pc' := 2037) rfl rfl dL_law_2036 ?_
  refine sb_aload_n (pc' := 2038) rfl rfl dL_law_2037 ?_
  refine sb_iload (pc' := 2040) rfl rfl dL_law_2038 ?_
  refine sb_iconst (pc' := 2041) rfl dL_law_2040 ?_
  refine sb_iadd (pc' := 2042) rfl dL_law_2041 ?_
  obtain ⟨o1, H⟩ := H
  refine sb_sld (pc' := 2043) rfl o1.1 o1.2 hL dL_law_2042 ?_
  obtain ⟨d2, hd2, H⟩ := H
  refine sb_callV (pc' := 2046) rfl rfl (rc := rc) (rs := rs) (mc' := 0) (ms' := 0) (As := [(vi (sx g (x4 + 1)))]) (st := []) of_0 rfl rfl (Nat.le_of_ble_eq_true rfl) hd2 kX10_count ⟨wd_987, wd_988, wd_989⟩ dL_law_2043 (Eb.mono H ?_)
  rintro o s2 ⟨r2, rfl, hr2, hs2, H⟩
  show Wb g ad d mL_law Q 2046 [some (.ref (ag_b g)), some (.ref (ad 0)), some (.ref (ad 102)), some (.ref (ad 131)), some (vi x4), none, none] [(vi r2)] s2 rc rs
  refine sb_aload_n (pc' := 2047) rfl rfl dL_law_2046 ?_
  refine sb_aload_n (pc' := 2048) rfl rfl dL_law_2047 ?_
  refine sb_iload (pc' := 2050) rfl rfl dL_law_2048 ?_
  refine sb_iconst (pc' := 2051) rfl dL_law_2050 ?_
  refine sb_iadd (pc' := 2052) rfl dL_law_2051 ?_
  refine sb_sld (pc' := 2053) rfl o1.1 o1.2 hL dL_law_2052 ?_
  obtain ⟨d3, hd3, H⟩ := H
  refine sb_callV (pc' := 2056) rfl rfl (rc := rc) (rs := rs) (mc' := 0) (ms' := 0) (As := [(vi (sx g (x4 + 1)))]) (st := [(vi r2)]) of_102 rfl rfl (Nat.le_of_ble_eq_true rfl) hd3 kX11_count ⟨wd_2153, wd_2154, wd_2155⟩ dL_law_2053 (Eb.mono H ?_)
  rintro o s3 ⟨r3, rfl, hr3, hs3, H⟩
  show Wb g ad d mL_law Q 2056 [some (.ref (ag_b g)), some (.ref (ad 0)), some (.ref (ad 102)), some (.ref (ad 131)), some (vi x4), none, none] [(vi r3), (vi r2)] s3 rc rs
  refine sb_icmp_eq (pc' := 2059) (tgt := 2061) rfl (by decide) hr2 hr3 dL_law_2056 ?_ ?_
  · intro cc; have H := H.1 cc
    exact (H hx4 hs3)
  · intro cc; have H := H.2 cc
    refine sb_iconst (pc' := 2060) rfl dL_law_2059 ?_
    exact sb_iret rfl (nar_z2 (Or.inl rfl)) dL_law_2060 (H (iR_lit rfl) hs3)
theorem bL_law_2061 {g : AG} {ad : Nat → Nat} {d : Nat} {Q : AO → SG → Prop} {rc rs : Nat} {σ : SG} {x4 : Int} (hL : ag_L g ≤ 3072) (hx4 : iR x4) (hS : SR σ) (H : iR (x4 + 6) ∧ (iR (x4 + 6) → SR σ → Wb g ad d mL_law Q 23 [some (.ref (ag_b g)), some (.ref (ad 0)), some (.ref (ad 102)), some (.ref (ad 131)), some (vi (x4 + 6)), none, none] [] σ rc rs)) : Wb g ad d mL_law Q 2061 [some (.ref (ag_b g)), some (.ref (ad 0)), some (.ref (ad 102)), some (.ref (ad 131)), some (vi x4), none, none] [] σ rc rs := by
  refine sb_iinc (pc' := 2064) rfl rfl (L' := [some (.ref (ag_b g)), some (.ref (ad 0)), some (.ref (ad 102)), some (.ref (ad 131)), some (vi (x4 + 6)), none, none]) rfl (by decide) dL_law_2061 ?_
  refine sb_goto (tgt := 23) (by decide) dL_law_2064 ?_
  obtain ⟨o1, H⟩ := H
  exact (H o1 hS)
end LW

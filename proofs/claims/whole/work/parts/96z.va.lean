section VAs
variable {g : AG} {ad : Nat → Nat} {d : Nat} {σ : SG} {m m' m0 t : Int → Int} {k : Nat}
/-- the row as it is -/
theorem VA_id (hW : WF m) : VA m m (-1) := ⟨hW, fun _ _ _ _ _ => rfl, fun s o ho _ _ => by
  have : ¬ o = -1 := fun z => by
    rcases ho with y | y
    · omega
    · omega
  rw [decide_eq_true this, Bool.and_true]⟩
theorem va_ops1 (h : VA m m' (-1)) : ops m' = ops m := by
  rw [va_ops h]
  refine List.filter_eq_self.mpr (fun q hq => decide_eq_true (fun z => ?_))
  rcases (ops_mem hq).2.1 with y | y
  · omega
  · omega
theorem OpE.va {i : Int} {q : Op} (h : VA m m' (-1)) (hW : WF m) (ho : isO m q.2) (hs : 0 ≤ q.1) (hE : OpE σ m i q) : OpE σ m' i q := by
  have hfi := va_fi h hW ho hs
  have htb := tgN_b hW.2.1 ho
  refine ⟨hE.st, ?_, ?_, hE.nu, fun j h0 h1 => ?_, ?_, ?_, ?_, ?_⟩
  · rw [va_cov h ho]; exact hE.en
  · rw [va_msk h ho]; exact hE.cv
  · rw [va_tgN h ho] at h1
    rw [va_tgt h ho hs ⟨h0, by omega⟩]
    exact hE.tg j h0 h1
  · rw [va_tgN h ho]; exact hE.tn
  · rw [hfi.1]; exact hE.fi
  · rw [hfi.2]; exact hE.la_
  · rw [va_own h hW ho hs]; exact hE.ow
theorem OPT.va (h : VA m m' (-1)) (hW : WF m) (hO : OPT σ m k) : OPT σ m' k := by
  refine ⟨?_, ?_, hO.kn⟩
  · rw [va_ops1 h]
    refine ⟨hO.l.1, fun i q hq => ?_⟩
    have hm := ops_mem (List.mem_of_getElem? hq)
    exact (hO.l.2 i q hq).va h hW hm.2.1 hm.1.1
  · rw [(va_3 h).2.2.2.1]
    exact hO.pl
theorem KNT.va (h : VA m m' (-1)) (hW : WF m) (hK : KNT σ m) : KNT σ m' := by
  have h3 := va_3 h
  have hv : ∀ c, vC m c → vC m' c := fun c hc => by
    unfold vC at hc ⊢
    rw [va_full h, h3.2.2.2.1, h3.1]
    exact hc
  refine ⟨hK.nb, hK.c0, fun i h0 h1 => ⟨hv _ (hK.vd i h0 h1).1, (hK.vd i h0 h1).2⟩, hK.se, fun i h0 h1 q hq hz => ?_, hK.mo, fun n' h0 h1 => ?_⟩
  · rw [va_ops1 h] at hq
    have hm := ops_mem hq
    rw [va_msk h hm.2.1] at hz
    have := hK.cl i h0 h1 q hq hz
    unfold cdB at this ⊢
    rw [va_msk h hm.2.1, va_cov h hm.2.1, (va_fi h hW hm.2.1 hm.1.1).2]
    exact this
  · rw [h3.2.2.2.1] at h1
    exact hK.fi n' h0 h1
theorem va_optF (h : VA m m' (-1)) (hW : WF m) {a b : Int} (ha : 0 ≤ a ∧ a < m 3) : optF m' a b = optF m a b := by
  unfold optF
  rw [(va_3 h).2.1]
  refine foldl_cong _ _ (fun best o ho => ?_)
  have hoO : isO m o := by
    rcases List.mem_append.mp ho with z | z
    · have := mem_ir.mp z
      exact Or.inr this
    · exact Or.inl (List.mem_singleton.mp z)
  have hne : ¬ o = -1 := fun z => by
    rcases hoO with y | y
    · omega
    · omega
  rw [h.op a o hoO ha.1 ha.2, decide_eq_true hne, Bool.and_true, va_cov h hoO, va_own h hW hoO ha.1]
theorem va_str (h : VA m m' (-1)) (hW : WF m) : ∀ (n : Nat) (a b : Int), (b - a).toNat ≤ n → 0 ≤ a → a ≤ b → b < m 3 → strM m' a b = strM m a b
  | 0, a, b, hn, h0, hab, hb => by
    rw [strM_eq hab, strM_eq hab, show ir a b = [] from ir_nil (by omega)]
    exact va_optF h hW ⟨h0, by omega⟩
  | n + 1, a, b, hn, h0, hab, hb => by
    rw [strM_eq hab, strM_eq hab, va_optF h hW ⟨h0, by omega⟩]
    refine foldl_cong _ _ (fun best c hc => ?_)
    have := mem_ir.mp hc
    rw [va_str h hW n a c (by omega) h0 (by omega) (by omega), va_str h hW n (c + 1) b (by omega) (by omega) (by omega) hb]
theorem va_rnE (h : VA m m' (-1)) (s : Int) : ∀ (n : Nat) (b : Int), rnE m' s n b = rnE m s n b
  | 0, b => rfl
  | n + 1, b => by
    rw [rnE, rnE, (va_3 h).2.2.2.1, va_rnE h s n (b + 1)]
theorem va_rn (h : VA m m' (-1)) (s b : Int) : rnM m' s b = rnM m s b := by
  unfold rnM
  rw [(va_3 h).2.2.2.1]
  exact va_rnE h s _ b
theorem va_ahF (h : VA m m' (-1)) (hW : WF m) (s : Int) : ∀ (n : Nat) (a : Int), 0 ≤ a → ahF m' s n a = ahF m s n a
  | 0, a, _ => rfl
  | n + 1, a, h0 => by
    rw [ahF, ahF, (va_3 h).2.2.2.1, va_rn h]
    by_cases c : m 3 ≤ a
    · rw [if_pos c, if_pos c]
    · have hb := rnE_b (m := m) s (m 3 - 1 - a).toNat a (by omega)
      have hb' : a ≤ rnM m s a ∧ rnM m s a < m 3 := hb
      rw [if_neg c, if_neg c, va_ahF h hW s n (a + 1) (by omega), va_ahF h hW s n (rnM m s a + 1) (by omega), va_str h hW (rnM m s a - a).toNat a (rnM m s a) (Nat.le_refl _) h0 hb'.1 hb'.2]
theorem STR.va (h : VA m m' (-1)) (hW : WF m) (hT : STR σ m) : STR σ m' := by
  refine ⟨fun a b h0 hab hb => ?_, fun c h0 h1 => ?_⟩
  · rw [(va_3 h).2.2.2.1] at hb
    rw [va_str h hW (b - a).toNat a b (Nat.le_refl _) h0 hab hb]
    exact hT.1 a b h0 hab hb
  · rw [va_full h] at h1
    have e : ahM m' c = ahM m c := va_ahF h hW c 7 0 (Int.le_refl _)
    rw [e]
    exact hT.2 c h0 h1
end VAs

section TL
/-- the numbers from a on below b -/
def ir (a b : Int) : List Int := (List.range (b - a).toNat).map (fun k : Nat => a + (k : Int))
theorem ir_nil {a b : Int} (h : b ≤ a) : ir a b = [] := by
  unfold ir
  rw [show (b - a).toNat = 0 by omega]
  rfl
theorem ir_cons {a b : Int} (h : a < b) : ir a b = a :: ir (a + 1) b := by
  unfold ir
  rw [show (b - a).toNat = (b - (a + 1)).toNat + 1 by omega, List.range_succ_eq_map, List.map_cons, List.map_map]
  congr 1
  · simp
  · apply List.map_congr_left
    intro k _
    simp only [Function.comp]
    omega
theorem mem_ir {a b k : Int} : k ∈ ir a b ↔ a ≤ k ∧ k < b := by
  unfold ir
  simp only [List.mem_map, List.mem_range]
  constructor
  · rintro ⟨j, hj, rfl⟩
    omega
  · rintro ⟨h1, h2⟩
    exact ⟨(k - a).toNat, by omega, by omega⟩
theorem ir_snoc {a b : Int} (h : a ≤ b) : ir a (b + 1) = ir a b ++ [b] := by
  unfold ir
  rw [show (b + 1 - a).toNat = (b - a).toNat + 1 by omega, List.range_succ, List.map_append]
  congr 1
  simp only [List.map_cons, List.map_nil]
  congr 1
  omega
theorem ir_length {a b : Int} : (ir a b).length = (b - a).toNat := by
  unfold ir
  simp
/-- a loop upwards -/
theorem up_loop {P : Int → Prop} {hi : Int} (lo : Int) (h : lo ≤ hi) (he : P hi) (hs : ∀ k, lo ≤ k → k < hi → P (k + 1) → P k) : P lo := by
  have : ∀ (n : Nat) (k : Int), lo ≤ k → k + n = hi → P k := by
    intro n
    induction n with
    | zero => intro k _ e; rw [show k = hi by omega]; exact he
    | succ n ih => intro k h1 e; exact hs k h1 (by omega) (ih (k + 1) (by omega) (by omega))
  exact this (hi - lo).toNat lo (by omega) (by omega)
/-- a loop downwards -/
theorem dn_loop {P : Int → Prop} {lo : Int} (hi : Int) (h : lo ≤ hi) (he : P lo) (hs : ∀ k, lo < k → k ≤ hi → P (k - 1) → P k) : P hi := by
  have : ∀ (n : Nat) (k : Int), k ≤ hi → k = lo + n → P k := by
    intro n
    induction n with
    | zero => intro k _ e; rw [show k = lo by omega]; exact he
    | succ n ih => intro k h1 e; exact hs k (by omega) h1 (ih (k - 1) (by omega) (by omega))
  exact this (hi - lo).toNat hi (by omega) (by omega)
/-- all options of a place -/
def soS (m : Int → Int) (s : Int) : List (Int × Int) := (ir 0 (m 1)).map (fun o => (s, o)) ++ [(s, 99)]
def sr (m : Int → Int) (s : Int) : List (Int × Int) := (ir s (m 3)).flatMap (soS m)
def so (m : Int → Int) (s o : Int) : List (Int × Int) := if o = 100 then sr m (s + 1) else (ir o (m 1)).map (fun o => (s, o)) ++ (s, 99) :: sr m (s + 1)
theorem sr_end {m : Int → Int} {s : Int} (h : m 3 ≤ s) : sr m s = [] := by
  unfold sr
  rw [ir_nil h]
  rfl
theorem sr_so {m : Int → Int} (h0 : W0 m) {s : Int} (h : s < m 3) : sr m s = so m s (nxt m (-1)) := by
  have h1 := h0.2.1
  unfold sr
  rw [ir_cons h, List.flatMap_cons]
  show soS m s ++ sr m (s + 1) = _
  unfold so soS nxt
  by_cases c : -1 + 1 < m 1
  · rw [if_pos c, if_neg (by omega), List.append_assoc]
    rfl
  · rw [if_neg c, if_pos (by decide : (-1 : Int) + 1 ≤ 99), if_neg (by decide : ¬ (99 : Int) = 100), ir_nil (by omega : m 1 ≤ 0), ir_nil (by omega : m 1 ≤ 99)]
    rfl
theorem so_100 {m : Int → Int} {s : Int} : so m s 100 = sr m (s + 1) := if_pos rfl
theorem so_cons {m : Int → Int} (h0 : W0 m) {s o : Int} (ho : isO m o) : so m s o = (s, o) :: so m s (nxt m o) := by
  have h1 := h0.2.1
  unfold isO at ho
  unfold so nxt
  rw [if_neg (by omega)]
  by_cases c : o = 99
  · subst c
    rw [if_neg (by omega : ¬ (99 : Int) + 1 < m 1), if_neg (by decide : ¬ (99 : Int) + 1 ≤ 99), if_pos rfl, ir_nil (by omega : m 1 ≤ 99)]
    rfl
  · rw [ir_cons (by omega : o < m 1)]
    by_cases c2 : o + 1 < m 1
    · rw [if_pos c2, if_neg (by omega : ¬ o + 1 = 100)]
      rfl
    · rw [if_neg c2, if_pos (by omega : o + 1 ≤ 99), if_neg (by decide : ¬ (99 : Int) = 100), ir_nil (by omega : m 1 ≤ o + 1), ir_nil (by omega : m 1 ≤ 99)]
      rfl
theorem mem_sr {m : Int → Int} {s : Int} {p : Int × Int} : p ∈ sr m s ↔ (s ≤ p.1 ∧ p.1 < m 3) ∧ isO m p.2 := by
  unfold sr soS isO
  simp only [List.mem_flatMap, mem_ir, List.mem_append, List.mem_map, List.mem_singleton]
  constructor
  · rintro ⟨a, ha, ⟨o, ho, rfl⟩ | rfl⟩
    · exact ⟨ha, Or.inr ho⟩
    · exact ⟨ha, Or.inl rfl⟩
  · rintro ⟨h1, h2⟩
    refine ⟨p.1, h1, ?_⟩
    rcases h2 with h | h
    · exact Or.inr (Prod.ext rfl h)
    · exact Or.inl ⟨p.2, h, rfl⟩
/-- a loop over the options -/
theorem o_loop {m : Int → Int} (h0 : W0 m) {B : Int → Prop} (hE : B 100) (hB : ∀ o, isO m o → B (nxt m o) → B o) : B (nxt m (-1)) := by
  have h1 := h0.2.1
  have key : ∀ k : Nat, (k : Int) ≤ m 1 → B (oAt m k) := by
    intro k
    induction k with
    | zero => intro hk; exact hB _ (oAt_O hk) (by rw [nxt_last h0]; exact hE)
    | succ k ih => intro hk; exact hB _ (oAt_O hk) (by rw [nxt_oAt h0 hk]; exact ih (by omega))
  rw [nxt_first h0]
  exact key _ (by omega)
/-- a loop over all places, over all options -/
theorem so_loop {m : Int → Int} (h0 : W0 m) {A : Int → Prop} {B : Int → Int → Prop} (he : A (m 3)) (hA : ∀ s, 0 ≤ s → s < m 3 → B s (nxt m (-1)) → A s) (hE : ∀ s, 0 ≤ s → s < m 3 → A (s + 1) → B s 100) (hB : ∀ s o, 0 ≤ s → s < m 3 → isO m o → B s (nxt m o) → B s o) : A 0 := by
  have h3 := h0.2.2.2.1
  exact up_loop 0 h3.1 he (fun s hs0 hs1 hn => hA s hs0 hs1 (o_loop h0 (hE s hs0 hs1 hn) (fun o ho hb => hB s o hs0 hs1 ho hb)))
theorem fs_fold {α : Type} {f : α → Int → α} : ∀ (n : Nat) (s : Int) (a : α), fs f n s a = (ir s (s + n)).foldl f a
  | 0, s, a => by rw [ir_nil (by omega)]; rfl
  | n + 1, s, a => by
    rw [fs, fs_fold n (s + 1), ir_cons (a := s) (b := s + ((n + 1 : Nat) : Int)) (by omega), List.foldl_cons, show s + 1 + (n : Int) = s + ((n + 1 : Nat) : Int) by omega]
theorem fo_fold {α : Type} {f : α → Int → α} {m : Int → Int} : ∀ (k : Nat), (k : Int) ≤ m 1 → ∀ a : α, fo f m k a = (ir (m 1 - k) (m 1) ++ [99]).foldl f a
  | 0, hk, a => by rw [ir_nil (by omega)]; rfl
  | k + 1, hk, a => by
    rw [fo, fo_fold k (by omega), ir_cons (a := m 1 - ((k + 1 : Nat) : Int)) (by omega), List.cons_append, List.foldl_cons]
    have e : oAt m (k + 1) = m 1 - ((k + 1 : Nat) : Int) := by
      unfold oAt
      rw [if_neg (by omega)]
    rw [e, show m 1 - ((k + 1 : Nat) : Int) + 1 = m 1 - (k : Int) by omega]
theorem foldl_flat {α β γ : Type} (f : α → γ → α) (g : β → List γ) : ∀ (l : List β) (a : α), (l.flatMap g).foldl f a = l.foldl (fun a b => (g b).foldl f a) a
  | [], a => rfl
  | b :: l, a => by rw [List.flatMap_cons, List.foldl_append, List.foldl_cons, foldl_flat f g l]
theorem fso_fold {α : Type} {m : Int → Int} (h0 : W0 m) {f : α → Int → Int → α} (a : α) : fso m f (m 3).toNat 0 a = (sr m 0).foldl (fun a p => f a p.1 p.2) a := by
  have h1 := h0.2.1
  have h3 := h0.2.2.2.1
  unfold fso sr
  rw [fs_fold, foldl_flat, show (0 : Int) + ((m 3).toNat : Int) = m 3 by omega]
  congr 1
  funext a s
  rw [fo_fold _ (by omega), show m 1 - ((m 1).toNat : Int) = 0 by omega]
  unfold soS
  rw [List.foldl_append, List.foldl_append, List.foldl_map]
  rfl
/-- recursion with a measure -/
def fx {S α : Type} (bot : α) (F : (S → α) → S → α) : Nat → S → α
  | 0 => fun _ => bot
  | n + 1 => F (fx bot F n)
theorem fx_more {S α : Type} {bot : α} {F : (S → α) → S → α} {μ : S → Nat} {D : S → Prop} (hc : ∀ x, D x → ∀ f f', (∀ y, D y → μ y < μ x → f y = f' y) → F f x = F f' x) : ∀ (n : Nat) (x : S), D x → μ x < n → fx bot F (n + 1) x = fx bot F n x
  | 0, x, _, h => by omega
  | n + 1, x, hD, h => hc x hD _ _ (fun y hy hl => fx_more hc n y hy (by omega))
def fxM {S α : Type} (bot : α) (F : (S → α) → S → α) (μ : S → Nat) (x : S) : α := fx bot F (μ x + 1) x
theorem fx_M {S α : Type} {bot : α} {F : (S → α) → S → α} {μ : S → Nat} {D : S → Prop} (hc : ∀ x, D x → ∀ f f', (∀ y, D y → μ y < μ x → f y = f' y) → F f x = F f' x) {x : S} (hD : D x) : ∀ n, μ x < n → fx bot F n x = fxM bot F μ x := by
  intro n h
  induction n with
  | zero => omega
  | succ n ih =>
    by_cases c : μ x < n
    · rw [fx_more hc n x hD c]
      exact ih c
    · rw [show n = μ x by omega]
      rfl
theorem fxM_eq {S α : Type} {bot : α} {F : (S → α) → S → α} {μ : S → Nat} {D : S → Prop} (hc : ∀ x, D x → ∀ f f', (∀ y, D y → μ y < μ x → f y = f' y) → F f x = F f' x) {x : S} (hD : D x) : fxM bot F μ x = F (fxM bot F μ) x :=
  hc x hD _ _ (fun y hy hl => fx_M hc hy _ (by omega))
theorem foldl_cong {α β : Type} {f f' : α → β → α} : ∀ (l : List β) (a : α), (∀ a b, b ∈ l → f a b = f' a b) → l.foldl f a = l.foldl f' a
  | [], a, _ => rfl
  | b :: l, a, h => by
    rw [List.foldl_cons, List.foldl_cons, h a b (List.mem_cons_self ..)]
    exact foldl_cong l _ (fun a c hc => h a c (List.mem_cons_of_mem _ hc))
theorem foldl_inv {α β : Type} {f : α → β → α} {I : α → Prop} : ∀ (l : List β) (a : α), (∀ a b, b ∈ l → I a → I (f a b)) → I a → I (l.foldl f a)
  | [], a, _, ha => ha
  | b :: l, a, h, ha => foldl_inv l (f a b) (fun a c hc => h a c (List.mem_cons_of_mem _ hc)) (h a b (List.mem_cons_self ..) ha)
theorem restM_eq' {m : Int → Int} (hW : WF m) {set place last : Int} (hs : 0 ≤ set ∧ set ≤ 63) : restM m set place last = if set = fullM m then aft m last (-1) else (sr m 0).foldl (fun b p => restS m set place last b p.1 p.2) 1000000000 := by
  rw [restM_eq hW hs, fso_fold hW.1]
end TL
section TT
variable {g : AG} {ad : Nat → Nat} {d : Nat} {M : AM} {as : List Value} {σ σ' : SG} {v : Int}
theorem EI.k {K : Int → SG → Prop} (h : EI g ad (d - 1) M as σ v σ') (hd : 1 ≤ d) (k : iR v → SR σ' → K v σ') : Cl g ad d M 0 0 as σ (Ki K) := h.c (by omega) k
theorem EV.k {K : SG → Prop} (h : EV g ad (d - 1) M as σ σ') (hd : 1 ≤ d) (k : SR σ' → K σ') : Cl g ad d M 0 0 as σ (Kv K) := h.c (by omega) k
theorem iR01 {z : Int} (h : z = 0 ∨ z = 1) : iR z := by rcases h with rfl | rfl <;> exact iR_lit rfl
end TT
section RW
variable {g : AG} {ad : Nat → Nat} {d : Nat} {σ : SG} {m : Int → Int}
/-! the small ones, by the row m -/
theorem w_of {x1 x2 : Int} (em : ia σ 103 = m) (h0 : 0 ≤ 369 + 10 * x1 + x2) (h1 : 369 + 10 * x1 + x2 < 855) (hx1 : iR x1) (hx2 : iR x2) (hS : SR σ) : EI g ad d mX11_of [.ref (ad 102), vi x1, vi x2] σ (of_ m x1 x2) σ := by subst em; exact e_of h0 h1 hx1 hx2 hS
theorem w_isWord {x1 : Int} (em : ia σ 103 = m) (hx1 : iR x1) (hW : W0 m) (hS : SR σ) (hd : 1 ≤ d) : EI g ad d mX11_isWord [.ref (ad 102), vi x1] σ (bi (0 ≤ x1 ∧ x1 < m 0)) σ := by subst em; exact e_isWord hx1 hW hS hd
theorem w_isPhrase {x1 : Int} (em : ia σ 103 = m) (hx1 : iR x1) (hW : W0 m) (hS : SR σ) (hd : 1 ≤ d) : EI g ad d mX11_isPhrase [.ref (ad 102), vi x1] σ (bi (0 ≤ x1 ∧ x1 < m 1)) σ := by subst em; exact e_isPhrase hx1 hW hS hd
theorem w_isPlace {x1 : Int} (em : ia σ 103 = m) (hx1 : iR x1) (hW : W0 m) (hS : SR σ) (hd : 1 ≤ d) : EI g ad d mX11_isPlace [.ref (ad 102), vi x1] σ (bi (0 ≤ x1 ∧ x1 < m 3)) σ := by subst em; exact e_isPlace hx1 hW hS hd
theorem w_full (em : ia σ 103 = m) (hW : W0 m) (hS : SR σ) : EI g ad d mX11_full [.ref (ad 102)] σ (fullM m) σ := by subst em; exact e_full hW hS
theorem w_next {x1 : Int} (em : ia σ 103 = m) (h1 : -1 ≤ x1 ∧ x1 ≤ 99) (hW : W0 m) (hS : SR σ) : EI g ad d mX11_next [.ref (ad 102), vi x1] σ (nxt m x1) σ := by subst em; exact e_next h1 hW hS
theorem w_covers {x1 : Int} (em : ia σ 103 = m) (h1 : isO m x1) (hW : W0 m) (hS : SR σ) (hd : 1 ≤ d) : EI g ad d mX11_covers [.ref (ad 102), vi x1] σ (cov m x1) σ := by subst em; exact e_covers h1 hW hS hd
theorem w_targetMany {x1 : Int} (em : ia σ 103 = m) (h1 : isO m x1) (hW : W0 m) (hS : SR σ) (hd : 1 ≤ d) : EI g ad d mX11_targetMany [.ref (ad 102), vi x1] σ (tgN m x1) σ := by subst em; exact e_targetMany h1 hW hS hd
theorem w_targetOf {x1 x2 x3 : Int} (em : ia σ 103 = m) (h1 : isO m x1) (h2 : 0 ≤ x2 ∧ x2 < 6) (h3 : 0 ≤ x3 ∧ x3 < 3) (hW : W0 m) (hS : SR σ) (hd : 1 ≤ d) : EI g ad d mX11_targetOf [.ref (ad 102), vi x1, vi x2, vi x3] σ (tgt m x1 x2 x3) σ := by subst em; exact e_targetOf h1 h2 h3 hW hS hd
theorem w_pairOf {x1 x2 : Int} (em : ia σ 103 = m) (h1 : iR x1) (h2 : iR x2) (hW : W0 m) (hS : SR σ) : EI g ad d mX11_pairOf [.ref (ad 102), vi x1, vi x2] σ (pairOf m x1 x2) σ := by subst em; exact e_pairOf h1 h2 hW hS
theorem w_after0 {x1 x2 : Int} (em : ia σ 103 = m) (h1 : iR x1) (h2 : iR x2) (hW : W0 m) (hS : SR σ) (hd : 1 ≤ d) : EI g ad d mX11_after0 [.ref (ad 102), vi x1, vi x2] σ (aft m x1 x2) σ := by subst em; exact e_after0 h1 h2 hW hS hd
theorem w_isOption {x1 x2 : Int} (em : ia σ 103 = m) (ho : isO m x1) (h2 : 0 ≤ x2 ∧ x2 < 6) (hW : WF m) (hS : SR σ) (hd : 2 ≤ d) : EI g ad d mX11_isOption [.ref (ad 102), vi x1, vi x2] σ (bi (isOpt m x1 x2 = true)) σ := by subst em; exact e_isOption ho h2 hW hS hd
theorem w_placesOf {x1 : Int} (em : ia σ 103 = m) (ho : isO m x1) (hW : WF m) (hS : SR σ) (hd : 3 ≤ d) : EI g ad d mX11_placesOf [.ref (ad 102), vi x1] σ (placesOf m x1) σ := by subst em; exact e_placesOf ho hW hS hd
theorem w_maskOf {x1 x2 : Int} (em : ia σ 103 = m) (ho : isO m x1) (h2 : 0 ≤ x2 ∧ x2 < 6) (hW : WF m) (hS : SR σ) (hd : 2 ≤ d) : EI g ad d mX11_maskOf [.ref (ad 102), vi x1, vi x2] σ (msk m x1 x2) σ := by subst em; exact e_maskOf ho h2 hW hS hd
theorem w_may {x1 x2 x3 x4 : Int} (em : ia σ 103 = m) (h1 : iR x1) (h2 : 0 ≤ x2 ∧ x2 ≤ 6) (h3 : 0 ≤ x3 ∧ x3 < 6) (ho : isO m x4) (hW : WF m) (hS : SR σ) (hd : 3 ≤ d) : EI g ad d mX11_may [.ref (ad 102), vi x1, vi x2, vi x3, vi x4] σ (bi (mayB m x1 x2 x3 x4 = true)) σ := by subst em; exact e_may h1 h2 h3 ho hW hS hd
theorem w_weighs {x1 x2 x3 x4 : Int} (em : ia σ 103 = m) (h1 : 0 ≤ x1 ∧ x1 ≤ 6) (h2 : iR x2) (h3 : 0 ≤ x3 ∧ x3 < 6) (ho : isO m x4) (hW : WF m) (hS : SR σ) (hd : 2 ≤ d) : EV g ad d mX11_weighs [.ref (ad 102), vi x1, vi x2, vi x3, vi x4] σ (wst σ (weigh m x1 x2 x3 x4).1 (weigh m x1 x2 x3 x4).2) := by subst em; exact e_weighs h1 h2 h3 ho hW hS hd
theorem w_rest {x1 x2 x3 : Int} (em : ia σ 103 = m) (hd : 10 ≤ d) (hs : 0 ≤ x1 ∧ x1 ≤ 63) (hp : 0 ≤ x2 ∧ x2 ≤ 6) (hl : -1 ≤ x3 ∧ x3 < m 0) (hW : WF m) (hS : SR σ) (hL : LV m (ia σ 112)) : Eb g ad d mX11_rest 0 0 [.ref (ad 102), vi x1, vi x2, vi x3] σ (Ki fun r s => r = restM m x1 x2 x3 ∧ LV m (ia s 112) ∧ Fm [112] [22, 23] σ s) := by subst em; exact e_rest 7 (by omega) (by omega) hs hp hl hW hS hL
theorem isO_b {o : Int} (h0 : W0 m) (ho : isO m o) : -1 ≤ o ∧ o ≤ 99 := by
  have h1 := h0.2.1
  unfold isO at ho
  omega
theorem nxt_b {o : Int} (h0 : W0 m) (ho : isO m o) : isO m (nxt m o) ∨ nxt m o = 100 := by
  have h1 := h0.2.1
  unfold isO at *
  unfold nxt
  split
  · omega
  · split <;> omega
end RW

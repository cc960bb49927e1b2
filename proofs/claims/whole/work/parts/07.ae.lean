section AE1
/-- a method: name, bytes, locals, return type, handlers -/
abbrev AM : Type := MethodName × ByteArray × Nat × Option FieldType × List (Nat × Nat × Nat × Nat)
abbrev am_y (M : AM) : MethodName := M.1
abbrev am_c (M : AM) : ByteArray := M.2.1
abbrev am_n (M : AM) : Nat := M.2.2.1
abbrev am_r (M : AM) : Option FieldType := M.2.2.2.1
abbrev am_h (M : AM) : List (Nat × Nat × Nat × Nat) := M.2.2.2.2
/-- what stays the same over the whole run: launch, class numbers, array classes, the law's start, its script, the static arrays -/
abbrev AG : Type := Launch × va_G × (Nat → ClassId) × State × (Nat × Nat × (Nat → Int32)) × (Nat → Nat)
abbrev ag_l (g : AG) : Launch := g.1
abbrev ag_D (g : AG) : va_G := g.2.1
abbrev ag_c (g : AG) : Nat → ClassId := g.2.2.1
abbrev ag_s (g : AG) : State := g.2.2.2.1
abbrev ag_b (g : AG) : Nat := g.2.2.2.2.1.1
abbrev ag_L (g : AG) : Nat := g.2.2.2.2.1.2.1
abbrev ag_x (g : AG) : Nat → Int32 := g.2.2.2.2.1.2.2
abbrev ag_t (g : AG) : Nat → Nat := g.2.2.2.2.2
def ae_A (g : AG) : Nat → Prop := fun q => (ag_s g).heap.size ≤ q
abbrev ae_ty (g : AG) : List (ClassId × FieldType) := [(ag_c g 0, .int), (ag_c g 1, .long), (ag_c g 2, .boolean), (ag_c g 3, .array .int)]
/-- how a method ends: with a value, or with an exception of a class -/
abbrev AO : Type := Option Value ⊕ String
def ae_lst (k : Nat) : Int32 := if k = 4 then 1 else 0
def ae_mst (k : Nat) : Int32 := if k = 0 then 99 else if k = 1 then 99 else if k = 2 then 20 else if k = 3 then 6 else 40
def ae_strs : List (Nat × String) := [(145, "there would be too many phrases"), (195, "a phrase has no such number"), (219, "no such cost"), (225, "another phrase of the same words is there"), (227, "no such thing to tune"), (235, "out of its bounds"), (246, "the second place is less"), (259, "a way has no such number"), (271, "a step has no such number"), (288, "the stacks have no such number"), (313, "there is no such stack"), (316, "a stack has no such number"), (341, "no such length of rows"), (347, "no such number of ways"), (396, "there is no such word"), (398, "there is no such phrase"), (400, "there is no such place"), (402, "no such number of a way"), (404, "the text is wrong")]
def ae_ncs : List (String × String) := [("java/lang/IllegalArgumentException", "java/lang/IndexOutOfBoundsException"), ("java/lang/IllegalArgumentException", "java/util/NoSuchElementException"), ("java/util/NoSuchElementException", "java/lang/IndexOutOfBoundsException"), ("java/lang/UnsupportedOperationException", "java/lang/IllegalArgumentException")]
/-- what holds at the law's start -/
def ae_G (g : AG) : Prop := (ag_l g).stackTraces = false ∧ va_K (ag_D g) vwCl (ae_ty g) (ag_s g) ∧ (∀ w ∈ lw_tbl, w.before #[Value.ref (ag_b g)] (ag_s g) = true) ∧
  (va_X (ag_b g) (ag_L g) (ag_x g) (ag_s g) (ag_s g).heap ∧ ag_b g < (ag_s g).heap.size) ∧
  ((va_Z RX10 "SETTING_LEAST" "[I" (.ref (ag_t g 0)) (ae_A g) (ag_s g) (ag_s g).heap ∧ va_X (ag_t g 0) 5 ae_lst (ag_s g) (ag_s g).heap ∧ ag_t g 0 < (ag_s g).heap.size) ∧ (va_Z RX10 "SETTING_MOST" "[I" (.ref (ag_t g 1)) (ae_A g) (ag_s g) (ag_s g).heap ∧ va_X (ag_t g 1) 5 ae_mst (ag_s g) (ag_s g).heap ∧ ag_t g 1 < (ag_s g).heap.size)) ∧
  (vx_Zq Bundle.tN "UNASSIGNED_STACK" Bundle.steD (ae_A g) (ag_s g) (ag_s g).heap ∧ vx_Zq Bundle.tN "SUPPRESSED_SENTINEL" Bundle.listD (ae_A g) (ag_s g) (ag_s g).heap) ∧
  (∀ q ∈ ae_strs, ∃ sa, vk_R RX10 q.1 q.2 sa (ag_s g)) ∧ (∀ q ∈ ae_ncs, va_Nc q.1 q.2 (ag_s g))
/-- what holds at every later state: warmer tables, the old cells as they were -/
def ae_I (g : AG) (U : State) : Prop := (ag_s g).WarmedH U.vm ∧ (ag_s g).heap.size ≤ U.heap.size ∧ ∀ q : Nat, q < (ag_s g).heap.size → U.heap[q]? = (ag_s g).heap[q]?
theorem ae_w {g : AG} {U : State} {args : Array Value} {w : Cond} (G : ae_G g) (I : ae_I g U) (hw : w ∈ lw_tbl) (hg : goodWord w = true) : w.before args U = true := word_at I.1 (good_of_word hg) (G.2.2.1 w hw)
theorem ae_K {g : AG} {U : State} (G : ae_G g) (I : ae_I g U) : va_K (ag_D g) vwCl (ae_ty g) U := va_K.moved I.1.alike G.2.1
theorem ae_nf {g : AG} {U : State} {args : Array Value} {a : String} {i : Nat} {b n d h : String} (G : ae_G g) (I : ae_I g U) (hw : Cond.fieldLinkNest a i b n d h ∈ lw_tbl) : (Cond.fieldLinkNest a i b n d h).before args U = true := (va_Nw.warmF I.1 (va_Nw.of rfl (G.2.2.1 _ hw))).use rfl
theorem ae_nm {g : AG} {U : State} {args : Array Value} {a : String} {i : Nat} {x : MethodName} {h : String} (G : ae_G g) (I : ae_I g U) (hw : Cond.methodLinkNest a i x h ∈ lw_tbl) : (Cond.methodLinkNest a i x h).before args U = true := (va_Nw.warmM I.1 (va_Nw.of rfl (G.2.2.1 _ hw))).use rfl
/-- the old cells, seen from a later heap -/
theorem ae_old {g : AG} {s : State} {H : Heap} {locs : List Loc} (I : ae_I g s) (hS : va_S (ae_A g) s.heap H locs) {q : Nat} (hq : q < (ag_s g).heap.size) : H[q]? = (ag_s g).heap[q]? := (hS.2.1 q (Nat.lt_of_lt_of_le hq I.2.1) (Nat.not_le.mpr hq)).trans (I.2.2 q hq)
theorem ae_next {g : AG} {s U : State} {H : Heap} {locs : List Loc} (I : ae_I g s) (hS : va_S (ae_A g) s.heap H locs) (hU : U.heap = H) (hW : s.WarmedH U.vm) : ae_I g U := ⟨State.WarmedH.trans I.1 hW, by rw [hU]; exact Nat.le_trans I.2.1 hS.1, fun q hq => by rw [hU]; exact ae_old I hS hq⟩
/-- the listed values of a row of locals -/
def al : Nat → List (Option Value) → List (Nat × Value)
  | _, [] => []
  | i, none :: r => al (i + 1) r
  | i, some v :: r => (i, v) :: al (i + 1) r
theorem al_mem {j : Nat} {w : Value} : ∀ {L : List (Option Value)} {i : Nat}, (j, w) ∈ al i L ↔ ∃ k, j = i + k ∧ L[k]? = some (some w)
  | [], i => by simp [al]
  | none :: r, i => by
    rw [al, al_mem]
    constructor
    · rintro ⟨k, rfl, h⟩; exact ⟨k + 1, by omega, by simpa using h⟩
    · rintro ⟨k, rfl, h⟩
      cases k with
      | zero => simp at h
      | succ k => exact ⟨k, by omega, by simpa using h⟩
  | some v :: r, i => by
    rw [al, List.mem_cons, al_mem]
    constructor
    · rintro (h | ⟨k, rfl, h⟩)
      · cases h; exact ⟨0, rfl, rfl⟩
      · exact ⟨k + 1, by omega, by simpa using h⟩
    · rintro ⟨k, rfl, h⟩
      cases k with
      | zero => left; simp at h; simp [h]
      | succ k => right; exact ⟨k, by omega, by simpa using h⟩
theorem al_mem0 {j : Nat} {w : Value} {L : List (Option Value)} : (j, w) ∈ al 0 L ↔ L[j]? = some (some w) := by
  rw [al_mem]
  constructor
  · rintro ⟨k, rfl, h⟩; simpa using h
  · intro h; exact ⟨j, by omega, h⟩
def clr (L : List (Option Value)) (i : Nat) : List (Option Value) := match i with
  | 0 => L
  | k + 1 => match L[k]? with
    | some (some v) => if v.category = 2 then L.set k none else L
    | _ => L
def sto1 (L : List (Option Value)) (i : Nat) (v : Value) : List (Option Value) := (clr L i).set i (some v)
def sto2 (L : List (Option Value)) (i : Nat) (v : Value) : List (Option Value) := ((clr L i).set i (some v)).set (i + 1) none
/-- a local is forgotten -/
def stoN (L : List (Option Value)) (i : Nat) : List (Option Value) := (clr L i).set i none
theorem clr_at {L : List (Option Value)} {i j : Nat} {w : Value} (h : (clr L i)[j]? = some (some w)) : L[j]? = some (some w) ∧ (j + 1 = i → w.category ≠ 2) := by
  cases i with
  | zero => exact ⟨h, fun e => by omega⟩
  | succ k =>
    unfold clr at h
    dsimp only at h
    split at h
    · rename_i v hv
      split at h
      · by_cases hj : k = j
        · subst hj
          rw [List.getElem?_set_self (List.getElem?_eq_some_iff.mp hv).1] at h
          cases h
        · rw [List.getElem?_set_ne hj] at h
          exact ⟨h, fun e => by omega⟩
      · rename_i hc
        refine ⟨h, fun e => ?_⟩
        have : j = k := by omega
        subst this
        rw [hv] at h
        cases h
        exact hc
    · rename_i hn
      refine ⟨h, fun e => ?_⟩
      have : j = k := by omega
      subst this
      exact absurd h (hn w)
theorem sto1_has {ls : Array Slot} {n i : Nat} {v : Value} {L : List (Option Value)} (h : lv_has ls n ((i, v) :: (al 0 L).filter (fun q => !(q.1 == i) && !(q.1 + 1 == i && q.2.category == 2)))) : lv_has ls n (al 0 (sto1 L i v)) := by
  refine ⟨h.1, h.2.1, fun q hq => h.2.2 q ?_⟩
  obtain ⟨j, w⟩ := q
  rw [al_mem0] at hq
  by_cases hj : i = j
  · subst hj
    unfold sto1 at hq
    rw [List.getElem?_set] at hq
    simp at hq
    simp [hq]
  · unfold sto1 at hq
    rw [List.getElem?_set_ne hj] at hq
    obtain ⟨h1, h2⟩ := clr_at hq
    refine List.mem_cons_of_mem _ (List.mem_filter.mpr ⟨al_mem0.mpr h1, ?_⟩)
    have : j ≠ i := fun e => hj e.symm
    simp [this]
    by_cases he : j + 1 = i
    · exact Or.inr (h2 he)
    · exact Or.inl he
theorem stoN_has {ls : Array Slot} {n i : Nat} {v : Value} {L : List (Option Value)} (h : lv_has ls n ((i, v) :: (al 0 L).filter (fun q => !(q.1 == i) && !(q.1 + 1 == i && q.2.category == 2)))) : lv_has ls n (al 0 (stoN L i)) := by
  refine ⟨h.1, h.2.1, fun q hq => h.2.2 q ?_⟩
  obtain ⟨j, w⟩ := q
  rw [al_mem0] at hq
  by_cases hj : i = j
  · subst hj
    unfold stoN at hq
    rw [List.getElem?_set] at hq
    simp at hq
  · unfold stoN at hq
    rw [List.getElem?_set_ne hj] at hq
    obtain ⟨h1, h2⟩ := clr_at hq
    refine List.mem_cons_of_mem _ (List.mem_filter.mpr ⟨al_mem0.mpr h1, ?_⟩)
    have : j ≠ i := fun e => hj e.symm
    simp [this]
    by_cases he : j + 1 = i
    · exact Or.inr (h2 he)
    · exact Or.inl he
theorem sto2_has {ls : Array Slot} {n i : Nat} {v : Value} {L : List (Option Value)} (h : lv_has ls n ((i, v) :: (al 0 L).filter (fun q => !(q.1 == i) && (!(q.1 == i + 1) && !(q.1 + 1 == i && q.2.category == 2))))) : lv_has ls n (al 0 (sto2 L i v)) := by
  refine ⟨h.1, h.2.1, fun q hq => h.2.2 q ?_⟩
  obtain ⟨j, w⟩ := q
  rw [al_mem0] at hq
  unfold sto2 at hq
  by_cases hk : i + 1 = j
  · subst hk
    rw [List.getElem?_set] at hq
    simp at hq
  · rw [List.getElem?_set_ne hk] at hq
    by_cases hj : i = j
    · subst hj
      rw [List.getElem?_set] at hq
      simp at hq
      simp [hq]
    · rw [List.getElem?_set_ne hj] at hq
      obtain ⟨h1, h2⟩ := clr_at hq
      refine List.mem_cons_of_mem _ (List.mem_filter.mpr ⟨al_mem0.mpr h1, ?_⟩)
      have e1 : j ≠ i := fun e => hj e.symm
      have e2 : j ≠ i + 1 := fun e => hk e.symm
      simp [e1, e2]
      by_cases he : j + 1 = i
      · exact Or.inr (h2 he)
      · exact Or.inl he
theorem al_at {ls : Array Slot} {n i : Nat} {v : Value} {L : List (Option Value)} (h : lv_has ls n (al 0 L)) (hi : L[i]? = some (some v)) : ls[i]? = some (.val v) := h.2.2 (i, v) (al_mem0.mpr hi)
/-- the locals at a method's entry -/
def ent : List Value → List (Option Value)
  | [] => []
  | v :: r => if v.category = 2 then some v :: none :: ent r else some v :: ent r
def entL (as : List Value) (n : Nat) : List (Option Value) := ent as ++ List.replicate (n - (ent as).length) none
theorem al_ent : ∀ (as : List Value) (i : Nat), al i (ent as) = lv_args i as
  | [], i => rfl
  | v :: r, i => by
    unfold ent lv_args
    split
    · rw [al, al, al_ent r]
    · rw [al, al_ent r]
theorem al_app {L : List (Option Value)} {k i : Nat} : al i (L ++ List.replicate k none) = al i L := by
  induction L generalizing i with
  | nil =>
    induction k generalizing i with
    | zero => rfl
    | succ k ih => rw [List.replicate_succ]; exact ih
  | cons a r ih => cases a <;> simp [al, ih]
theorem ent_len : ∀ as : List Value, (lg_sl as).length = (ent as).length
  | [] => rfl
  | v :: r => by
    have ih := ent_len r
    have e1 : lg_sl (v :: r) = (if v.category = 2 then [.val v, .second] else [.val v]) ++ lg_sl r := List.flatMap_cons
    have e2 : ent (v :: r) = if v.category = 2 then some v :: none :: ent r else some v :: ent r := rfl
    rw [e1, e2, List.length_append, ih]
    by_cases hv : v.category = 2
    · rw [if_pos hv, if_pos hv]
      simp only [List.length_cons, List.length_nil]
      omega
    · rw [if_neg hv, if_neg hv]
      simp only [List.length_cons, List.length_nil]
      omega
/-- the frame's surroundings -/
abbrev AX : Type := Program × Env × State × MethodId × Array Value × List Frame × Method × Code × Nat × Nat
def ae_R (d mc ms : Nat) : Room := { frames := d, cells := mc, slots := ms, locals := 48 * d }
def ae_C (g : AG) (d : Nat) (M : AM) (X : AX) : Prop := match X with
  | (p, _, s, m, _, _, meth, c, _, _) => ae_G g ∧ ae_I g s ∧ p.tables.exec = Jvm.exec ∧ c.code = am_c M ∧ c.maxLocals = am_n M ∧ s.vm.findClass (am_y M).cls = some m.cls ∧ meth.sig.returnType = am_r M ∧ meth.locks = false ∧ meth.name = (am_y M).name ∧ c.exceptionTable.toList = tableOf (am_h M)
def ae_Qc (g : AG) (Q : AO → va_W → Prop) : Array Value → State → Outcome → State → Prop := fun _ st o t => (∃ (v : Option Value) (ws : va_W), o = .returned v ∧ Q (.inl v) ws ∧ va_P (ag_D g) vwCl ws t.heap ∧ va_D (ae_A g) ws) ∧ va_F (ae_A g) st t
def ae_XC (g : AG) (Q : AO → va_W → Prop) : String → State → State → Prop := fun E st t => (∃ ws : va_W, Q (.inr E) ws ∧ va_P (ag_D g) vwCl ws t.heap ∧ va_D (ae_A g) ws) ∧ va_F (ae_A g) st t
def ae_Pc (g : AG) (as : List Value) (ws : va_W) : Array Value → State → Prop := fun v U => v = as.toArray ∧ ae_I g U ∧ va_P (ag_D g) vwCl ws U.heap ∧ va_D (ae_A g) ws
/-- the machine, in the frame X, at this frame and heap, comes to the method's end with Q -/
def WX (g : AG) (d : Nat) (Q : AO → va_W → Prop) (X : AX) (H : Heap) (locs : List Loc) (cells slots : Nat) (f : JFrame) : Prop := match X with
  | (p, e, s, m, args, below, meth, c, mc, ms) => W p (ag_l g) e (ae_R d mc ms) s m args below meth c H locs cells slots (vx_MQ below (ae_Qc g Q) (ae_XC g Q) args s mc ms (ae_A g)) f
/-- AT pc, locals L, stack st, world ws, room for rc cells of rs slots: the method ends with Q -/
def Wp (g : AG) (d : Nat) (M : AM) (Q : AO → va_W → Prop) (pc : Nat) (L : List (Option Value)) (st : List Value) (ws : va_W) (rc rs : Nat) : Prop :=
  ∀ (p : Program) (e : Env) (s : State) (m : MethodId) (args : Array Value) (below : List Frame) (meth : Method) (c : Code) (mc ms : Nat), ae_C g d M (p, e, s, m, args, below, meth, c, mc, ms) →
  ∀ (H : Heap) (locs : List Loc) (cells slots : Nat) (ls : Array Slot), lv_has ls (am_n M) (al 0 L) → va_P (ag_D g) vwCl ws H → va_D (ae_A g) ws → va_S (ae_A g) s.heap H locs → cells + rc ≤ mc → slots + rs ≤ ms →
  W p (ag_l g) e (ae_R d mc ms) s m args below meth c H locs cells slots (vx_MQ below (ae_Qc g Q) (ae_XC g Q) args s mc ms (ae_A g)) (F0 m pc ls st)
/-- a call of M with these arguments in this world ends with Q -/
def am_w (M : AM) : Cond := match am_h M with
  | [] => .code (am_y M) (am_c M) (am_n M) (am_r M)
  | hh => .codeWith (am_y M) (am_c M) (am_n M) (am_r M) hh
def Ev (g : AG) (d : Nat) (M : AM) (mc ms : Nat) (as : List Value) (ws : va_W) (Q : AO → va_W → Prop) : Prop :=
  ae_G g → vx_Met (ag_l g) (am_y M) [am_w M] (ae_R d mc ms) (ae_Pc g as ws) (ae_Qc g Q) (ae_XC g Q) mc ms (ae_A g)
theorem ae_blind {g : AG} {as : List Value} {ws : va_W} : FrameBlind (ae_Pc g as ws) := fun _ _ _ _ h => h

theorem st_iadd {g : AG} {d : Nat} {M : AM} {Q : AO → va_W → Prop} {pc : Nat} {L : List (Option Value)} {st : List Value} {ws : va_W} {rc rs : Nat} {pc' : Nat} (hp : pc + 1 = pc') {x y : Int32} (dd : decode (am_c M) pc = .ok (.iadd, 1)) (kk : Wp g d M Q pc' L (.int (x + y) :: st) ws rc rs) : Wp g d M Q pc L (.int y :: .int x :: st) ws rc rs := by
  intro p e s m args below meth c mc ms C H locs cells slots ls hl hP hD hS hc hs
  obtain ⟨G, I, hx, hb, hml, hown, hr, hlk, hnm, htb⟩ := C
  subst hp
  exact lv_iadd hx hb dd (kk p e s m args below meth c mc ms ⟨G, I, hx, hb, hml, hown, hr, hlk, hnm, htb⟩ H locs cells slots ls hl hP hD hS hc hs)
theorem st_isub {g : AG} {d : Nat} {M : AM} {Q : AO → va_W → Prop} {pc : Nat} {L : List (Option Value)} {st : List Value} {ws : va_W} {rc rs : Nat} {pc' : Nat} (hp : pc + 1 = pc') {x y : Int32} (dd : decode (am_c M) pc = .ok (.isub, 1)) (kk : Wp g d M Q pc' L (.int (x - y) :: st) ws rc rs) : Wp g d M Q pc L (.int y :: .int x :: st) ws rc rs := by
  intro p e s m args below meth c mc ms C H locs cells slots ls hl hP hD hS hc hs
  obtain ⟨G, I, hx, hb, hml, hown, hr, hlk, hnm, htb⟩ := C
  subst hp
  exact lv_isub hx hb dd (kk p e s m args below meth c mc ms ⟨G, I, hx, hb, hml, hown, hr, hlk, hnm, htb⟩ H locs cells slots ls hl hP hD hS hc hs)
theorem st_imul {g : AG} {d : Nat} {M : AM} {Q : AO → va_W → Prop} {pc : Nat} {L : List (Option Value)} {st : List Value} {ws : va_W} {rc rs : Nat} {pc' : Nat} (hp : pc + 1 = pc') {x y : Int32} (dd : decode (am_c M) pc = .ok (.imul, 1)) (kk : Wp g d M Q pc' L (.int (x * y) :: st) ws rc rs) : Wp g d M Q pc L (.int y :: .int x :: st) ws rc rs := by
  intro p e s m args below meth c mc ms C H locs cells slots ls hl hP hD hS hc hs
  obtain ⟨G, I, hx, hb, hml, hown, hr, hlk, hnm, htb⟩ := C
  subst hp
  exact lv_imul hx hb dd (kk p e s m args below meth c mc ms ⟨G, I, hx, hb, hml, hown, hr, hlk, hnm, htb⟩ H locs cells slots ls hl hP hD hS hc hs)
theorem st_iand {g : AG} {d : Nat} {M : AM} {Q : AO → va_W → Prop} {pc : Nat} {L : List (Option Value)} {st : List Value} {ws : va_W} {rc rs : Nat} {pc' : Nat} (hp : pc + 1 = pc') {x y : Int32} (dd : decode (am_c M) pc = .ok (.iand, 1)) (kk : Wp g d M Q pc' L (.int (x &&& y) :: st) ws rc rs) : Wp g d M Q pc L (.int y :: .int x :: st) ws rc rs := by
  intro p e s m args below meth c mc ms C H locs cells slots ls hl hP hD hS hc hs
  obtain ⟨G, I, hx, hb, hml, hown, hr, hlk, hnm, htb⟩ := C
  subst hp
  exact lv_iand hx hb dd (kk p e s m args below meth c mc ms ⟨G, I, hx, hb, hml, hown, hr, hlk, hnm, htb⟩ H locs cells slots ls hl hP hD hS hc hs)
theorem st_ior {g : AG} {d : Nat} {M : AM} {Q : AO → va_W → Prop} {pc : Nat} {L : List (Option Value)} {st : List Value} {ws : va_W} {rc rs : Nat} {pc' : Nat} (hp : pc + 1 = pc') {x y : Int32} (dd : decode (am_c M) pc = .ok (.ior, 1)) (kk : Wp g d M Q pc' L (.int (x ||| y) :: st) ws rc rs) : Wp g d M Q pc L (.int y :: .int x :: st) ws rc rs := by
  intro p e s m args below meth c mc ms C H locs cells slots ls hl hP hD hS hc hs
  obtain ⟨G, I, hx, hb, hml, hown, hr, hlk, hnm, htb⟩ := C
  subst hp
  exact lv_ior hx hb dd (kk p e s m args below meth c mc ms ⟨G, I, hx, hb, hml, hown, hr, hlk, hnm, htb⟩ H locs cells slots ls hl hP hD hS hc hs)
theorem st_ixor {g : AG} {d : Nat} {M : AM} {Q : AO → va_W → Prop} {pc : Nat} {L : List (Option Value)} {st : List Value} {ws : va_W} {rc rs : Nat} {pc' : Nat} (hp : pc + 1 = pc') {x y : Int32} (dd : decode (am_c M) pc = .ok (.ixor, 1)) (kk : Wp g d M Q pc' L (.int (x ^^^ y) :: st) ws rc rs) : Wp g d M Q pc L (.int y :: .int x :: st) ws rc rs := by
  intro p e s m args below meth c mc ms C H locs cells slots ls hl hP hD hS hc hs
  obtain ⟨G, I, hx, hb, hml, hown, hr, hlk, hnm, htb⟩ := C
  subst hp
  exact lv_ixor hx hb dd (kk p e s m args below meth c mc ms ⟨G, I, hx, hb, hml, hown, hr, hlk, hnm, htb⟩ H locs cells slots ls hl hP hD hS hc hs)
theorem st_ishl {g : AG} {d : Nat} {M : AM} {Q : AO → va_W → Prop} {pc : Nat} {L : List (Option Value)} {st : List Value} {ws : va_W} {rc rs : Nat} {pc' : Nat} (hp : pc + 1 = pc') {x y : Int32} (dd : decode (am_c M) pc = .ok (.ishl, 1)) (kk : Wp g d M Q pc' L (.int (x <<< (y &&& 31)) :: st) ws rc rs) : Wp g d M Q pc L (.int y :: .int x :: st) ws rc rs := by
  intro p e s m args below meth c mc ms C H locs cells slots ls hl hP hD hS hc hs
  obtain ⟨G, I, hx, hb, hml, hown, hr, hlk, hnm, htb⟩ := C
  subst hp
  exact lv_ishl hx hb dd (kk p e s m args below meth c mc ms ⟨G, I, hx, hb, hml, hown, hr, hlk, hnm, htb⟩ H locs cells slots ls hl hP hD hS hc hs)
theorem st_ishr {g : AG} {d : Nat} {M : AM} {Q : AO → va_W → Prop} {pc : Nat} {L : List (Option Value)} {st : List Value} {ws : va_W} {rc rs : Nat} {pc' : Nat} (hp : pc + 1 = pc') {x y : Int32} (dd : decode (am_c M) pc = .ok (.ishr, 1)) (kk : Wp g d M Q pc' L (.int (x >>> (y &&& 31)) :: st) ws rc rs) : Wp g d M Q pc L (.int y :: .int x :: st) ws rc rs := by
  intro p e s m args below meth c mc ms C H locs cells slots ls hl hP hD hS hc hs
  obtain ⟨G, I, hx, hb, hml, hown, hr, hlk, hnm, htb⟩ := C
  subst hp
  exact lv_ishr hx hb dd (kk p e s m args below meth c mc ms ⟨G, I, hx, hb, hml, hown, hr, hlk, hnm, htb⟩ H locs cells slots ls hl hP hD hS hc hs)
theorem st_idiv {g : AG} {d : Nat} {M : AM} {Q : AO → va_W → Prop} {pc : Nat} {L : List (Option Value)} {st : List Value} {ws : va_W} {rc rs : Nat} {pc' : Nat} (hp : pc + 1 = pc') {x y : Int32} (hne : ¬ y = 0) (dd : decode (am_c M) pc = .ok (.idiv, 1)) (kk : Wp g d M Q pc' L (.int (x / y) :: st) ws rc rs) : Wp g d M Q pc L (.int y :: .int x :: st) ws rc rs := by
  intro p e s m args below meth c mc ms C H locs cells slots ls hl hP hD hS hc hs
  obtain ⟨G, I, hx, hb, hml, hown, hr, hlk, hnm, htb⟩ := C
  subst hp
  exact lv_idiv hx hb dd hne (kk p e s m args below meth c mc ms ⟨G, I, hx, hb, hml, hown, hr, hlk, hnm, htb⟩ H locs cells slots ls hl hP hD hS hc hs)
theorem st_irem {g : AG} {d : Nat} {M : AM} {Q : AO → va_W → Prop} {pc : Nat} {L : List (Option Value)} {st : List Value} {ws : va_W} {rc rs : Nat} {pc' : Nat} (hp : pc + 1 = pc') {x y : Int32} (hne : ¬ y = 0) (dd : decode (am_c M) pc = .ok (.irem, 1)) (kk : Wp g d M Q pc' L (.int (x - x / y * y) :: st) ws rc rs) : Wp g d M Q pc L (.int y :: .int x :: st) ws rc rs := by
  intro p e s m args below meth c mc ms C H locs cells slots ls hl hP hD hS hc hs
  obtain ⟨G, I, hx, hb, hml, hown, hr, hlk, hnm, htb⟩ := C
  subst hp
  exact lv_irem hx hb dd hne (kk p e s m args below meth c mc ms ⟨G, I, hx, hb, hml, hown, hr, hlk, hnm, htb⟩ H locs cells slots ls hl hP hD hS hc hs)
theorem st_iushr {g : AG} {d : Nat} {M : AM} {Q : AO → va_W → Prop} {pc : Nat} {L : List (Option Value)} {st : List Value} {ws : va_W} {rc rs : Nat} {pc' : Nat} (hp : pc + 1 = pc') {x y : Int32} (dd : decode (am_c M) pc = .ok (.iushr, 1)) (kk : Wp g d M Q pc' L (.int ((x.toUInt32 >>> (y.toUInt32 &&& Int32.toUInt32 31)).toInt32) :: st) ws rc rs) : Wp g d M Q pc L (.int y :: .int x :: st) ws rc rs := by
  intro p e s m args below meth c mc ms C H locs cells slots ls hl hP hD hS hc hs
  obtain ⟨G, I, hx, hb, hml, hown, hr, hlk, hnm, htb⟩ := C
  subst hp
  exact lv_iushr hx hb dd rfl (kk p e s m args below meth c mc ms ⟨G, I, hx, hb, hml, hown, hr, hlk, hnm, htb⟩ H locs cells slots ls hl hP hD hS hc hs)
theorem st_ladd {g : AG} {d : Nat} {M : AM} {Q : AO → va_W → Prop} {pc : Nat} {L : List (Option Value)} {st : List Value} {ws : va_W} {rc rs : Nat} {pc' : Nat} (hp : pc + 1 = pc') {x y : Int64} (dd : decode (am_c M) pc = .ok (.ladd, 1)) (kk : Wp g d M Q pc' L (.long (x + y) :: st) ws rc rs) : Wp g d M Q pc L (.long y :: .long x :: st) ws rc rs := by
  intro p e s m args below meth c mc ms C H locs cells slots ls hl hP hD hS hc hs
  obtain ⟨G, I, hx, hb, hml, hown, hr, hlk, hnm, htb⟩ := C
  subst hp
  exact lv_ladd hx hb dd (kk p e s m args below meth c mc ms ⟨G, I, hx, hb, hml, hown, hr, hlk, hnm, htb⟩ H locs cells slots ls hl hP hD hS hc hs)
theorem st_land {g : AG} {d : Nat} {M : AM} {Q : AO → va_W → Prop} {pc : Nat} {L : List (Option Value)} {st : List Value} {ws : va_W} {rc rs : Nat} {pc' : Nat} (hp : pc + 1 = pc') {x y : Int64} (dd : decode (am_c M) pc = .ok (.land, 1)) (kk : Wp g d M Q pc' L (.long (x &&& y) :: st) ws rc rs) : Wp g d M Q pc L (.long y :: .long x :: st) ws rc rs := by
  intro p e s m args below meth c mc ms C H locs cells slots ls hl hP hD hS hc hs
  obtain ⟨G, I, hx, hb, hml, hown, hr, hlk, hnm, htb⟩ := C
  subst hp
  exact lv_land hx hb dd (kk p e s m args below meth c mc ms ⟨G, I, hx, hb, hml, hown, hr, hlk, hnm, htb⟩ H locs cells slots ls hl hP hD hS hc hs)
theorem st_lor {g : AG} {d : Nat} {M : AM} {Q : AO → va_W → Prop} {pc : Nat} {L : List (Option Value)} {st : List Value} {ws : va_W} {rc rs : Nat} {pc' : Nat} (hp : pc + 1 = pc') {x y : Int64} (dd : decode (am_c M) pc = .ok (.lor, 1)) (kk : Wp g d M Q pc' L (.long (x ||| y) :: st) ws rc rs) : Wp g d M Q pc L (.long y :: .long x :: st) ws rc rs := by
  intro p e s m args below meth c mc ms C H locs cells slots ls hl hP hD hS hc hs
  obtain ⟨G, I, hx, hb, hml, hown, hr, hlk, hnm, htb⟩ := C
  subst hp
  exact lv_lor hx hb dd (kk p e s m args below meth c mc ms ⟨G, I, hx, hb, hml, hown, hr, hlk, hnm, htb⟩ H locs cells slots ls hl hP hD hS hc hs)
theorem st_lushr {g : AG} {d : Nat} {M : AM} {Q : AO → va_W → Prop} {pc : Nat} {L : List (Option Value)} {st : List Value} {ws : va_W} {rc rs : Nat} {pc' : Nat} (hp : pc + 1 = pc') {x : Int64} {y : Int32} (dd : decode (am_c M) pc = .ok (.lushr, 1)) (kk : Wp g d M Q pc' L (.long ((x.toUInt64 >>> (y.toInt64.toUInt64 &&& Int64.toUInt64 63)).toInt64) :: st) ws rc rs) : Wp g d M Q pc L (.int y :: .long x :: st) ws rc rs := by
  intro p e s m args below meth c mc ms C H locs cells slots ls hl hP hD hS hc hs
  obtain ⟨G, I, hx, hb, hml, hown, hr, hlk, hnm, htb⟩ := C
  subst hp
  exact lv_lushr hx hb dd rfl (kk p e s m args below meth c mc ms ⟨G, I, hx, hb, hml, hown, hr, hlk, hnm, htb⟩ H locs cells slots ls hl hP hD hS hc hs)
theorem st_lshl {g : AG} {d : Nat} {M : AM} {Q : AO → va_W → Prop} {pc : Nat} {L : List (Option Value)} {st : List Value} {ws : va_W} {rc rs : Nat} {pc' : Nat} (hp : pc + 1 = pc') {x : Int64} {y : Int32} (dd : decode (am_c M) pc = .ok (.lshl, 1)) (kk : Wp g d M Q pc' L (.long (x <<< (y.toInt64 &&& 63)) :: st) ws rc rs) : Wp g d M Q pc L (.int y :: .long x :: st) ws rc rs := by
  intro p e s m args below meth c mc ms C H locs cells slots ls hl hP hD hS hc hs
  obtain ⟨G, I, hx, hb, hml, hown, hr, hlk, hnm, htb⟩ := C
  subst hp
  exact lv_lshl hx hb dd rfl (kk p e s m args below meth c mc ms ⟨G, I, hx, hb, hml, hown, hr, hlk, hnm, htb⟩ H locs cells slots ls hl hP hD hS hc hs)
theorem st_lcmp {g : AG} {d : Nat} {M : AM} {Q : AO → va_W → Prop} {pc : Nat} {L : List (Option Value)} {st : List Value} {ws : va_W} {rc rs : Nat} {pc' : Nat} (hp : pc + 1 = pc') {x y : Int64} (dd : decode (am_c M) pc = .ok (.lcmp, 1)) (kk : Wp g d M Q pc' L (.int (lg_cmp x y) :: st) ws rc rs) : Wp g d M Q pc L (.long y :: .long x :: st) ws rc rs := by
  intro p e s m args below meth c mc ms C H locs cells slots ls hl hP hD hS hc hs
  obtain ⟨G, I, hx, hb, hml, hown, hr, hlk, hnm, htb⟩ := C
  subst hp
  exact W.lcmp hx hb dd (kk p e s m args below meth c mc ms ⟨G, I, hx, hb, hml, hown, hr, hlk, hnm, htb⟩ H locs cells slots ls hl hP hD hS hc hs)
theorem st_i2l {g : AG} {d : Nat} {M : AM} {Q : AO → va_W → Prop} {pc : Nat} {L : List (Option Value)} {st : List Value} {ws : va_W} {rc rs : Nat} {pc' : Nat} (hp : pc + 1 = pc') {x : Int32} (dd : decode (am_c M) pc = .ok (.i2l, 1)) (kk : Wp g d M Q pc' L (.long x.toInt64 :: st) ws rc rs) : Wp g d M Q pc L (.int x :: st) ws rc rs := by
  intro p e s m args below meth c mc ms C H locs cells slots ls hl hP hD hS hc hs
  obtain ⟨G, I, hx, hb, hml, hown, hr, hlk, hnm, htb⟩ := C
  subst hp
  exact lv_i2l hx hb dd rfl (kk p e s m args below meth c mc ms ⟨G, I, hx, hb, hml, hown, hr, hlk, hnm, htb⟩ H locs cells slots ls hl hP hD hS hc hs)
theorem st_l2i {g : AG} {d : Nat} {M : AM} {Q : AO → va_W → Prop} {pc : Nat} {L : List (Option Value)} {st : List Value} {ws : va_W} {rc rs : Nat} {pc' : Nat} (hp : pc + 1 = pc') {x : Int64} (dd : decode (am_c M) pc = .ok (.l2i, 1)) (kk : Wp g d M Q pc' L (.int x.toInt32 :: st) ws rc rs) : Wp g d M Q pc L (.long x :: st) ws rc rs := by
  intro p e s m args below meth c mc ms C H locs cells slots ls hl hP hD hS hc hs
  obtain ⟨G, I, hx, hb, hml, hown, hr, hlk, hnm, htb⟩ := C
  subst hp
  exact lv_l2i hx hb dd rfl (kk p e s m args below meth c mc ms ⟨G, I, hx, hb, hml, hown, hr, hlk, hnm, htb⟩ H locs cells slots ls hl hP hD hS hc hs)
theorem st_iconst {g : AG} {d : Nat} {M : AM} {Q : AO → va_W → Prop} {pc : Nat} {L : List (Option Value)} {st : List Value} {ws : va_W} {rc rs : Nat} {pc' : Nat} (hp : pc + 1 = pc') {n : Int} {v : Int32} (hv : Int32.ofInt n = v) (dd : decode (am_c M) pc = .ok (.iconst n, 1)) (kk : Wp g d M Q pc' L (.int v :: st) ws rc rs) : Wp g d M Q pc L (st) ws rc rs := by
  intro p e s m args below meth c mc ms C H locs cells slots ls hl hP hD hS hc hs
  obtain ⟨G, I, hx, hb, hml, hown, hr, hlk, hnm, htb⟩ := C
  subst hp
  exact lv_iconst hx hb dd hv (kk p e s m args below meth c mc ms ⟨G, I, hx, hb, hml, hown, hr, hlk, hnm, htb⟩ H locs cells slots ls hl hP hD hS hc hs)
theorem st_bipush {g : AG} {d : Nat} {M : AM} {Q : AO → va_W → Prop} {pc : Nat} {L : List (Option Value)} {st : List Value} {ws : va_W} {rc rs : Nat} {pc' : Nat} (hp : pc + 2 = pc') {n : Int} {v : Int32} (hv : (Int8.ofInt n).toInt32 = v) (dd : decode (am_c M) pc = .ok (.bipush n, 2)) (kk : Wp g d M Q pc' L (.int v :: st) ws rc rs) : Wp g d M Q pc L (st) ws rc rs := by
  intro p e s m args below meth c mc ms C H locs cells slots ls hl hP hD hS hc hs
  obtain ⟨G, I, hx, hb, hml, hown, hr, hlk, hnm, htb⟩ := C
  subst hp
  exact lv_bipush hx hb dd hv (kk p e s m args below meth c mc ms ⟨G, I, hx, hb, hml, hown, hr, hlk, hnm, htb⟩ H locs cells slots ls hl hP hD hS hc hs)
theorem st_sipush {g : AG} {d : Nat} {M : AM} {Q : AO → va_W → Prop} {pc : Nat} {L : List (Option Value)} {st : List Value} {ws : va_W} {rc rs : Nat} {pc' : Nat} (hp : pc + 3 = pc') {n : Int} {v : Int32} (hv : (Int16.ofInt n).toInt32 = v) (dd : decode (am_c M) pc = .ok (.sipush n, 3)) (kk : Wp g d M Q pc' L (.int v :: st) ws rc rs) : Wp g d M Q pc L (st) ws rc rs := by
  intro p e s m args below meth c mc ms C H locs cells slots ls hl hP hD hS hc hs
  obtain ⟨G, I, hx, hb, hml, hown, hr, hlk, hnm, htb⟩ := C
  subst hp
  exact lv_sipush hx hb dd hv (kk p e s m args below meth c mc ms ⟨G, I, hx, hb, hml, hown, hr, hlk, hnm, htb⟩ H locs cells slots ls hl hP hD hS hc hs)
theorem st_lconst {g : AG} {d : Nat} {M : AM} {Q : AO → va_W → Prop} {pc : Nat} {L : List (Option Value)} {st : List Value} {ws : va_W} {rc rs : Nat} {pc' : Nat} (hp : pc + 1 = pc') {n : Fin 2} {v : Int64} (hv : Int64.ofNat (n : Nat) = v) (dd : decode (am_c M) pc = .ok (.lconst n, 1)) (kk : Wp g d M Q pc' L (.long v :: st) ws rc rs) : Wp g d M Q pc L (st) ws rc rs := by
  intro p e s m args below meth c mc ms C H locs cells slots ls hl hP hD hS hc hs
  obtain ⟨G, I, hx, hb, hml, hown, hr, hlk, hnm, htb⟩ := C
  subst hp
  exact lv_lconst hx hb dd hv (kk p e s m args below meth c mc ms ⟨G, I, hx, hb, hml, hown, hr, hlk, hnm, htb⟩ H locs cells slots ls hl hP hD hS hc hs)
theorem st_ldc {g : AG} {d : Nat} {M : AM} {Q : AO → va_W → Prop} {pc : Nat} {L : List (Option Value)} {st : List Value} {ws : va_W} {rc rs : Nat} {pc' : Nat} (hp : pc + 2 = pc') {index : Nat} {v : Int32} (hw : Cond.constant (am_y M).cls index v ∈ lw_tbl) (dd : decode (am_c M) pc = .ok (.ldc index, 2)) (kk : Wp g d M Q pc' L (.int v :: st) ws rc rs) : Wp g d M Q pc L (st) ws rc rs := by
  intro p e s m args below meth c mc ms C H locs cells slots ls hl hP hD hS hc hs
  obtain ⟨G, I, hx, hb, hml, hown, hr, hlk, hnm, htb⟩ := C
  subst hp
  exact lv_ldc hx hb hown (ae_w G I hw rfl) dd (kk p e s m args below meth c mc ms ⟨G, I, hx, hb, hml, hown, hr, hlk, hnm, htb⟩ H locs cells slots ls hl hP hD hS hc hs)
theorem st_ldcw {g : AG} {d : Nat} {M : AM} {Q : AO → va_W → Prop} {pc : Nat} {L : List (Option Value)} {st : List Value} {ws : va_W} {rc rs : Nat} {pc' : Nat} (hp : pc + 3 = pc') {index : Nat} {v : Int32} (hw : Cond.constant (am_y M).cls index v ∈ lw_tbl) (dd : decode (am_c M) pc = .ok (.ldc_w index, 3)) (kk : Wp g d M Q pc' L (.int v :: st) ws rc rs) : Wp g d M Q pc L (st) ws rc rs := by
  intro p e s m args below meth c mc ms C H locs cells slots ls hl hP hD hS hc hs
  obtain ⟨G, I, hx, hb, hml, hown, hr, hlk, hnm, htb⟩ := C
  subst hp
  exact lv_ldcw hx hb hown (ae_w G I hw rfl) dd (kk p e s m args below meth c mc ms ⟨G, I, hx, hb, hml, hown, hr, hlk, hnm, htb⟩ H locs cells slots ls hl hP hD hS hc hs)
theorem st_ldc2 {g : AG} {d : Nat} {M : AM} {Q : AO → va_W → Prop} {pc : Nat} {L : List (Option Value)} {st : List Value} {ws : va_W} {rc rs : Nat} {pc' : Nat} (hp : pc + 3 = pc') {index : Nat} {v : Int64} (hw : Cond.constantLong (am_y M).cls index v ∈ lw_tbl) (dd : decode (am_c M) pc = .ok (.ldc2_w index, 3)) (kk : Wp g d M Q pc' L (.long v :: st) ws rc rs) : Wp g d M Q pc L (st) ws rc rs := by
  intro p e s m args below meth c mc ms C H locs cells slots ls hl hP hD hS hc hs
  obtain ⟨G, I, hx, hb, hml, hown, hr, hlk, hnm, htb⟩ := C
  subst hp
  exact lv_ldc2 hx hb hown (ae_w G I hw rfl) dd (kk p e s m args below meth c mc ms ⟨G, I, hx, hb, hml, hown, hr, hlk, hnm, htb⟩ H locs cells slots ls hl hP hD hS hc hs)
theorem st_dup {g : AG} {d : Nat} {M : AM} {Q : AO → va_W → Prop} {pc : Nat} {L : List (Option Value)} {st : List Value} {ws : va_W} {rc rs : Nat} {pc' : Nat} (hp : pc + 1 = pc') {va : Value} (hva : va.category = 1) (dd : decode (am_c M) pc = .ok (.dup, 1)) (kk : Wp g d M Q pc' L (va :: va :: st) ws rc rs) : Wp g d M Q pc L (va :: st) ws rc rs := by
  intro p e s m args below meth c mc ms C H locs cells slots ls hl hP hD hS hc hs
  obtain ⟨G, I, hx, hb, hml, hown, hr, hlk, hnm, htb⟩ := C
  subst hp
  exact lv_dup hx hb dd hva (kk p e s m args below meth c mc ms ⟨G, I, hx, hb, hml, hown, hr, hlk, hnm, htb⟩ H locs cells slots ls hl hP hD hS hc hs)
theorem st_pop {g : AG} {d : Nat} {M : AM} {Q : AO → va_W → Prop} {pc : Nat} {L : List (Option Value)} {st : List Value} {ws : va_W} {rc rs : Nat} {pc' : Nat} (hp : pc + 1 = pc') {va : Value} (hva : va.category = 1) (dd : decode (am_c M) pc = .ok (.pop, 1)) (kk : Wp g d M Q pc' L (st) ws rc rs) : Wp g d M Q pc L (va :: st) ws rc rs := by
  intro p e s m args below meth c mc ms C H locs cells slots ls hl hP hD hS hc hs
  obtain ⟨G, I, hx, hb, hml, hown, hr, hlk, hnm, htb⟩ := C
  subst hp
  exact lv_pop hx hb dd hva (kk p e s m args below meth c mc ms ⟨G, I, hx, hb, hml, hown, hr, hlk, hnm, htb⟩ H locs cells slots ls hl hP hD hS hc hs)
theorem st_dup2 {g : AG} {d : Nat} {M : AM} {Q : AO → va_W → Prop} {pc : Nat} {L : List (Option Value)} {st : List Value} {ws : va_W} {rc rs : Nat} {pc' : Nat} (hp : pc + 1 = pc') {va vb : Value} (hva : va.category = 1) (hvb : vb.category = 1) (dd : decode (am_c M) pc = .ok (.dup2, 1)) (kk : Wp g d M Q pc' L (va :: vb :: va :: vb :: st) ws rc rs) : Wp g d M Q pc L (va :: vb :: st) ws rc rs := by
  intro p e s m args below meth c mc ms C H locs cells slots ls hl hP hD hS hc hs
  obtain ⟨G, I, hx, hb, hml, hown, hr, hlk, hnm, htb⟩ := C
  subst hp
  exact lv_dup2_11 hx hb dd hva hvb (kk p e s m args below meth c mc ms ⟨G, I, hx, hb, hml, hown, hr, hlk, hnm, htb⟩ H locs cells slots ls hl hP hD hS hc hs)
theorem st_iload {g : AG} {d : Nat} {M : AM} {Q : AO → va_W → Prop} {pc : Nat} {L : List (Option Value)} {st : List Value} {ws : va_W} {rc rs : Nat} {pc' : Nat} (hp : pc + 2 = pc') {i : Nat} {x : Int32} (hi : L[i]? = some (some (.int x))) (dd : decode (am_c M) pc = .ok (.iload i, 2)) (kk : Wp g d M Q pc' L (.int x :: st) ws rc rs) : Wp g d M Q pc L (st) ws rc rs := by
  intro p e s m args below meth c mc ms C H locs cells slots ls hl hP hD hS hc hs
  obtain ⟨G, I, hx, hb, hml, hown, hr, hlk, hnm, htb⟩ := C
  subst hp
  exact lv_iload hx hb dd (al_at hl hi) (kk p e s m args below meth c mc ms ⟨G, I, hx, hb, hml, hown, hr, hlk, hnm, htb⟩ H locs cells slots ls hl hP hD hS hc hs)
theorem st_iload_n {g : AG} {d : Nat} {M : AM} {Q : AO → va_W → Prop} {pc : Nat} {L : List (Option Value)} {st : List Value} {ws : va_W} {rc rs : Nat} {pc' : Nat} (hp : pc + 1 = pc') {k : Fin 4} {x : Int32} (hi : L[(k : Nat)]? = some (some (.int x))) (dd : decode (am_c M) pc = .ok (.iload_n k, 1)) (kk : Wp g d M Q pc' L (.int x :: st) ws rc rs) : Wp g d M Q pc L (st) ws rc rs := by
  intro p e s m args below meth c mc ms C H locs cells slots ls hl hP hD hS hc hs
  obtain ⟨G, I, hx, hb, hml, hown, hr, hlk, hnm, htb⟩ := C
  subst hp
  exact lv_iload_n hx hb dd rfl (al_at hl hi) (kk p e s m args below meth c mc ms ⟨G, I, hx, hb, hml, hown, hr, hlk, hnm, htb⟩ H locs cells slots ls hl hP hD hS hc hs)
theorem st_aload {g : AG} {d : Nat} {M : AM} {Q : AO → va_W → Prop} {pc : Nat} {L : List (Option Value)} {st : List Value} {ws : va_W} {rc rs : Nat} {pc' : Nat} (hp : pc + 2 = pc') {i : Nat} {x : Nat} (hi : L[i]? = some (some (.ref x))) (dd : decode (am_c M) pc = .ok (.aload i, 2)) (kk : Wp g d M Q pc' L (.ref x :: st) ws rc rs) : Wp g d M Q pc L (st) ws rc rs := by
  intro p e s m args below meth c mc ms C H locs cells slots ls hl hP hD hS hc hs
  obtain ⟨G, I, hx, hb, hml, hown, hr, hlk, hnm, htb⟩ := C
  subst hp
  exact lv_aload hx hb dd (al_at hl hi) (kk p e s m args below meth c mc ms ⟨G, I, hx, hb, hml, hown, hr, hlk, hnm, htb⟩ H locs cells slots ls hl hP hD hS hc hs)
theorem st_aload_n {g : AG} {d : Nat} {M : AM} {Q : AO → va_W → Prop} {pc : Nat} {L : List (Option Value)} {st : List Value} {ws : va_W} {rc rs : Nat} {pc' : Nat} (hp : pc + 1 = pc') {k : Fin 4} {x : Nat} (hi : L[(k : Nat)]? = some (some (.ref x))) (dd : decode (am_c M) pc = .ok (.aload_n k, 1)) (kk : Wp g d M Q pc' L (.ref x :: st) ws rc rs) : Wp g d M Q pc L (st) ws rc rs := by
  intro p e s m args below meth c mc ms C H locs cells slots ls hl hP hD hS hc hs
  obtain ⟨G, I, hx, hb, hml, hown, hr, hlk, hnm, htb⟩ := C
  subst hp
  exact lv_aload_n hx hb dd rfl (al_at hl hi) (kk p e s m args below meth c mc ms ⟨G, I, hx, hb, hml, hown, hr, hlk, hnm, htb⟩ H locs cells slots ls hl hP hD hS hc hs)
theorem st_lload {g : AG} {d : Nat} {M : AM} {Q : AO → va_W → Prop} {pc : Nat} {L : List (Option Value)} {st : List Value} {ws : va_W} {rc rs : Nat} {pc' : Nat} (hp : pc + 2 = pc') {i : Nat} {x : Int64} (hi : L[i]? = some (some (.long x))) (dd : decode (am_c M) pc = .ok (.lload i, 2)) (kk : Wp g d M Q pc' L (.long x :: st) ws rc rs) : Wp g d M Q pc L (st) ws rc rs := by
  intro p e s m args below meth c mc ms C H locs cells slots ls hl hP hD hS hc hs
  obtain ⟨G, I, hx, hb, hml, hown, hr, hlk, hnm, htb⟩ := C
  subst hp
  exact lv_lload hx hb dd (al_at hl hi) (kk p e s m args below meth c mc ms ⟨G, I, hx, hb, hml, hown, hr, hlk, hnm, htb⟩ H locs cells slots ls hl hP hD hS hc hs)
theorem st_lload_n {g : AG} {d : Nat} {M : AM} {Q : AO → va_W → Prop} {pc : Nat} {L : List (Option Value)} {st : List Value} {ws : va_W} {rc rs : Nat} {pc' : Nat} (hp : pc + 1 = pc') {k : Fin 4} {x : Int64} (hi : L[(k : Nat)]? = some (some (.long x))) (dd : decode (am_c M) pc = .ok (.lload_n k, 1)) (kk : Wp g d M Q pc' L (.long x :: st) ws rc rs) : Wp g d M Q pc L (st) ws rc rs := by
  intro p e s m args below meth c mc ms C H locs cells slots ls hl hP hD hS hc hs
  obtain ⟨G, I, hx, hb, hml, hown, hr, hlk, hnm, htb⟩ := C
  subst hp
  exact lv_lload_n hx hb dd rfl (al_at hl hi) (kk p e s m args below meth c mc ms ⟨G, I, hx, hb, hml, hown, hr, hlk, hnm, htb⟩ H locs cells slots ls hl hP hD hS hc hs)
theorem st_istore {g : AG} {d : Nat} {M : AM} {Q : AO → va_W → Prop} {pc : Nat} {L : List (Option Value)} {st : List Value} {ws : va_W} {rc rs : Nat} {pc' : Nat} (hp : pc + 2 = pc') {i : Nat} {x : Int32} {L' : List (Option Value)} (hL : sto1 L i (.int x) = L') (hn : i < am_n M) (dd : decode (am_c M) pc = .ok (.istore i, 2)) (kk : Wp g d M Q pc' L' st ws rc rs) : Wp g d M Q pc L (.int x :: st) ws rc rs := by
  intro p e s m args below meth c mc ms C H locs cells slots ls hl hP hD hS hc hs
  obtain ⟨G, I, hx, hb, hml, hown, hr, hlk, hnm, htb⟩ := C
  subst hp
  subst hL
  exact lv_istore hx hb dd  hl hn rfl (fun ls' hl' => kk p e s m args below meth c mc ms ⟨G, I, hx, hb, hml, hown, hr, hlk, hnm, htb⟩ H locs cells slots ls' (sto1_has hl') hP hD hS hc hs)
theorem st_istore_n {g : AG} {d : Nat} {M : AM} {Q : AO → va_W → Prop} {pc : Nat} {L : List (Option Value)} {st : List Value} {ws : va_W} {rc rs : Nat} {pc' : Nat} (hp : pc + 1 = pc') {k : Fin 4} {x : Int32} {L' : List (Option Value)} (hL : sto1 L (k : Nat) (.int x) = L') (hn : (k : Nat) < am_n M) (dd : decode (am_c M) pc = .ok (.istore_n k, 1)) (kk : Wp g d M Q pc' L' st ws rc rs) : Wp g d M Q pc L (.int x :: st) ws rc rs := by
  intro p e s m args below meth c mc ms C H locs cells slots ls hl hP hD hS hc hs
  obtain ⟨G, I, hx, hb, hml, hown, hr, hlk, hnm, htb⟩ := C
  subst hp
  subst hL
  exact lv_istore_n hx hb dd rfl hl hn rfl (fun ls' hl' => kk p e s m args below meth c mc ms ⟨G, I, hx, hb, hml, hown, hr, hlk, hnm, htb⟩ H locs cells slots ls' (sto1_has hl') hP hD hS hc hs)
theorem st_astore {g : AG} {d : Nat} {M : AM} {Q : AO → va_W → Prop} {pc : Nat} {L : List (Option Value)} {st : List Value} {ws : va_W} {rc rs : Nat} {pc' : Nat} (hp : pc + 2 = pc') {i : Nat} {x : Nat} {L' : List (Option Value)} (hL : sto1 L i (.ref x) = L') (hn : i < am_n M) (dd : decode (am_c M) pc = .ok (.astore i, 2)) (kk : Wp g d M Q pc' L' st ws rc rs) : Wp g d M Q pc L (.ref x :: st) ws rc rs := by
  intro p e s m args below meth c mc ms C H locs cells slots ls hl hP hD hS hc hs
  obtain ⟨G, I, hx, hb, hml, hown, hr, hlk, hnm, htb⟩ := C
  subst hp
  subst hL
  exact lv_astore hx hb dd  hl hn rfl (fun ls' hl' => kk p e s m args below meth c mc ms ⟨G, I, hx, hb, hml, hown, hr, hlk, hnm, htb⟩ H locs cells slots ls' (sto1_has hl') hP hD hS hc hs)
theorem st_astore_n {g : AG} {d : Nat} {M : AM} {Q : AO → va_W → Prop} {pc : Nat} {L : List (Option Value)} {st : List Value} {ws : va_W} {rc rs : Nat} {pc' : Nat} (hp : pc + 1 = pc') {k : Fin 4} {x : Nat} {L' : List (Option Value)} (hL : sto1 L (k : Nat) (.ref x) = L') (hn : (k : Nat) < am_n M) (dd : decode (am_c M) pc = .ok (.astore_n k, 1)) (kk : Wp g d M Q pc' L' st ws rc rs) : Wp g d M Q pc L (.ref x :: st) ws rc rs := by
  intro p e s m args below meth c mc ms C H locs cells slots ls hl hP hD hS hc hs
  obtain ⟨G, I, hx, hb, hml, hown, hr, hlk, hnm, htb⟩ := C
  subst hp
  subst hL
  exact lv_astore_n hx hb dd rfl hl hn rfl (fun ls' hl' => kk p e s m args below meth c mc ms ⟨G, I, hx, hb, hml, hown, hr, hlk, hnm, htb⟩ H locs cells slots ls' (sto1_has hl') hP hD hS hc hs)
theorem st_lstore {g : AG} {d : Nat} {M : AM} {Q : AO → va_W → Prop} {pc : Nat} {L : List (Option Value)} {st : List Value} {ws : va_W} {rc rs : Nat} {pc' : Nat} (hp : pc + 2 = pc') {i : Nat} {x : Int64} {L' : List (Option Value)} (hL : sto2 L i (.long x) = L') (hn : i + 1 < am_n M) (dd : decode (am_c M) pc = .ok (.lstore i, 2)) (kk : Wp g d M Q pc' L' st ws rc rs) : Wp g d M Q pc L (.long x :: st) ws rc rs := by
  intro p e s m args below meth c mc ms C H locs cells slots ls hl hP hD hS hc hs
  obtain ⟨G, I, hx, hb, hml, hown, hr, hlk, hnm, htb⟩ := C
  subst hp
  subst hL
  exact lv_lstore hx hb dd  hl hn rfl (fun ls' hl' => kk p e s m args below meth c mc ms ⟨G, I, hx, hb, hml, hown, hr, hlk, hnm, htb⟩ H locs cells slots ls' (sto2_has hl') hP hD hS hc hs)
theorem st_lstore_n {g : AG} {d : Nat} {M : AM} {Q : AO → va_W → Prop} {pc : Nat} {L : List (Option Value)} {st : List Value} {ws : va_W} {rc rs : Nat} {pc' : Nat} (hp : pc + 1 = pc') {k : Fin 4} {x : Int64} {L' : List (Option Value)} (hL : sto2 L (k : Nat) (.long x) = L') (hn : (k : Nat) + 1 < am_n M) (dd : decode (am_c M) pc = .ok (.lstore_n k, 1)) (kk : Wp g d M Q pc' L' st ws rc rs) : Wp g d M Q pc L (.long x :: st) ws rc rs := by
  intro p e s m args below meth c mc ms C H locs cells slots ls hl hP hD hS hc hs
  obtain ⟨G, I, hx, hb, hml, hown, hr, hlk, hnm, htb⟩ := C
  subst hp
  subst hL
  exact lv_lstore_n hx hb dd rfl hl hn rfl (fun ls' hl' => kk p e s m args below meth c mc ms ⟨G, I, hx, hb, hml, hown, hr, hlk, hnm, htb⟩ H locs cells slots ls' (sto2_has hl') hP hD hS hc hs)
theorem st_iinc {g : AG} {d : Nat} {M : AM} {Q : AO → va_W → Prop} {pc : Nat} {L : List (Option Value)} {st : List Value} {ws : va_W} {rc rs : Nat} {pc' : Nat} (hp : pc + 3 = pc') {i : Nat} {n : Int} {x v : Int32} {L' : List (Option Value)} (hi : L[i]? = some (some (.int x))) (hv : x + Int32.ofInt n = v) (hL : sto1 L i (.int v) = L') (hn : i < am_n M) (dd : decode (am_c M) pc = .ok (.iinc i n, 3)) (kk : Wp g d M Q pc' L' st ws rc rs) : Wp g d M Q pc L (st) ws rc rs := by
  intro p e s m args below meth c mc ms C H locs cells slots ls hl hP hD hS hc hs
  obtain ⟨G, I, hx, hb, hml, hown, hr, hlk, hnm, htb⟩ := C
  subst hp
  subst hL
  obtain ⟨k, hk⟩ := List.getElem?_of_mem (al_mem0.mpr hi)
  exact lv_iinc hx hb dd hl hk hv hn rfl (fun ls' hl' => kk p e s m args below meth c mc ms ⟨G, I, hx, hb, hml, hown, hr, hlk, hnm, htb⟩ H locs cells slots ls' (sto1_has hl') hP hD hS hc hs)
-- BRANCHES
theorem st_goto {g : AG} {d : Nat} {M : AM} {Q : AO → va_W → Prop} {pc : Nat} {L : List (Option Value)} {st : List Value} {ws : va_W} {rc rs : Nat} {off : Int} {tgt : Nat} (ht : (pc : Int) + off = (tgt : Int)) (dd : decode (am_c M) pc = .ok (.goto off, 3)) (kk : Wp g d M Q tgt L st ws rc rs) : Wp g d M Q pc L st ws rc rs := by
  intro p e s m args below meth c mc ms C H locs cells slots ls hl hP hD hS hc hs
  obtain ⟨G, I, hx, hb, hml, hown, hr, hlk, hnm, htb⟩ := C
  exact lv_goto hx hb dd ht (kk p e s m args below meth c mc ms ⟨G, I, hx, hb, hml, hown, hr, hlk, hnm, htb⟩ H locs cells slots ls hl hP hD hS hc hs)
theorem st_icmp_eq {g : AG} {d : Nat} {M : AM} {Q : AO → va_W → Prop} {pc : Nat} {L : List (Option Value)} {st : List Value} {ws : va_W} {rc rs : Nat} {off : Int} {tgt pc' : Nat} {x y : Int32} (hp : pc + 3 = pc') (ht : (pc : Int) + off = (tgt : Int)) (dd : decode (am_c M) pc = .ok (.if_icmp .eq off, 3)) (kt : x = y → Wp g d M Q tgt L st ws rc rs) (kf : ¬ x = y → Wp g d M Q pc' L st ws rc rs) : Wp g d M Q pc L (.int y :: .int x :: st) ws rc rs := by
  intro p e s m args below meth c mc ms C H locs cells slots ls hl hP hD hS hc hs
  obtain ⟨G, I, hx, hb, hml, hown, hr, hlk, hnm, htb⟩ := C
  subst hp
  exact lv_icmp_eq hx hb dd ht (fun q => kt q p e s m args below meth c mc ms ⟨G, I, hx, hb, hml, hown, hr, hlk, hnm, htb⟩ H locs cells slots ls hl hP hD hS hc hs) (fun q => kf q p e s m args below meth c mc ms ⟨G, I, hx, hb, hml, hown, hr, hlk, hnm, htb⟩ H locs cells slots ls hl hP hD hS hc hs)
theorem st_icmp_ne {g : AG} {d : Nat} {M : AM} {Q : AO → va_W → Prop} {pc : Nat} {L : List (Option Value)} {st : List Value} {ws : va_W} {rc rs : Nat} {off : Int} {tgt pc' : Nat} {x y : Int32} (hp : pc + 3 = pc') (ht : (pc : Int) + off = (tgt : Int)) (dd : decode (am_c M) pc = .ok (.if_icmp .ne off, 3)) (kt : ¬ x = y → Wp g d M Q tgt L st ws rc rs) (kf : x = y → Wp g d M Q pc' L st ws rc rs) : Wp g d M Q pc L (.int y :: .int x :: st) ws rc rs := by
  intro p e s m args below meth c mc ms C H locs cells slots ls hl hP hD hS hc hs
  obtain ⟨G, I, hx, hb, hml, hown, hr, hlk, hnm, htb⟩ := C
  subst hp
  exact lv_icmp_ne hx hb dd ht (fun q => kt q p e s m args below meth c mc ms ⟨G, I, hx, hb, hml, hown, hr, hlk, hnm, htb⟩ H locs cells slots ls hl hP hD hS hc hs) (fun q => kf q p e s m args below meth c mc ms ⟨G, I, hx, hb, hml, hown, hr, hlk, hnm, htb⟩ H locs cells slots ls hl hP hD hS hc hs)
theorem st_icmp_lt {g : AG} {d : Nat} {M : AM} {Q : AO → va_W → Prop} {pc : Nat} {L : List (Option Value)} {st : List Value} {ws : va_W} {rc rs : Nat} {off : Int} {tgt pc' : Nat} {x y : Int32} (hp : pc + 3 = pc') (ht : (pc : Int) + off = (tgt : Int)) (dd : decode (am_c M) pc = .ok (.if_icmp .lt off, 3)) (kt : x < y → Wp g d M Q tgt L st ws rc rs) (kf : ¬ x < y → Wp g d M Q pc' L st ws rc rs) : Wp g d M Q pc L (.int y :: .int x :: st) ws rc rs := by
  intro p e s m args below meth c mc ms C H locs cells slots ls hl hP hD hS hc hs
  obtain ⟨G, I, hx, hb, hml, hown, hr, hlk, hnm, htb⟩ := C
  subst hp
  exact lv_icmp_lt hx hb dd ht (fun q => kt q p e s m args below meth c mc ms ⟨G, I, hx, hb, hml, hown, hr, hlk, hnm, htb⟩ H locs cells slots ls hl hP hD hS hc hs) (fun q => kf q p e s m args below meth c mc ms ⟨G, I, hx, hb, hml, hown, hr, hlk, hnm, htb⟩ H locs cells slots ls hl hP hD hS hc hs)
theorem st_icmp_ge {g : AG} {d : Nat} {M : AM} {Q : AO → va_W → Prop} {pc : Nat} {L : List (Option Value)} {st : List Value} {ws : va_W} {rc rs : Nat} {off : Int} {tgt pc' : Nat} {x y : Int32} (hp : pc + 3 = pc') (ht : (pc : Int) + off = (tgt : Int)) (dd : decode (am_c M) pc = .ok (.if_icmp .ge off, 3)) (kt : y ≤ x → Wp g d M Q tgt L st ws rc rs) (kf : ¬ y ≤ x → Wp g d M Q pc' L st ws rc rs) : Wp g d M Q pc L (.int y :: .int x :: st) ws rc rs := by
  intro p e s m args below meth c mc ms C H locs cells slots ls hl hP hD hS hc hs
  obtain ⟨G, I, hx, hb, hml, hown, hr, hlk, hnm, htb⟩ := C
  subst hp
  exact lv_icmp_ge hx hb dd ht (fun q => kt q p e s m args below meth c mc ms ⟨G, I, hx, hb, hml, hown, hr, hlk, hnm, htb⟩ H locs cells slots ls hl hP hD hS hc hs) (fun q => kf q p e s m args below meth c mc ms ⟨G, I, hx, hb, hml, hown, hr, hlk, hnm, htb⟩ H locs cells slots ls hl hP hD hS hc hs)
theorem st_icmp_gt {g : AG} {d : Nat} {M : AM} {Q : AO → va_W → Prop} {pc : Nat} {L : List (Option Value)} {st : List Value} {ws : va_W} {rc rs : Nat} {off : Int} {tgt pc' : Nat} {x y : Int32} (hp : pc + 3 = pc') (ht : (pc : Int) + off = (tgt : Int)) (dd : decode (am_c M) pc = .ok (.if_icmp .gt off, 3)) (kt : y < x → Wp g d M Q tgt L st ws rc rs) (kf : ¬ y < x → Wp g d M Q pc' L st ws rc rs) : Wp g d M Q pc L (.int y :: .int x :: st) ws rc rs := by
  intro p e s m args below meth c mc ms C H locs cells slots ls hl hP hD hS hc hs
  obtain ⟨G, I, hx, hb, hml, hown, hr, hlk, hnm, htb⟩ := C
  subst hp
  exact lv_icmp_gt hx hb dd ht (fun q => kt q p e s m args below meth c mc ms ⟨G, I, hx, hb, hml, hown, hr, hlk, hnm, htb⟩ H locs cells slots ls hl hP hD hS hc hs) (fun q => kf q p e s m args below meth c mc ms ⟨G, I, hx, hb, hml, hown, hr, hlk, hnm, htb⟩ H locs cells slots ls hl hP hD hS hc hs)
theorem st_icmp_le {g : AG} {d : Nat} {M : AM} {Q : AO → va_W → Prop} {pc : Nat} {L : List (Option Value)} {st : List Value} {ws : va_W} {rc rs : Nat} {off : Int} {tgt pc' : Nat} {x y : Int32} (hp : pc + 3 = pc') (ht : (pc : Int) + off = (tgt : Int)) (dd : decode (am_c M) pc = .ok (.if_icmp .le off, 3)) (kt : x ≤ y → Wp g d M Q tgt L st ws rc rs) (kf : ¬ x ≤ y → Wp g d M Q pc' L st ws rc rs) : Wp g d M Q pc L (.int y :: .int x :: st) ws rc rs := by
  intro p e s m args below meth c mc ms C H locs cells slots ls hl hP hD hS hc hs
  obtain ⟨G, I, hx, hb, hml, hown, hr, hlk, hnm, htb⟩ := C
  subst hp
  exact lv_icmp_le hx hb dd ht (fun q => kt q p e s m args below meth c mc ms ⟨G, I, hx, hb, hml, hown, hr, hlk, hnm, htb⟩ H locs cells slots ls hl hP hD hS hc hs) (fun q => kf q p e s m args below meth c mc ms ⟨G, I, hx, hb, hml, hown, hr, hlk, hnm, htb⟩ H locs cells slots ls hl hP hD hS hc hs)
theorem st_if_eq {g : AG} {d : Nat} {M : AM} {Q : AO → va_W → Prop} {pc : Nat} {L : List (Option Value)} {st : List Value} {ws : va_W} {rc rs : Nat} {off : Int} {tgt pc' : Nat} {x : Int32} (hp : pc + 3 = pc') (ht : (pc : Int) + off = (tgt : Int)) (dd : decode (am_c M) pc = .ok (.ifCond .eq off, 3)) (kt : x = 0 → Wp g d M Q tgt L st ws rc rs) (kf : ¬ x = 0 → Wp g d M Q pc' L st ws rc rs) : Wp g d M Q pc L (.int x :: st) ws rc rs := by
  intro p e s m args below meth c mc ms C H locs cells slots ls hl hP hD hS hc hs
  obtain ⟨G, I, hx, hb, hml, hown, hr, hlk, hnm, htb⟩ := C
  subst hp
  exact lv_if_eq hx hb dd ht (fun q => kt q p e s m args below meth c mc ms ⟨G, I, hx, hb, hml, hown, hr, hlk, hnm, htb⟩ H locs cells slots ls hl hP hD hS hc hs) (fun q => kf q p e s m args below meth c mc ms ⟨G, I, hx, hb, hml, hown, hr, hlk, hnm, htb⟩ H locs cells slots ls hl hP hD hS hc hs)
theorem st_if_ne {g : AG} {d : Nat} {M : AM} {Q : AO → va_W → Prop} {pc : Nat} {L : List (Option Value)} {st : List Value} {ws : va_W} {rc rs : Nat} {off : Int} {tgt pc' : Nat} {x : Int32} (hp : pc + 3 = pc') (ht : (pc : Int) + off = (tgt : Int)) (dd : decode (am_c M) pc = .ok (.ifCond .ne off, 3)) (kt : ¬ x = 0 → Wp g d M Q tgt L st ws rc rs) (kf : x = 0 → Wp g d M Q pc' L st ws rc rs) : Wp g d M Q pc L (.int x :: st) ws rc rs := by
  intro p e s m args below meth c mc ms C H locs cells slots ls hl hP hD hS hc hs
  obtain ⟨G, I, hx, hb, hml, hown, hr, hlk, hnm, htb⟩ := C
  subst hp
  exact lv_if_ne hx hb dd ht (fun q => kt q p e s m args below meth c mc ms ⟨G, I, hx, hb, hml, hown, hr, hlk, hnm, htb⟩ H locs cells slots ls hl hP hD hS hc hs) (fun q => kf q p e s m args below meth c mc ms ⟨G, I, hx, hb, hml, hown, hr, hlk, hnm, htb⟩ H locs cells slots ls hl hP hD hS hc hs)
theorem st_if_lt {g : AG} {d : Nat} {M : AM} {Q : AO → va_W → Prop} {pc : Nat} {L : List (Option Value)} {st : List Value} {ws : va_W} {rc rs : Nat} {off : Int} {tgt pc' : Nat} {x : Int32} (hp : pc + 3 = pc') (ht : (pc : Int) + off = (tgt : Int)) (dd : decode (am_c M) pc = .ok (.ifCond .lt off, 3)) (kt : x < 0 → Wp g d M Q tgt L st ws rc rs) (kf : ¬ x < 0 → Wp g d M Q pc' L st ws rc rs) : Wp g d M Q pc L (.int x :: st) ws rc rs := by
  intro p e s m args below meth c mc ms C H locs cells slots ls hl hP hD hS hc hs
  obtain ⟨G, I, hx, hb, hml, hown, hr, hlk, hnm, htb⟩ := C
  subst hp
  exact lv_if_lt hx hb dd ht (fun q => kt q p e s m args below meth c mc ms ⟨G, I, hx, hb, hml, hown, hr, hlk, hnm, htb⟩ H locs cells slots ls hl hP hD hS hc hs) (fun q => kf q p e s m args below meth c mc ms ⟨G, I, hx, hb, hml, hown, hr, hlk, hnm, htb⟩ H locs cells slots ls hl hP hD hS hc hs)
theorem st_if_ge {g : AG} {d : Nat} {M : AM} {Q : AO → va_W → Prop} {pc : Nat} {L : List (Option Value)} {st : List Value} {ws : va_W} {rc rs : Nat} {off : Int} {tgt pc' : Nat} {x : Int32} (hp : pc + 3 = pc') (ht : (pc : Int) + off = (tgt : Int)) (dd : decode (am_c M) pc = .ok (.ifCond .ge off, 3)) (kt : 0 ≤ x → Wp g d M Q tgt L st ws rc rs) (kf : ¬ 0 ≤ x → Wp g d M Q pc' L st ws rc rs) : Wp g d M Q pc L (.int x :: st) ws rc rs := by
  intro p e s m args below meth c mc ms C H locs cells slots ls hl hP hD hS hc hs
  obtain ⟨G, I, hx, hb, hml, hown, hr, hlk, hnm, htb⟩ := C
  subst hp
  exact lv_if_ge hx hb dd ht (fun q => kt q p e s m args below meth c mc ms ⟨G, I, hx, hb, hml, hown, hr, hlk, hnm, htb⟩ H locs cells slots ls hl hP hD hS hc hs) (fun q => kf q p e s m args below meth c mc ms ⟨G, I, hx, hb, hml, hown, hr, hlk, hnm, htb⟩ H locs cells slots ls hl hP hD hS hc hs)
theorem st_if_gt {g : AG} {d : Nat} {M : AM} {Q : AO → va_W → Prop} {pc : Nat} {L : List (Option Value)} {st : List Value} {ws : va_W} {rc rs : Nat} {off : Int} {tgt pc' : Nat} {x : Int32} (hp : pc + 3 = pc') (ht : (pc : Int) + off = (tgt : Int)) (dd : decode (am_c M) pc = .ok (.ifCond .gt off, 3)) (kt : 0 < x → Wp g d M Q tgt L st ws rc rs) (kf : ¬ 0 < x → Wp g d M Q pc' L st ws rc rs) : Wp g d M Q pc L (.int x :: st) ws rc rs := by
  intro p e s m args below meth c mc ms C H locs cells slots ls hl hP hD hS hc hs
  obtain ⟨G, I, hx, hb, hml, hown, hr, hlk, hnm, htb⟩ := C
  subst hp
  exact lv_if_gt hx hb dd ht (fun q => kt q p e s m args below meth c mc ms ⟨G, I, hx, hb, hml, hown, hr, hlk, hnm, htb⟩ H locs cells slots ls hl hP hD hS hc hs) (fun q => kf q p e s m args below meth c mc ms ⟨G, I, hx, hb, hml, hown, hr, hlk, hnm, htb⟩ H locs cells slots ls hl hP hD hS hc hs)
theorem st_if_le {g : AG} {d : Nat} {M : AM} {Q : AO → va_W → Prop} {pc : Nat} {L : List (Option Value)} {st : List Value} {ws : va_W} {rc rs : Nat} {off : Int} {tgt pc' : Nat} {x : Int32} (hp : pc + 3 = pc') (ht : (pc : Int) + off = (tgt : Int)) (dd : decode (am_c M) pc = .ok (.ifCond .le off, 3)) (kt : x ≤ 0 → Wp g d M Q tgt L st ws rc rs) (kf : ¬ x ≤ 0 → Wp g d M Q pc' L st ws rc rs) : Wp g d M Q pc L (.int x :: st) ws rc rs := by
  intro p e s m args below meth c mc ms C H locs cells slots ls hl hP hD hS hc hs
  obtain ⟨G, I, hx, hb, hml, hown, hr, hlk, hnm, htb⟩ := C
  subst hp
  exact lv_if_le hx hb dd ht (fun q => kt q p e s m args below meth c mc ms ⟨G, I, hx, hb, hml, hown, hr, hlk, hnm, htb⟩ H locs cells slots ls hl hP hD hS hc hs) (fun q => kf q p e s m args below meth c mc ms ⟨G, I, hx, hb, hml, hown, hr, hlk, hnm, htb⟩ H locs cells slots ls hl hP hD hS hc hs)
theorem st_swIn {g : AG} {d : Nat} {M : AM} {Q : AO → va_W → Prop} {pc : Nat} {L : List (Option Value)} {st : List Value} {ws : va_W} {rc rs : Nat} {dflt lo hi off : Int} {offs : Array Int} {len tgt : Nat} {x : Int32} (h1 : ¬ x.toInt < lo) (h2 : ¬ hi < x.toInt) (ho : offs[(x.toInt - lo).toNat]? = some off) (ht : (pc : Int) + off = (tgt : Int)) (dd : decode (am_c M) pc = .ok (.tableswitch dflt lo hi offs, len)) (kk : Wp g d M Q tgt L st ws rc rs) : Wp g d M Q pc L (.int x :: st) ws rc rs := by
  intro p e s m args below meth c mc ms C H locs cells slots ls hl hP hD hS hc hs
  obtain ⟨G, I, hx, hb, hml, hown, hr, hlk, hnm, htb⟩ := C
  exact lv_tableIn hx hb dd h1 h2 ho ht (kk p e s m args below meth c mc ms ⟨G, I, hx, hb, hml, hown, hr, hlk, hnm, htb⟩ H locs cells slots ls hl hP hD hS hc hs)
theorem st_swOut {g : AG} {d : Nat} {M : AM} {Q : AO → va_W → Prop} {pc : Nat} {L : List (Option Value)} {st : List Value} {ws : va_W} {rc rs : Nat} {dflt lo hi : Int} {offs : Array Int} {len tgt : Nat} {x : Int32} (h : x.toInt < lo ∨ hi < x.toInt) (ht : (pc : Int) + dflt = (tgt : Int)) (dd : decode (am_c M) pc = .ok (.tableswitch dflt lo hi offs, len)) (kk : Wp g d M Q tgt L st ws rc rs) : Wp g d M Q pc L (.int x :: st) ws rc rs := by
  intro p e s m args below meth c mc ms C H locs cells slots ls hl hP hD hS hc hs
  obtain ⟨G, I, hx, hb, hml, hown, hr, hlk, hnm, htb⟩ := C
  exact lv_tableOut hx hb dd h ht (kk p e s m args below meth c mc ms ⟨G, I, hx, hb, hml, hown, hr, hlk, hnm, htb⟩ H locs cells slots ls hl hP hD hS hc hs)
/-- a class whose objects the worlds hold -/
def ae_cl (ci : Nat) (C : String) (T : u_T) (N : Nat) (ty : Nat → FieldType) : Prop := vwCl[ci]? = some (C, T, N) ∧ (∀ w ∈ u_ws C T N, w ∈ lw_tbl ∧ goodWord w = true) ∧ (∀ a, a < N → ∀ b, b < N → a ≠ b → (T a).2.1 ≠ (T b).2.1) ∧ (∀ k, k < N → parseFieldDescriptor (T k).2.2.1 = some (ty k))
theorem ae_clw {g : AG} {U : State} {args : Array Value} {ci N : Nat} {C : String} {T : u_T} {ty : Nat → FieldType} (G : ae_G g) (I : ae_I g U) (h : ae_cl ci C T N ty) : ∀ w ∈ u_ws C T N, w.before args U = true := fun w hw => ae_w G I (h.2.1 w hw).1 (h.2.1 w hw).2
theorem st_get {g : AG} {d : Nat} {M : AM} {Q : AO → va_W → Prop} {pc : Nat} {L : List (Option Value)} {st : List Value} {ws : va_W} {rc rs : Nat} {pc' : Nat} (hp : pc + 3 = pc')  {ci N idx q0 a : Nat} {C : String} {T : u_T} {ty : Nat → FieldType} {fs : List Value} {v : Value} (hcl : ae_cl ci C T N ty) (hq : ws[q0]? = some (a, .inr (ci, fs))) (k : Nat) (hk : k < N) (hrf : (T k).1 = C) (hv : fs[k]? = some v) (hw : Cond.fieldLink (am_y M).cls idx C (T k).2.1 (T k).2.2.1 ∈ lw_tbl) (dd : decode (am_c M) pc = .ok (.getfield idx, 3)) (kk : Wp g d M Q pc' L (v :: st) ws rc rs) : Wp g d M Q pc L (.ref a :: st) ws rc rs := by
  intro p e s m args below meth c mc ms C H locs cells slots ls hl hP hD hS hc hs
  obtain ⟨G, I, hx, hb, hml, hown, hr, hlk, hnm, htb⟩ := C
  subst hp
  exact va_get (D := ag_D g) hx hb (ae_clw G I hcl) (fun _ h => h) hown (ae_K G I) hP q0 hq hcl.1 k hk (ae_w G I hw rfl) (fun z hz => by rw [← hrf]; exact hz) hv dd (kk p e s m args below meth c mc ms ⟨G, I, hx, hb, hml, hown, hr, hlk, hnm, htb⟩ H locs cells slots ls hl hP hD hS hc hs)
theorem st_put {g : AG} {d : Nat} {M : AM} {Q : AO → va_W → Prop} {pc : Nat} {L : List (Option Value)} {st : List Value} {ws : va_W} {rc rs : Nat} {pc' : Nat} (hp : pc + 3 = pc')  {ci N idx q0 a : Nat} {C : String} {T : u_T} {ty : Nat → FieldType} {fs : List Value} {v : Value} (hcl : ae_cl ci C T N ty) (hq : ws[q0]? = some (a, .inr (ci, fs))) (k : Nat) (hk : k < N) (hrf : (T k).1 = C) (hl9 : k < fs.length) (hfin : (T k).2.2.2 = false) (hn : narrow (ty k) v = v) (hf : fits (ty k) v = true) (hw : Cond.fieldLink (am_y M).cls idx C (T k).2.1 (T k).2.2.1 ∈ lw_tbl) (dd : decode (am_c M) pc = .ok (.putfield idx, 3)) (kk : Wp g d M Q pc' L st (ws.set q0 (a, .inr (ci, fs.set k v))) rc rs) : Wp g d M Q pc L (v :: .ref a :: st) ws rc rs := by
  intro p e s m args below meth c mc ms C H locs cells slots ls hl hP hD hS hc hs
  obtain ⟨G, I, hx, hb, hml, hown, hr, hlk, hnm, htb⟩ := C
  subst hp
  exact va_put (D := ag_D g) hx hb (ae_clw G I hcl) (fun _ h => h) ty hcl.2.2.2 hcl.2.2.1 hown (ae_K G I) hP hD hS q0 hq hcl.1 k hk (ae_w G I hw rfl) (fun z hz => by rw [← hrf]; exact hz) hfin (hcl.2.2.2 k hk) hn hf hl9 dd (fun H1 locs1 hP1 hD1 hS1 => kk p e s m args below meth c mc ms ⟨G, I, hx, hb, hml, hown, hr, hlk, hnm, htb⟩ H1 locs1 cells slots ls hl hP1 hD1 hS1 hc hs)
theorem st_getN {g : AG} {d : Nat} {M : AM} {Q : AO → va_W → Prop} {pc : Nat} {L : List (Option Value)} {st : List Value} {ws : va_W} {rc rs : Nat} {pc' : Nat} (hp : pc + 3 = pc') {host : String} {ci N idx q0 a : Nat} {C : String} {T : u_T} {ty : Nat → FieldType} {fs : List Value} {v : Value} (hcl : ae_cl ci C T N ty) (hq : ws[q0]? = some (a, .inr (ci, fs))) (k : Nat) (hk : k < N) (hrf : (T k).1 = C) (hv : fs[k]? = some v) (hw : Cond.fieldLinkNest (am_y M).cls idx C (T k).2.1 (T k).2.2.1 host ∈ lw_tbl) (dd : decode (am_c M) pc = .ok (.getfield idx, 3)) (kk : Wp g d M Q pc' L (v :: st) ws rc rs) : Wp g d M Q pc L (.ref a :: st) ws rc rs := by
  intro p e s m args below meth c mc ms C H locs cells slots ls hl hP hD hS hc hs
  obtain ⟨G, I, hx, hb, hml, hown, hr, hlk, hnm, htb⟩ := C
  subst hp
  exact va_getN (D := ag_D g) hx hb (ae_clw G I hcl) (fun _ h => h) hown (ae_K G I) hP q0 hq hcl.1 k hk (ae_nf G I hw) (fun z hz => by rw [← hrf]; exact hz) hv dd (kk p e s m args below meth c mc ms ⟨G, I, hx, hb, hml, hown, hr, hlk, hnm, htb⟩ H locs cells slots ls hl hP hD hS hc hs)
theorem st_putN {g : AG} {d : Nat} {M : AM} {Q : AO → va_W → Prop} {pc : Nat} {L : List (Option Value)} {st : List Value} {ws : va_W} {rc rs : Nat} {pc' : Nat} (hp : pc + 3 = pc') {host : String} {ci N idx q0 a : Nat} {C : String} {T : u_T} {ty : Nat → FieldType} {fs : List Value} {v : Value} (hcl : ae_cl ci C T N ty) (hq : ws[q0]? = some (a, .inr (ci, fs))) (k : Nat) (hk : k < N) (hrf : (T k).1 = C) (hl9 : k < fs.length) (hfin : (T k).2.2.2 = false) (hn : narrow (ty k) v = v) (hf : fits (ty k) v = true) (hw : Cond.fieldLinkNest (am_y M).cls idx C (T k).2.1 (T k).2.2.1 host ∈ lw_tbl) (dd : decode (am_c M) pc = .ok (.putfield idx, 3)) (kk : Wp g d M Q pc' L st (ws.set q0 (a, .inr (ci, fs.set k v))) rc rs) : Wp g d M Q pc L (v :: .ref a :: st) ws rc rs := by
  intro p e s m args below meth c mc ms C H locs cells slots ls hl hP hD hS hc hs
  obtain ⟨G, I, hx, hb, hml, hown, hr, hlk, hnm, htb⟩ := C
  subst hp
  exact va_putN (D := ag_D g) hx hb (ae_clw G I hcl) (fun _ h => h) ty hcl.2.2.2 hcl.2.2.1 hown (ae_K G I) hP hD hS q0 hq hcl.1 k hk (ae_nf G I hw) (fun z hz => by rw [← hrf]; exact hz) hfin (hcl.2.2.2 k hk) hn hf hl9 dd (fun H1 locs1 hP1 hD1 hS1 => kk p e s m args below meth c mc ms ⟨G, I, hx, hb, hml, hown, hr, hlk, hnm, htb⟩ H1 locs1 cells slots ls hl hP1 hD1 hS1 hc hs)
theorem st_putF {g : AG} {d : Nat} {M : AM} {Q : AO → va_W → Prop} {pc : Nat} {L : List (Option Value)} {st : List Value} {ws : va_W} {rc rs : Nat} {pc' : Nat} (hp : pc + 3 = pc') {ci N idx q0 a : Nat} {C : String} {T : u_T} {ty : Nat → FieldType} {fs : List Value} {v : Value} (hcl : ae_cl ci C T N ty) (hq : ws[q0]? = some (a, .inr (ci, fs))) (k : Nat) (hk : k < N) (hrf : (T k).1 = C) (hl9 : k < fs.length) (hfin : (T k).2.2.2 = true) (hin2 : (am_y M).name = "<init>") (hcn : (am_y M).cls = C) (hn : narrow (ty k) v = v) (hf : fits (ty k) v = true) (hw : Cond.fieldLink (am_y M).cls idx C (T k).2.1 (T k).2.2.1 ∈ lw_tbl) (dd : decode (am_c M) pc = .ok (.putfield idx, 3)) (kk : Wp g d M Q pc' L st (ws.set q0 (a, .inr (ci, fs.set k v))) rc rs) : Wp g d M Q pc L (v :: .ref a :: st) ws rc rs := by
  intro p e s m args below meth c mc ms C H locs cells slots ls hl hP hD hS hc hs
  obtain ⟨G, I, hx, hb, hml, hown, hr, hlk, hnm, htb⟩ := C
  subst hp
  exact va_putF (D := ag_D g) hx hb (ae_clw G I hcl) (fun _ h => h) ty hcl.2.2.2 hcl.2.2.1 hown (ae_K G I) hP hD hS q0 hq hcl.1 k hk (ae_w G I hw rfl) (fun z hz => by rw [← hrf]; exact hz) hfin (hnm.trans hin2) (hrf.trans hcn.symm) (hcl.2.2.2 k hk) hn hf hl9 dd (fun H1 locs1 hP1 hD1 hS1 => kk p e s m args below meth c mc ms ⟨G, I, hx, hb, hml, hown, hr, hlk, hnm, htb⟩ H1 locs1 cells slots ls hl hP1 hD1 hS1 hc hs)
theorem st_iald {g : AG} {d : Nat} {M : AM} {Q : AO → va_W → Prop} {pc : Nat} {L : List (Option Value)} {st : List Value} {ws : va_W} {rc rs : Nat} {pc' : Nat} (hp : pc + 1 = pc') {q0 a n : Nat} {f : Nat → Int32} {i : Int32} (hq : ws[q0]? = some (a, .inl (ag_c g 0, n, .inl f))) (hin : vp_in i n) (dd : decode (am_c M) pc = .ok (.iaload, 1)) (kk : Wp g d M Q pc' L (.int (f i.toNatClampNeg) :: st) ws rc rs) : Wp g d M Q pc L (.int i :: .ref a :: st) ws rc rs := by
  intro p e s m args below meth c mc ms C H locs cells slots ls hl hP hD hS hc hs
  obtain ⟨G, I, hx, hb, hml, hown, hr, hlk, hnm, htb⟩ := C
  subst hp
  exact va_iald (D := ag_D g) hx hb (ae_K G I) hP q0 0 hq rfl hin dd (kk p e s m args below meth c mc ms ⟨G, I, hx, hb, hml, hown, hr, hlk, hnm, htb⟩ H locs cells slots ls hl hP hD hS hc hs)
theorem st_zald {g : AG} {d : Nat} {M : AM} {Q : AO → va_W → Prop} {pc : Nat} {L : List (Option Value)} {st : List Value} {ws : va_W} {rc rs : Nat} {pc' : Nat} (hp : pc + 1 = pc') {q0 a n : Nat} {f : Nat → Int32} {i : Int32} (hq : ws[q0]? = some (a, .inl (ag_c g 2, n, .inl f))) (hin : vp_in i n) (dd : decode (am_c M) pc = .ok (.baload, 1)) (kk : Wp g d M Q pc' L (.int (f i.toNatClampNeg) :: st) ws rc rs) : Wp g d M Q pc L (.int i :: .ref a :: st) ws rc rs := by
  intro p e s m args below meth c mc ms C H locs cells slots ls hl hP hD hS hc hs
  obtain ⟨G, I, hx, hb, hml, hown, hr, hlk, hnm, htb⟩ := C
  subst hp
  exact va_zald (D := ag_D g) hx hb (ae_K G I) hP q0 2 hq rfl hin dd (kk p e s m args below meth c mc ms ⟨G, I, hx, hb, hml, hown, hr, hlk, hnm, htb⟩ H locs cells slots ls hl hP hD hS hc hs)
theorem st_lald {g : AG} {d : Nat} {M : AM} {Q : AO → va_W → Prop} {pc : Nat} {L : List (Option Value)} {st : List Value} {ws : va_W} {rc rs : Nat} {pc' : Nat} (hp : pc + 1 = pc') {q0 a n : Nat} {f : Nat → Int64} {i : Int32} (hq : ws[q0]? = some (a, .inl (ag_c g 1, n, .inr (.inl f)))) (hin : vp_in i n) (dd : decode (am_c M) pc = .ok (.laload, 1)) (kk : Wp g d M Q pc' L (.long (f i.toNatClampNeg) :: st) ws rc rs) : Wp g d M Q pc L (.int i :: .ref a :: st) ws rc rs := by
  intro p e s m args below meth c mc ms C H locs cells slots ls hl hP hD hS hc hs
  obtain ⟨G, I, hx, hb, hml, hown, hr, hlk, hnm, htb⟩ := C
  subst hp
  exact va_lald (D := ag_D g) hx hb (ae_K G I) hP q0 1 hq rfl hin dd (kk p e s m args below meth c mc ms ⟨G, I, hx, hb, hml, hown, hr, hlk, hnm, htb⟩ H locs cells slots ls hl hP hD hS hc hs)
theorem st_iast {g : AG} {d : Nat} {M : AM} {Q : AO → va_W → Prop} {pc : Nat} {L : List (Option Value)} {st : List Value} {ws : va_W} {rc rs : Nat} {pc' : Nat} (hp : pc + 1 = pc') {q0 a n : Nat} {f : Nat → Int32} {i : Int32} {x : Int32} (hq : ws[q0]? = some (a, .inl (ag_c g 0, n, .inl f))) (hin : vp_in i n) (dd : decode (am_c M) pc = .ok (.iastore, 1)) (kk : Wp g d M Q pc' L st (ws.set q0 (a, .inl (ag_c g 0, n, .inl (upd f i.toNatClampNeg x)))) rc rs) : Wp g d M Q pc L (.int x :: .int i :: .ref a :: st) ws rc rs := by
  intro p e s m args below meth c mc ms C H locs cells slots ls hl hP hD hS hc hs
  obtain ⟨G, I, hx, hb, hml, hown, hr, hlk, hnm, htb⟩ := C
  subst hp
  exact va_iast (D := ag_D g) hx hb (ae_K G I) hP hD hS q0 0 hq rfl hin dd (fun H1 locs1 hP1 hD1 hS1 => kk p e s m args below meth c mc ms ⟨G, I, hx, hb, hml, hown, hr, hlk, hnm, htb⟩ H1 locs1 cells slots ls hl hP1 hD1 hS1 hc hs)
theorem st_zast {g : AG} {d : Nat} {M : AM} {Q : AO → va_W → Prop} {pc : Nat} {L : List (Option Value)} {st : List Value} {ws : va_W} {rc rs : Nat} {pc' : Nat} (hp : pc + 1 = pc') {q0 a n : Nat} {f : Nat → Int32} {i : Int32} {x : Int32} (hq : ws[q0]? = some (a, .inl (ag_c g 2, n, .inl f))) (hin : vp_in i n) (dd : decode (am_c M) pc = .ok (.bastore, 1)) (kk : Wp g d M Q pc' L st (ws.set q0 (a, .inl (ag_c g 2, n, .inl (upd f i.toNatClampNeg (vp_nar .boolean x))))) rc rs) : Wp g d M Q pc L (.int x :: .int i :: .ref a :: st) ws rc rs := by
  intro p e s m args below meth c mc ms C H locs cells slots ls hl hP hD hS hc hs
  obtain ⟨G, I, hx, hb, hml, hown, hr, hlk, hnm, htb⟩ := C
  subst hp
  exact va_zast (D := ag_D g) hx hb (ae_K G I) hP hD hS q0 2 hq rfl hin dd (fun H1 locs1 hP1 hD1 hS1 => kk p e s m args below meth c mc ms ⟨G, I, hx, hb, hml, hown, hr, hlk, hnm, htb⟩ H1 locs1 cells slots ls hl hP1 hD1 hS1 hc hs)
theorem st_last {g : AG} {d : Nat} {M : AM} {Q : AO → va_W → Prop} {pc : Nat} {L : List (Option Value)} {st : List Value} {ws : va_W} {rc rs : Nat} {pc' : Nat} (hp : pc + 1 = pc') {q0 a n : Nat} {f : Nat → Int64} {i : Int32} {x : Int64} (hq : ws[q0]? = some (a, .inl (ag_c g 1, n, .inr (.inl f)))) (hin : vp_in i n) (dd : decode (am_c M) pc = .ok (.lastore, 1)) (kk : Wp g d M Q pc' L st (ws.set q0 (a, .inl (ag_c g 1, n, .inr (.inl (vp_updL f i.toNatClampNeg x))))) rc rs) : Wp g d M Q pc L (.long x :: .int i :: .ref a :: st) ws rc rs := by
  intro p e s m args below meth c mc ms C H locs cells slots ls hl hP hD hS hc hs
  obtain ⟨G, I, hx, hb, hml, hown, hr, hlk, hnm, htb⟩ := C
  subst hp
  exact va_last (D := ag_D g) hx hb (ae_K G I) hP hD hS q0 1 hq rfl hin dd (fun H1 locs1 hP1 hD1 hS1 => kk p e s m args below meth c mc ms ⟨G, I, hx, hb, hml, hown, hr, hlk, hnm, htb⟩ H1 locs1 cells slots ls hl hP1 hD1 hS1 hc hs)
theorem st_alen {g : AG} {d : Nat} {M : AM} {Q : AO → va_W → Prop} {pc : Nat} {L : List (Option Value)} {st : List Value} {ws : va_W} {rc rs : Nat} {pc' : Nat} (hp : pc + 1 = pc') {q0 a t : Nat} {ty : FieldType} {x : vp_A} {v : Int32} (hq : ws[q0]? = some (a, .inl (ag_c g t, x))) (ht : (ae_ty g)[t]? = some (ag_c g t, ty)) (hv : Int32.ofNat x.1 = v) (dd : decode (am_c M) pc = .ok (.arraylength, 1)) (kk : Wp g d M Q pc' L (.int v :: st) ws rc rs) : Wp g d M Q pc L (.ref a :: st) ws rc rs := by
  intro p e s m args below meth c mc ms C H locs cells slots ls hl hP hD hS hc hs
  obtain ⟨G, I, hx, hb, hml, hown, hr, hlk, hnm, htb⟩ := C
  subst hp
  exact va_alen (D := ag_D g) hx hb (ae_K G I) hP q0 t hq ht hv dd (kk p e s m args below meth c mc ms ⟨G, I, hx, hb, hml, hown, hr, hlk, hnm, htb⟩ H locs cells slots ls hl hP hD hS hc hs)
theorem st_aald {g : AG} {d : Nat} {M : AM} {Q : AO → va_W → Prop} {pc : Nat} {L : List (Option Value)} {st : List Value} {ws : va_W} {rc rs : Nat} {pc' : Nat} (hp : pc + 1 = pc') {q0 a n : Nat} {f : Nat → Option Nat} {i : Int32} (hq : ws[q0]? = some (a, .inl (ag_c g 3, n, .inr (.inr (.inr (.inr f)))))) (hin : vp_in i n) (dd : decode (am_c M) pc = .ok (.aaload, 1)) (kk : Wp g d M Q pc' L (va_rf (f i.toNatClampNeg) :: st) ws rc rs) : Wp g d M Q pc L (.int i :: .ref a :: st) ws rc rs := by
  intro p e s m args below meth c mc ms C H locs cells slots ls hl hP hD hS hc hs
  obtain ⟨G, I, hx, hb, hml, hown, hr, hlk, hnm, htb⟩ := C
  subst hp
  have hlt : i.toNatClampNeg < n := Nat.not_le.mp fun q => hin (Or.inr q)
  exact W.aald (v := va_rf (f i.toNatClampNeg)) (ty := .array .int) hx hb (hP q0 _ hq) (((ae_K G I).2 3 _ rfl).1 n (fun j => va_rf (f j))) rfl (fun q => by cases q) (by show ¬ (i < 0 ∨ (arrV _ _ _).slots.size ≤ _); rw [arrV_size]; exact hin) (by show (arrV _ _ _).slots[_]? = _; rw [arrV_read _ _ hlt]) rfl rfl dd (kk p e s m args below meth c mc ms ⟨G, I, hx, hb, hml, hown, hr, hlk, hnm, htb⟩ H locs cells slots ls hl hP hD hS hc hs)
theorem ae_X {g : AG} {s : State} {b n : Nat} {xs : Nat → Int32} (I : ae_I g s) (hb : b < (ag_s g).heap.size) (h : va_X b n xs (ag_s g) (ag_s g).heap) : va_X b n xs s s.heap := by
  obtain ⟨scr, h1, h2, h3, h4, h5⟩ := h
  exact ⟨scr, by rw [I.2.2 b hb]; exact h1, State.isArrayOf_alike I.1.alike h2, h3, h4, h5⟩
theorem st_sld {g : AG} {d : Nat} {M : AM} {Q : AO → va_W → Prop} {pc : Nat} {L : List (Option Value)} {st : List Value} {ws : va_W} {rc rs : Nat} {pc' : Nat} (hp : pc + 1 = pc') {b n : Nat} {xs : Nat → Int32} {i : Int32} (hX : ae_G g → va_X b n xs (ag_s g) (ag_s g).heap ∧ b < (ag_s g).heap.size) (hin : vp_in i n) (dd : decode (am_c M) pc = .ok (.iaload, 1)) (kk : Wp g d M Q pc' L (.int (xs i.toNatClampNeg) :: st) ws rc rs) : Wp g d M Q pc L (.int i :: .ref b :: st) ws rc rs := by
  intro p e s m args below meth c mc ms C H locs cells slots ls hl hP hD hS hc hs
  obtain ⟨G, I, hx, hb, hml, hown, hr, hlk, hnm, htb⟩ := C
  subst hp
  obtain ⟨h1, h2⟩ := hX G
  exact va_sld (A := ae_A g) hx hb (ae_X I h2 h1) (Nat.lt_of_lt_of_le h2 I.2.1) (Nat.not_le.mpr h2) hS hin dd (kk p e s m args below meth c mc ms ⟨G, I, hx, hb, hml, hown, hr, hlk, hnm, htb⟩ H locs cells slots ls hl hP hD hS hc hs)
theorem st_slen {g : AG} {d : Nat} {M : AM} {Q : AO → va_W → Prop} {pc : Nat} {L : List (Option Value)} {st : List Value} {ws : va_W} {rc rs : Nat} {pc' : Nat} (hp : pc + 1 = pc') {b n : Nat} {xs : Nat → Int32} (hX : ae_G g → va_X b n xs (ag_s g) (ag_s g).heap ∧ b < (ag_s g).heap.size) (dd : decode (am_c M) pc = .ok (.arraylength, 1)) (kk : Wp g d M Q pc' L (.int (Int32.ofNat n) :: st) ws rc rs) : Wp g d M Q pc L (.ref b :: st) ws rc rs := by
  intro p e s m args below meth c mc ms C H locs cells slots ls hl hP hD hS hc hs
  obtain ⟨G, I, hx, hb, hml, hown, hr, hlk, hnm, htb⟩ := C
  subst hp
  obtain ⟨h1, h2⟩ := hX G
  exact va_slen (A := ae_A g) hx hb (ae_X I h2 h1) (Nat.lt_of_lt_of_le h2 I.2.1) (Nat.not_le.mpr h2) hS dd (kk p e s m args below meth c mc ms ⟨G, I, hx, hb, hml, hown, hr, hlk, hnm, htb⟩ H locs cells slots ls hl hP hD hS hc hs)
theorem ae_q {g : AG} {Q : AO → va_W → Prop} {s t : State} {H : Heap} {locs : List Loc} {ws : va_W} {v : Option Value} {args : Array Value} (hP : va_P (ag_D g) vwCl ws H) (hD : va_D (ae_A g) ws) (hS : va_S (ae_A g) s.heap H locs) (h : Q (.inl v) ws) (ht : t.heap = H) : ae_Qc g Q args s (.returned v) t := ⟨⟨v, ws, rfl, h, by rw [ht]; exact hP, hD⟩, hS.F ht⟩
theorem st_iret {g : AG} {d : Nat} {M : AM} {Q : AO → va_W → Prop} {pc : Nat} {L : List (Option Value)} {st : List Value} {ws : va_W} {rc rs : Nat} {v : Int32} {ty : FieldType} (hty : am_r M = some ty) (hn : narrow ty (.int v) = .int v) (dd : decode (am_c M) pc = .ok (.ireturn, 1)) (kk : Q (.inl (some (.int v))) ws) : Wp g d M Q pc L [.int v] ws rc rs := by
  intro p e s m args below meth c mc ms C H locs cells slots ls hl hP hD hS hc hs
  obtain ⟨G, I, hx, hb, hml, hown, hr, hlk, hnm, htb⟩ := C
  refine W.widen (k := mc) (n := ms) (by omega) (by omega) (vx_ret (W.zret hx hb (hr.trans hty) hn (fun t ht _ => ae_q hP hD hS kk ht) hS.2.2 dd hlk))
theorem st_lret {g : AG} {d : Nat} {M : AM} {Q : AO → va_W → Prop} {pc : Nat} {L : List (Option Value)} {st : List Value} {ws : va_W} {rc rs : Nat} {v : Int64} (hty : am_r M = some .long) (dd : decode (am_c M) pc = .ok (.lreturn, 1)) (kk : Q (.inl (some (.long v))) ws) : Wp g d M Q pc L [.long v] ws rc rs := by
  intro p e s m args below meth c mc ms C H locs cells slots ls hl hP hD hS hc hs
  obtain ⟨G, I, hx, hb, hml, hown, hr, hlk, hnm, htb⟩ := C
  refine W.widen (k := mc) (n := ms) (by omega) (by omega) (vx_ret (W.lret hx hb (hr.trans hty) (fun t ht _ => ae_q hP hD hS kk ht) hS.2.2 dd hlk))
theorem st_vret {g : AG} {d : Nat} {M : AM} {Q : AO → va_W → Prop} {pc : Nat} {L : List (Option Value)} {st : List Value} {ws : va_W} {rc rs : Nat} (hty : am_r M = none) (dd : decode (am_c M) pc = .ok (.return_, 1)) (kk : Q (.inl none) ws) : Wp g d M Q pc L [] ws rc rs := by
  intro p e s m args below meth c mc ms C H locs cells slots ls hl hP hD hS hc hs
  obtain ⟨G, I, hx, hb, hml, hown, hr, hlk, hnm, htb⟩ := C
  refine W.widen (k := mc) (n := ms) (by omega) (by omega) (vx_ret (W.vret hx hb (hr.trans hty) (fun t ht _ => ae_q hP hD hS kk ht) hS.2.2 dd hlk))
end AE1

section NX0
def nx_own (own : String) (ic : Nat) (X : String) (ix : Nat) (rx : ByteArray) (Y : String) (names : List String) : List Cond :=
  Bundle.throwableAtoms ++ Bundle.throwableSAtoms ++ (Bundle.passSAtoms X Y ix rx ++ Bundle.chainSAtoms Y names) ++
  [.methodLink own ic (Bundle.initS X), .instantiable X 6, .castable X X, .selects X Bundle.tFill0 Bundle.tFill0, .selects X Bundle.tFill Bundle.tFill,
   .lays X Bundle.tN "cause" "Ljava/lang/Throwable;", .lays X Bundle.tN "stackTrace" Bundle.steD, .lays X Bundle.tN "suppressedExceptions" Bundle.listD, .lays X Bundle.tN "detailMessage" "Ljava/lang/String;",
   .isRef (.static Bundle.tN "UNASSIGNED_STACK" Bundle.steD), .isRef (.static Bundle.tN "SUPPRESSED_SENTINEL" Bundle.listD),
   .fieldLink Bundle.tN 198 Bundle.tN "backtrace" "Ljava/lang/Object;", .lays Bundle.tN Bundle.tN "backtrace" "Ljava/lang/Object;", .lays X Bundle.tN "backtrace" "Ljava/lang/Object;"]
theorem nx_chain {args : Array Value} {s : State} {pl : Platform} (hpl : pl.magicAccessors = ({} : Platform).magicAccessors) {top : MethodId} (htop : s.methodNamed? (Bundle.initS Bundle.tN) = some top) {ix : Nat} {rx : ByteArray} (x0 : decode rx 0 = .ok (.aload_n 0, 1)) (x1 : decode rx 1 = .ok (.aload_n 1, 1)) (x2 : decode rx 2 = .ok (.invokespecial ix, 3)) (x5 : decode rx 5 = .ok (.return_, 1)) {X Y : String} {names : List String} (hX : Bundle.fit X = true) (hY : Bundle.fit Y = true) (hn : ∀ n ∈ names, Bundle.fit n = true) (h : ∀ c ∈ Bundle.passSAtoms X Y ix rx ++ Bundle.chainSAtoms Y names, c.before args s = true) :
    ∃ (P1 : PassC) (Ps : List PassC), Ps.length = names.length + 1 ∧ P1.LinksS pl s ∧ (∀ P, P ∈ Ps → P.LinksS pl s) ∧ s.methodNamed? (Bundle.initS X) = some P1.m ∧ P1.sup = firstOf top (Ps.map (·.toPassT)) ∧ PassesOn top (Ps.map (·.toPassT)) := by
  obtain ⟨P, L, hm, hs⟩ := PassC.ofS_atoms (args := args) (s := s) hpl (X := X) (Y := Y) (Bundle.fit_spec hX).1 (Bundle.fit_spec hY).2 x0 x1 x2 x5 (fun c hc => h c (List.mem_append_left _ hc))
  obtain ⟨P', Ps, hlen, L', hL, hm', hsup, hpass⟩ := Bundle.chainS (args := args) hpl htop names Y hY hn (fun c hc => h c (List.mem_append_right _ hc))
  refine ⟨P, P' :: Ps, by simp [hlen], L, ?_, hm, Option.some.inj (hs.symm.trans hm'), hsup, hpass⟩
  intro Q hQ
  rcases List.mem_cons.mp hQ with rfl | hQ
  · exact L'
  · exact hL Q hQ
end NX0
section NX1
variable {p : Program} {l : Launch} {e : Env} {R : Room} {s : State} {m₀ : MethodId} {args : Array Value} {below : List Frame} {meth : Method} {c : Code} {W : State} {locs : List Loc} {cells slots : Nat}
set_option maxHeartbeats 1000000 in
theorem nx_ctor (X : Stand p l e R s m₀ args below meth c W locs cells slots) (hexec : p.tables.exec = Jvm.exec) (htr : e.platform.stackTraces = false) {own cls Y0 : String} {names : List String} {ic ix : Nat} {rx : ByteArray} (x0 : decode rx 0 = .ok (.aload_n 0, 1)) (x1 : decode rx 1 = .ok (.aload_n 1, 1)) (x2 : decode rx 2 = .ok (.invokespecial ix, 3)) (x5 : decode rx 5 = .ok (.return_, 1)) (hY0 : Bundle.fit Y0 = true)
    (hown : s.vm.findClass own = some m₀.cls) (hcls : Bundle.fit cls = true) (hnames : ∀ n ∈ names, Bundle.fit n = true)
    (h : ∀ a ∈ nx_own own ic cls ix rx Y0 names, a.before args s = true)
    (hlocs : ∀ x ∈ locs, ∀ cell, s.heap[x.base]? = some cell → cell.vm.isStatics = false)
    {a : Addr} {cX : ClassId} {kX : Class} (hfoundX : s.vm.findClass cls = some cX) (hkX : s.vm.classes[cX]? = some kX) (hcell : W.heap[a]? = some (freshCell cX kX)) (hnew : s.heap.size ≤ a)
    {msg : Value} (hmsg : msg.isRef = true)
    {g : JFrame} (hg : g.method = m₀) (hsize : g.locals.size = c.maxLocals) (hlocked : g.locked = none) (hentered : g.entered = []) {rest : List Value} (hstack : g.stack = msg :: .ref a :: .ref a :: rest)
    (hd6 : decode c.code g.pc = .ok (.invokespecial ic, 3)) (hd9 : decode c.code (g.pc + 3) = .ok (.athrow, 1)) (hout : ∀ x ∈ c.exceptionTable.toList, covers x (g.pc + 3) = false)
    (hRframes : names.length + 4 < R.frames) (hRlocals : 2 * g.monitorRoom + ((Value.ref a :: rest).map fun v => v.category).sum + (13 * (names.length + 2) + 42) ≤ R.locals) (hlocks : meth.locks = false) :
    ∃ U : State, Steps p.tables e below (W.setTop g) U ∧ U.status = .running ∧ Ended U below (.threw a) ∧ s.WarmedH U.vm ∧ s.sameButNew ({ U with vm := s.vm } : State) locs cells slots ∧ ∃ ce, U.heap[a]? = some ce ∧ ce.cls = cX ∧ ce.vm = .none := by
  have howns : e.platform.frameOwnsMonitors = true := by rw [X.admits.platform]
  have hfin : e.platform.finalization = false := by rw [X.admits.platform]
  have hpl : e.platform.magicAccessors = ({} : Platform).magicAccessors := by rw [X.admits.platform]
  have a' : ∀ x, x ∈ nx_own own ic cls ix rx Y0 names → x.holds args s none s [] = true := fun x hx => h x hx
  obtain ⟨T, Z0, L, -, Y⟩ := ThrowableC.of_atoms (args := args) howns hfin hpl (fun x hx => h x (by simp [nx_own, hx]))
  obtain ⟨Z, M, LZ, LM, hnZ⟩ := Init0T.ofS_atoms (args := args) hpl L Y (fun x hx => h x (by simp [nx_own, hx]))
  obtain ⟨P1, Ps, hlen, L1, hL, hP1m, hlink1, hlink⟩ := nx_chain (args := args) hpl hnZ x0 x1 x2 x5 hcls hY0 hnames (fun x hx => h x (by unfold nx_own; exact List.mem_append_left _ (List.mem_append_right _ hx)))
  have hfound : s.vm.findClass cls = some P1.m.cls := findClass_of_methodNamed hP1m
  cases Option.some.inj (hfoundX.symm.trans hfound)
  obtain ⟨c1, kX', hc1, hk, hord, -, -, hn6⟩ := Cond.instantiable_spec (a' (.instantiable cls 6) (by simp [nx_own]))
  cases Option.some.inj (hc1.symm.trans hfound)
  cases Option.some.inj (hkX.symm.trans hk)
  have hsel0 : selectMethod e.platform s.vm P1.m.cls T.fill0 = .method T.fill0 := by
    obtain ⟨c2, r2, m2, q1, q2, q3, q4, -⟩ := Cond.selects_spec (a' (.selects cls Bundle.tFill0 Bundle.tFill0) (by simp [nx_own]))
    cases Option.some.inj (q1.symm.trans hfound)
    cases Option.some.inj (q2.symm.trans (State.methodFound?_of_named Y.fill0 (by decide)))
    cases Option.some.inj (q3.symm.trans Y.fill0)
    rw [Launch.admits_selectMethod X.admits]; exact q4
  have hselF : selectMethod e.platform s.vm P1.m.cls T.fill = .method T.fill := by
    obtain ⟨c2, r2, m2, q1, q2, q3, q4, -⟩ := Cond.selects_spec (a' (.selects cls Bundle.tFill Bundle.tFill) (by simp [nx_own]))
    cases Option.some.inj (q1.symm.trans hfound)
    cases Option.some.inj (q2.symm.trans (State.methodFound?_of_named Y.fill (by decide)))
    cases Option.some.inj (q3.symm.trans Y.fill)
    rw [Launch.admits_selectMethod X.admits]; exact q4
  obtain ⟨cellS0, hcS0, hiss⟩ := Y.statics
  obtain ⟨u0, hu0⟩ := Cond.staticRefV Y.unassigned L.unassignedStatic L.statics hcS0 hiss (a' (.isRef (.static Bundle.tN "UNASSIGNED_STACK" Bundle.steD)) (by simp [nx_own]))
  obtain ⟨sen, hsen⟩ := Cond.staticRefV Y.sentinel L.sentinelStatic L.statics hcS0 hiss (a' (.isRef (.static Bundle.tN "SUPPRESSED_SENTINEL" Bundle.listD)) (by simp [nx_own]))
  obtain ⟨ci198, i198, fB, hk198, hg198, ha198, hsB, -, hnB, htB, hffB⟩ := Cond.ownField (t := .object "java/lang/Object") Y.found L.cls (by decide +kernel) (a' (.fieldLink Bundle.tN 198 Bundle.tN "backtrace" "Ljava/lang/Object;") (by simp [nx_own])) (a' (.lays Bundle.tN Bundle.tN "backtrace" "Ljava/lang/Object;") (by simp [nx_own])) e.platform hpl
  obtain ⟨cellS, hcS', heS, -, hkeep⟩ := X.same.2.2.2.2.2 T.aS cellS0 hcS0
  have hcellS : W.heap[T.aS]? = some cellS := hcS'
  have hout' : ∀ i, (⟨T.aS, i⟩ : Loc) ∉ locs := fun i hmem => by
    have := hlocs _ hmem cellS0 hcS0
    rw [hiss] at this; cases this
  have hknownS : cellS.vm ≠ .unknown := by
    rw [heS]; intro hu
    rw [show cellS0.vm = .unknown from hu] at hiss
    cases hiss
  have hneS : T.aS ≠ a := Nat.ne_of_lt (Nat.lt_of_lt_of_le (Array.getElem?_eq_some_iff.mp hcS0).1 hnew)
  obtain ⟨iM, hffM⟩ := Y.msg
  obtain ⟨tyC, dC, hdC, hdnC⟩ := Cond.laysAt hfound hk Y.cause (a' (.lays cls Bundle.tN "cause" "Ljava/lang/Throwable;") (by simp [nx_own]))
  obtain ⟨tyS, dS, hdS, hdnS⟩ := Cond.laysAt hfound hk Y.stack (a' (.lays cls Bundle.tN "stackTrace" Bundle.steD) (by simp [nx_own]))
  obtain ⟨tyP, dP, hdP, hdnP⟩ := Cond.laysAt hfound hk Y.supp (a' (.lays cls Bundle.tN "suppressedExceptions" Bundle.listD) (by simp [nx_own]))
  obtain ⟨tyM, dM, hdM, hdnM⟩ := Cond.laysAt hfound hk hffM (a' (.lays cls Bundle.tN "detailMessage" "Ljava/lang/String;") (by simp [nx_own]))
  obtain ⟨tyB, dB, hdB, hdnB⟩ := Cond.laysAt hfound hk hffB (a' (.lays cls Bundle.tN "backtrace" "Ljava/lang/Object;") (by simp [nx_own]))
  have bC := Cond.laysApart hdB hdC hdnB hdnC (by rw [hnB, Y.causeName]; decide)
  have bS := Cond.laysApart hdB hdS hdnB hdnS (by rw [hnB, Y.stackName]; decide)
  have bP := Cond.laysApart hdB hdP hdnB hdnP (by rw [hnB, Y.suppName]; decide)
  have hskip : SkipFacts T e.platform s (fun u => u) u0 ((preparedCellV T.toThrowableT (freshCell P1.m.cls kX) a u0 sen).withEntry W.cur) :=
    ⟨{ ci198 := ci198, i198 := i198, fBack := fB }, ⟨hk198, hg198, ha198, hsB⟩, by
      have := fresh_default (c := P1.m.cls) tyB
      rw [htB] at this
      simpa [preparedCellV, Cell.setSlot, Cell.withEntry, Array.getElem?_setIfInBounds, bC, bS, bP, bC.symm, bS.symm, bP.symm, defaultValue] using this, fun _ _ => rfl⟩
  obtain ⟨tm, methC, cdC, kC, vm₁, hnC, -, -, -, -, -, -, -, hW₁, st1⟩ := Steps.initColdS (tb := p.tables) (e := e) (below := below) (s := s) (U := W) X.here hexec X.warmed hpl hown (t := Bundle.initS cls) rfl rfl (Bundle.fit_spec hcls).2
    (a' (.methodLink own ic (Bundle.initS cls)) (by simp [nx_own])) (h (.instanceMethod (Bundle.initS cls)) (by simp [nx_own, Bundle.passSAtoms])) (bytes := rx) (maxL := 2) (h (.code (Bundle.initS cls) rx 2 none) (by simp [nx_own, Bundle.passSAtoms]))
    (f := g) hg (a := a) (msg := msg) (rest := .ref a :: rest) hstack hd6
  cases Option.some.inj (hnC.symm.trans hP1m)
  have X₁ := X.noted hW₁
  obtain ⟨vm₂, X₂, st2⟩ := X₁.ctorMessageOffV hexec (g := { g with stack := .ref a :: rest }) hg hsize T L Z LZ M LM (P1 :: Ps)
    (fun P hP => by rcases List.mem_cons.mp hP with rfl | hP; exact L1; exact hL P hP) ⟨hlink1, hlink⟩ (u0 := u0) (sen := sen) (self := a) hmsg (cell := freshCell P1.m.cls kX) (cellS := cellS)
    hcell (fun _ => by simp) (by simp) rfl rfl hsel0 hselF hcellS hneS hknownS (by rw [hkeep _ (hout' _)]; exact hu0) (by rw [hkeep _ (hout' _)]; exact hsen)
    (Takes.of_laid hk hord tyC (by rw [Y.causeType]; rfl)) (Takes.of_laid hk hord tyS (by rw [Y.stackType]; exact fits_refV_array _ u0)) (Takes.of_laid hk hord tyP (by rw [Y.suppType]; exact fits_refV_object _ sen))
    (Takes.of_laid hk hord tyM (by rw [Y.msgType]; exact fits_refV_object _ ⟨msg, hmsg⟩)) Y.objLocals hskip htr [] hd6
    (by simp only [List.length_cons, hlen]; omega) (by simp only [List.length_cons, hlen]; exact hRlocals)
  obtain ⟨hwalk, hrun, hended, hWU, hsame⟩ := X₂.athrowLeaves hexec (g := { g with stack := .ref a :: rest, pc := g.pc + 3 }) hg hlocked hentered hout (a := a) (rest := rest) rfl hd9
  have hlt : a < ((W.setVm vm₁).setVm vm₂).heap.size := (Array.getElem?_eq_some_iff.mp hcell).1
  have hU := heapAt_setCell_self (s := (W.setVm vm₁).setVm vm₂) (plainBareV T.toThrowableT (freshCell P1.m.cls kX) a u0 sen msg) hlt
  refine ⟨_, st1 _ (fun acts => ?_), hrun, hended, hWU, hsame.weaken (fun y hy hlt' => ?_) (Nat.le_refl _) (Nat.le_refl _), _, hU, rfl, rfl⟩
  · rw [doInvoke_state]
    exact st2 _ hwalk
  · rcases List.mem_append.mp hy with h1 | h1
    · exact h1
    · exfalso
      have hb : y.base = a := by
        simp only [List.mem_cons, List.not_mem_nil, or_false] at h1
        rcases h1 with rfl | rfl | rfl | rfl | rfl <;> rfl
      rw [hb] at hlt'
      exact Nat.not_lt.mpr hnew hlt'
end NX1
section NX2
variable {p : Program} {l : Launch} {e : Env} {R : Room} {s : State} {m : MethodId} {args : Array Value} {below : List Frame} {meth : Method} {c : Code} {H : Heap} {locs : List Loc} {cells slots : Nat} {Q : State → Prop}
variable {mc ms : Nat} {free : Addr → Prop} {A0 A1 : Nat → Prop} {H0 : Heap} {a : Array Value} {ls : Array Slot} {st0 rest : List Value}
variable {Qc : Array Value → State → Outcome → State → Prop} {XC : String → State → State → Prop}
def nx_atS (own : String) (ic : Nat) (X : String) (ix : Nat) (rx : ByteArray) (Y : String) (names : List String) : List Cond := (nx_own own ic X ix rx Y names).filter vx_no
theorem nx_throwS {cc : ByteArray} {pc : Nat} (hexec : p.tables.exec = Jvm.exec) (hb : c.code = cc) (hl : l.stackTraces = false) {own cls text Y0 : String} {names : List String} {ik is ic mc ms sa ix : Nat} {A : Nat → Prop} {rx : ByteArray} (x0 : decode rx 0 = .ok (.aload_n 0, 1)) (x1 : decode rx 1 = .ok (.aload_n 1, 1)) (x2 : decode rx 2 = .ok (.invokespecial ix, 3)) (x5 : decode rx 5 = .ok (.return_, 1)) (hY0 : Bundle.fit Y0 = true)
    (hown : s.vm.findClass own = some m.cls) (hcls : Bundle.fit cls = true) (hnames : ∀ n ∈ names, Bundle.fit n = true)
    (hk : (Cond.classLink own ik cls).before args s = true) (hini : (Cond.initialized cls).before args s = true) (hstr : vk_R own is text sa s) (hat : ∀ w ∈ nx_atS own ic cls ix rx Y0 names, w.before args s = true)
    (hgood : ∀ w ∈ Cond.classLink own ik cls :: Cond.initialized cls :: nx_atS own ic cls ix rx Y0 names, vx_ot w = true)
    (hU : vx_Zq Bundle.tN "UNASSIGNED_STACK" Bundle.steD A s s.heap) (hN : vx_Zq Bundle.tN "SUPPRESSED_SENTINEL" Bundle.listD A s s.heap) (hS : va_S A s.heap H locs) (hsize : ls.size = c.maxLocals)
    (d0 : decode cc pc = .ok (.new ik, 3)) (d3 : decode cc (pc + 3) = .ok (.dup, 1)) (d4 : decode cc (pc + 4) = .ok (.ldc is, 2)) (d6 : decode cc (pc + 6) = .ok (.invokespecial ic, 3)) (d9 : decode cc (pc + 9) = .ok (.athrow, 1))
    (hout : ∀ x ∈ c.exceptionTable.toList, covers x (pc + 9) = false)
    (hRframes : names.length + 4 < R.frames) (hRlocals : (rest.map fun v => v.category).sum + (13 * (names.length + 2) + 43) ≤ R.locals) (hRcells : cells + 1 ≤ R.cells) (hRslots : slots + 6 ≤ R.slots) (hlocks : meth.locks = false)
    (hx : ∀ t : State, s.vm.Alike t.vm → H.size ≤ t.heap.size → (∀ q : Nat, q < H.size → t.heap[q]? = H[q]?) → XC cls s t)
    (hf : ∀ z ∈ locs, free z.base) (hc : cells + 1 ≤ mc) (hs : slots + 6 ≤ ms) :
    W p l e R s m args below meth c H locs cells slots (vx_MQ below Qc XC args s mc ms free) (F0 m pc ls rest) := by
  intro T hT X
  have htr : e.platform.stackTraces = false := (show e.platform.stackTraces = l.stackTraces by rw [X.admits.platform]).trans hl
  have Y := vx_rebase X (R' := { frames := R.frames, locals := R.locals, cells := 1, slots := 6 }) (Nat.le_refl _) (Nat.le_refl _) hRcells hRslots
  obtain ⟨s', hA⟩ : ∃ z, z = (T.setVm s.vm).setFrames (.invoking m args :: below) := ⟨_, rfl⟩
  rw [← hA] at Y
  have hvm : s'.vm = s.vm := by rw [hA]; rfl
  have hhp : s'.heap = H := by rw [hA]; exact hT
  have hW0 : s.WarmedH s'.vm := by rw [hvm]; exact State.WarmedH.refl s
  have hat' : ∀ w ∈ nx_atS own ic cls ix rx Y0 names, w.before args s' = true := fun w hw => vx_ot_at hW0 hvm.symm (hgood w (List.mem_cons_of_mem _ (List.mem_cons_of_mem _ hw))) (hat w hw)
  have hk' : (Cond.classLink own ik cls).before args s' = true := vx_ot_at hW0 hvm.symm (hgood _ List.mem_cons_self) hk
  have hini' : (Cond.initialized cls).before args s' = true := vx_ot_at hW0 hvm.symm (hgood _ (List.mem_cons_of_mem _ List.mem_cons_self)) hini
  have hU' : vx_Zq Bundle.tN "UNASSIGNED_STACK" Bundle.steD A s' s'.heap := by rw [hhp]; exact vx_Zq.moved hW0.alike (hU.kept hS.2.1)
  have hN' : vx_Zq Bundle.tN "SUPPRESSED_SENTINEL" Bundle.listD A s' s'.heap := by rw [hhp]; exact vx_Zq.moved hW0.alike (hN.kept hS.2.1)
  have h : ∀ w ∈ nx_own own ic cls ix rx Y0 names, w.before args s' = true := vx_own hat' (vx_isRefq hU'.1) (vx_isRefq hN'.1) hU'.2.word hN'.2.word
  have hown' : s'.vm.findClass own = some m.cls := by rw [hvm]; exact hown
  have hins : (Cond.instantiable cls 6).before args s' = true := h _ (by simp [nx_own])
  obtain ⟨vm₁, cX, kX, hfX, hkX, -, -, X₁, st1⟩ := Y.newCold hexec (own := own) (C := cls) (index := ik) (n := 6) hown' hk' hins hini'
    (g := F0 m pc ls rest) rfl (by rw [hb]; exact d0) (Nat.le_refl _) (Nat.le_refl _)
  generalize hT1 : (T.setVm vm₁).pushCell { cls := cX, slots := kX.instanceTypes.map defaultValue, vm := .none } = T1 at X₁ st1
  have hcat : (Value.ref T.heap.size).category = 1 := rfl
  have hcellA : T1.heap[T.heap.size]? = some (freshCell cX kX) := by rw [← hT1]; exact State.heap_pushCell_size _ _
  have d3' : decode c.code (pc + 3) = .ok (.dup, 1) := by rw [hb]; exact d3
  have d4' : decode c.code (pc + 4) = .ok (.ldc is, 2) := by rw [hb]; exact d4
  have hstr' : vk_R own is text sa s' := vk_R.warm hW0 hstr
  obtain ⟨U, hsteps, hrun, hend, hW, hsame, ce, hce, hO1, hO2⟩ := nx_ctor X₁ hexec htr (own := own) (cls := cls) (names := names) (ic := ic) x0 x1 x2 x5 hY0 hown' hcls hnames h (fun x hx => nomatch hx) hfX hkX hcellA (by rw [hhp, hT]; exact Nat.le_refl _) (msg := .ref sa) rfl
    (g := { method := m, pc := pc + 6, locals := ls, stack := .ref sa :: .ref T.heap.size :: .ref T.heap.size :: rest, locked := none }) rfl hsize rfl rfl (rest := rest) rfl
    (by rw [hb]; exact d6) (by rw [hb]; exact d9) hout hRframes (by simp only [List.map_cons, List.sum_cons, hcat]; omega) hlocks
  obtain ⟨f1, f2⟩ := vx_frame hsame
  rw [hhp] at f1 f2
  have hWs : s.WarmedH U.vm := State.WarmedH.trans hW0 hW
  have hcl : s.vm.findClass cls = some ce.cls := by
    rw [hO1, ← hvm]
    exact hfX
  have hall : s.sameButNew ({ U with vm := s.vm } : State) locs mc ms := by
    subst hA
    obtain ⟨e1, e2⟩ := hsame
    rw [State.setFrames_setFrames] at e1
    have h2 : (T.setVm s.vm).sameButNew ({ U with vm := s.vm } : State) [] (0 + 1) (0 + 6) := ⟨e1, e2⟩
    have h3 := X.same.trans h2
    rw [List.append_nil] at h3
    exact h3.mono hc hs
  refine ⟨U, ?_, .threw T.heap.size, hrun, hend, Or.inr ⟨T.heap.size, rfl, cls, ce, locs, hx U hWs.alike f1 (fun q hq => f2 q hq (fun z hz => nomatch hz)), hce, hO2, hcl, hWs, hall, hf⟩⟩
  refine st1 _ ?_
  show Steps p.tables e below (T1.setTop { method := m, pc := pc + 3, locals := ls, stack := .ref T.heap.size :: rest, locked := none }) _
  jvm_step X₁.here [X₁.here.top, hexec, d3', Value.category]
  exact X₁.ldcString hexec (own := own) (text := text) (index := is) (a := sa) hown' hstr'.1 hstr'.2
    (g := { method := m, pc := pc + 4, locals := ls, stack := .ref T.heap.size :: .ref T.heap.size :: rest, locked := none }) rfl d4' _ hsteps
theorem nx_throwSW {cc : ByteArray} {pc : Nat} (hexec : p.tables.exec = Jvm.exec) (hb : c.code = cc) (hl : l.stackTraces = false) {own cls text Y0 : String} {names : List String} {ik is ic mc ms sa ix : Nat} {A : Nat → Prop} {rx : ByteArray} (x0 : decode rx 0 = .ok (.aload_n 0, 1)) (x1 : decode rx 1 = .ok (.aload_n 1, 1)) (x2 : decode rx 2 = .ok (.invokespecial ix, 3)) (x5 : decode rx 5 = .ok (.return_, 1)) (hY0 : Bundle.fit Y0 = true)
    (hown : s.vm.findClass own = some m.cls) (hcls : Bundle.fit cls = true) (hnames : ∀ n ∈ names, Bundle.fit n = true)
    (hk : (Cond.classLink own ik cls).before args s = true) (hini : (Cond.initialized cls).before args s = true) (hstr : vk_R own is text sa s) (hat : ∀ w ∈ nx_atS own ic cls ix rx Y0 names, w.before args s = true)
    (hgood : ∀ w ∈ Cond.classLink own ik cls :: Cond.initialized cls :: nx_atS own ic cls ix rx Y0 names, vx_ot w = true)
    (hU : vx_Zq Bundle.tN "UNASSIGNED_STACK" Bundle.steD A s s.heap) (hN : vx_Zq Bundle.tN "SUPPRESSED_SENTINEL" Bundle.listD A s s.heap) (hS : va_S A s.heap H locs) (hsize : ls.size = c.maxLocals)
    (d0 : decode cc pc = .ok (.new ik, 3)) (d3 : decode cc (pc + 3) = .ok (.dup, 1)) (d4 : decode cc (pc + 4) = .ok (.ldc_w is, 3)) (d7 : decode cc (pc + 7) = .ok (.invokespecial ic, 3)) (d10 : decode cc (pc + 10) = .ok (.athrow, 1))
    (hout : ∀ x ∈ c.exceptionTable.toList, covers x (pc + 10) = false)
    (hRframes : names.length + 4 < R.frames) (hRlocals : (rest.map fun v => v.category).sum + (13 * (names.length + 2) + 43) ≤ R.locals) (hRcells : cells + 1 ≤ R.cells) (hRslots : slots + 6 ≤ R.slots) (hlocks : meth.locks = false)
    (hx : ∀ t : State, s.vm.Alike t.vm → H.size ≤ t.heap.size → (∀ q : Nat, q < H.size → t.heap[q]? = H[q]?) → XC cls s t)
    (hf : ∀ z ∈ locs, free z.base) (hc : cells + 1 ≤ mc) (hs : slots + 6 ≤ ms) :
    W p l e R s m args below meth c H locs cells slots (vx_MQ below Qc XC args s mc ms free) (F0 m pc ls rest) := by
  intro T hT X
  have htr : e.platform.stackTraces = false := (show e.platform.stackTraces = l.stackTraces by rw [X.admits.platform]).trans hl
  have Y := vx_rebase X (R' := { frames := R.frames, locals := R.locals, cells := 1, slots := 6 }) (Nat.le_refl _) (Nat.le_refl _) hRcells hRslots
  obtain ⟨s', hA⟩ : ∃ z, z = (T.setVm s.vm).setFrames (.invoking m args :: below) := ⟨_, rfl⟩
  rw [← hA] at Y
  have hvm : s'.vm = s.vm := by rw [hA]; rfl
  have hhp : s'.heap = H := by rw [hA]; exact hT
  have hW0 : s.WarmedH s'.vm := by rw [hvm]; exact State.WarmedH.refl s
  have hat' : ∀ w ∈ nx_atS own ic cls ix rx Y0 names, w.before args s' = true := fun w hw => vx_ot_at hW0 hvm.symm (hgood w (List.mem_cons_of_mem _ (List.mem_cons_of_mem _ hw))) (hat w hw)
  have hk' : (Cond.classLink own ik cls).before args s' = true := vx_ot_at hW0 hvm.symm (hgood _ List.mem_cons_self) hk
  have hini' : (Cond.initialized cls).before args s' = true := vx_ot_at hW0 hvm.symm (hgood _ (List.mem_cons_of_mem _ List.mem_cons_self)) hini
  have hU' : vx_Zq Bundle.tN "UNASSIGNED_STACK" Bundle.steD A s' s'.heap := by rw [hhp]; exact vx_Zq.moved hW0.alike (hU.kept hS.2.1)
  have hN' : vx_Zq Bundle.tN "SUPPRESSED_SENTINEL" Bundle.listD A s' s'.heap := by rw [hhp]; exact vx_Zq.moved hW0.alike (hN.kept hS.2.1)
  have h : ∀ w ∈ nx_own own ic cls ix rx Y0 names, w.before args s' = true := vx_own hat' (vx_isRefq hU'.1) (vx_isRefq hN'.1) hU'.2.word hN'.2.word
  have hown' : s'.vm.findClass own = some m.cls := by rw [hvm]; exact hown
  have hins : (Cond.instantiable cls 6).before args s' = true := h _ (by simp [nx_own])
  obtain ⟨vm₁, cX, kX, hfX, hkX, -, -, X₁, st1⟩ := Y.newCold hexec (own := own) (C := cls) (index := ik) (n := 6) hown' hk' hins hini'
    (g := F0 m pc ls rest) rfl (by rw [hb]; exact d0) (Nat.le_refl _) (Nat.le_refl _)
  generalize hT1 : (T.setVm vm₁).pushCell { cls := cX, slots := kX.instanceTypes.map defaultValue, vm := .none } = T1 at X₁ st1
  have hcat : (Value.ref T.heap.size).category = 1 := rfl
  have hcellA : T1.heap[T.heap.size]? = some (freshCell cX kX) := by rw [← hT1]; exact State.heap_pushCell_size _ _
  have d3' : decode c.code (pc + 3) = .ok (.dup, 1) := by rw [hb]; exact d3
  have d4' : decode c.code (pc + 4) = .ok (.ldc_w is, 3) := by rw [hb]; exact d4
  have hstr' : vk_R own is text sa s' := vk_R.warm hW0 hstr
  obtain ⟨U, hsteps, hrun, hend, hW, hsame, ce, hce, hO1, hO2⟩ := nx_ctor X₁ hexec htr (own := own) (cls := cls) (names := names) (ic := ic) x0 x1 x2 x5 hY0 hown' hcls hnames h (fun x hx => nomatch hx) hfX hkX hcellA (by rw [hhp, hT]; exact Nat.le_refl _) (msg := .ref sa) rfl
    (g := { method := m, pc := pc + 7, locals := ls, stack := .ref sa :: .ref T.heap.size :: .ref T.heap.size :: rest, locked := none }) rfl hsize rfl rfl (rest := rest) rfl
    (by rw [hb]; exact d7) (by rw [hb]; exact d10) hout hRframes (by simp only [List.map_cons, List.sum_cons, hcat]; omega) hlocks
  obtain ⟨f1, f2⟩ := vx_frame hsame
  rw [hhp] at f1 f2
  have hWs : s.WarmedH U.vm := State.WarmedH.trans hW0 hW
  have hcl : s.vm.findClass cls = some ce.cls := by
    rw [hO1, ← hvm]
    exact hfX
  have hall : s.sameButNew ({ U with vm := s.vm } : State) locs mc ms := by
    subst hA
    obtain ⟨e1, e2⟩ := hsame
    rw [State.setFrames_setFrames] at e1
    have h2 : (T.setVm s.vm).sameButNew ({ U with vm := s.vm } : State) [] (0 + 1) (0 + 6) := ⟨e1, e2⟩
    have h3 := X.same.trans h2
    rw [List.append_nil] at h3
    exact h3.mono hc hs
  refine ⟨U, ?_, .threw T.heap.size, hrun, hend, Or.inr ⟨T.heap.size, rfl, cls, ce, locs, hx U hWs.alike f1 (fun q hq => f2 q hq (fun z hz => nomatch hz)), hce, hO2, hcl, hWs, hall, hf⟩⟩
  refine st1 _ ?_
  show Steps p.tables e below (T1.setTop { method := m, pc := pc + 3, locals := ls, stack := .ref T.heap.size :: rest, locked := none }) _
  jvm_step X₁.here [X₁.here.top, hexec, d3', Value.category]
  exact X₁.ldcStringW hexec (own := own) (text := text) (index := is) (a := sa) hown' hstr'.1 hstr'.2
    (g := { method := m, pc := pc + 4, locals := ls, stack := .ref T.heap.size :: .ref T.heap.size :: rest, locked := none }) rfl d4' _ hsteps
end NX2
section MO
theorem ae_w2 {g : AG} {U : State} {args : Array Value} {w : Cond} (G : ae_G g) (I : ae_I g U) (hw : w ∈ lw_tbl) (h1 : w.onTables = true) (h2 : w.keepsFace = true) : w.before args U = true := by
  have h3 := Cond.before_shiftedFace (State.Shifted.of_warmed I.1) w h2 (G.2.2.1 w hw)
  rw [Cond.onTables_vm (A' := args) (U' := U) U.vm w h1, State.setVm_self] at h3
  exact h3
/-- the words of a throw, at its constructor's link -/
def ae_thr (ic : Nat) (E : String) : Prop := (∀ w ∈ vx_atS RX10 ic E ["java/lang/RuntimeException", "java/lang/Exception"], w ∈ lw_tbl ∧ w.onTables = true ∧ w.keepsFace = true) ∧ Bundle.fit E = true
theorem thr_IllegalArgumentException_221 : ae_thr 221 "java/lang/IllegalArgumentException" := ⟨by decide +kernel, by decide +kernel⟩
theorem thr_UnsupportedOperationException_147 : ae_thr 147 "java/lang/UnsupportedOperationException" := ⟨by decide +kernel, by decide +kernel⟩
theorem thr_IndexOutOfBoundsException_315 : ae_thr 315 "java/lang/IndexOutOfBoundsException" := ⟨by decide +kernel, by decide +kernel⟩
def nx_thr (ic : Nat) (E : String) : Prop := (∀ w ∈ nx_atS RX10 ic E 13 prog_26_method_4_code "java/lang/RuntimeException" ["java/lang/Exception"], w ∈ lw_tbl ∧ w.onTables = true ∧ w.keepsFace = true) ∧ Bundle.fit E = true
theorem thr_NoSuchElementException_197 : nx_thr 197 "java/util/NoSuchElementException" := ⟨by decide +kernel, by decide +kernel⟩
theorem ae_Zq {g : AG} {s : State} {C n d : String} (I : ae_I g s) (h : vx_Zq C n d (ae_A g) (ag_s g) (ag_s g).heap) : vx_Zq C n d (ae_A g) s s.heap := (vx_Zq.moved I.1.alike h).kept (fun a ha _ => I.2.2 a ha)
theorem ae_xc {g : AG} {Q : AO → va_W → Prop} {E : String} {s t : State} {H : Heap} {locs : List Loc} {ws : va_W} (hP : va_P (ag_D g) vwCl ws H) (hD : va_D (ae_A g) ws) (hS : va_S (ae_A g) s.heap H locs) (kk : Q (.inr E) ws) (h1 : H.size ≤ t.heap.size) (h2 : ∀ q : Nat, q < H.size → t.heap[q]? = H[q]?) : ae_XC g Q E s t :=
  ⟨⟨ws, kk, hP.kept (fun k q hk => h2 q.1 (hP k q hk).lt), hD⟩, ⟨Nat.le_trans hS.1 h1, fun q hq hA => (h2 q (Nat.lt_of_lt_of_le hq hS.1)).trans (hS.2.1 q hq hA)⟩⟩
theorem st_throw {g : AG} {d : Nat} {M : AM} {Q : AO → va_W → Prop} {pc : Nat} {L : List (Option Value)} {st : List Value} {ws : va_W} {rc rs : Nat} (hh : am_h M = []) {cls text : String} {ik is ic : Nat} (ht : ae_thr ic cls) (hM : (am_y M).cls = RX10) (hstr : (is, text) ∈ ae_strs) (hd : 8 ≤ d) (hcat : (st.map fun v => v.category).sum ≤ 8) (hk : Cond.classLink (am_y M).cls ik cls ∈ lw_tbl) (hini : Cond.initialized cls ∈ lw_tbl)
    (d0 : decode (am_c M) pc = .ok (.new ik, 3)) (d3 : decode (am_c M) (pc + 3) = .ok (.dup, 1)) (d4 : decode (am_c M) (pc + 4) = .ok (.ldc is, 2)) (d6 : decode (am_c M) (pc + 6) = .ok (.invokespecial ic, 3)) (d9 : decode (am_c M) (pc + 9) = .ok (.athrow, 1)) (kk : Q (.inr cls) ws) : Wp g d M Q pc L st ws (rc + 1) (rs + 6) := by
  intro p e s m args below meth c mc ms C H locs cells slots ls hl hP hD hS hc hs
  obtain ⟨G, I, hx, hb, hml, hown, hr, hlk, hnm, htb⟩ := C
  obtain ⟨sa, hsa⟩ := G.2.2.2.2.2.2.1 _ hstr
  rw [hM] at hown hk
  refine vx_throwS (own := RX10) (cls := cls) (text := text) (names := ["java/lang/RuntimeException", "java/lang/Exception"]) (ik := ik) (is := is) (ic := ic) (A := ae_A g) (sa := sa) hx hb G.1 hown ht.2 (by decide +kernel) (ae_w G I hk rfl) (ae_w G I hini rfl) (vk_R.warm I.1 hsa) (fun w hw => ae_w2 G I (ht.1 w hw).1 (ht.1 w hw).2.1 (ht.1 w hw).2.2) ?_ (ae_Zq I G.2.2.2.2.2.1.1) (ae_Zq I G.2.2.2.2.2.1.2) hS (hl.1.trans hml.symm) d0 d3 d4 d6 d9 (fun x hx9 => by rw [htb, hh, tableOf_nil] at hx9; exact absurd hx9 List.not_mem_nil) ?_ ?_ ?_ ?_ hlk (fun t _ h1 h2 => ae_xc hP hD hS kk h1 h2) hS.2.2 (by omega) (by omega)
  · intro w hw
    rcases List.mem_cons.mp hw with rfl | hw
    · rfl
    · rcases List.mem_cons.mp hw with rfl | hw
      · rfl
      · unfold vx_ot
        rw [(ht.1 w hw).2.1]
        rfl
  · show 2 + 3 < d
    omega
  · show (st.map fun v => v.category).sum + (13 * (2 + 1) + 43) ≤ 48 * d
    omega
  · show cells + 1 ≤ mc
    omega
  · show slots + 6 ≤ ms
    omega
theorem sb_throw {g : AG} {ad : Nat → Nat} {d : Nat} {M : AM} {Q : AO → SG → Prop} {pc : Nat} {L : List (Option Value)} {st : List Value} {σ : SG} {rc rs : Nat} (hh : am_h M = []) {cls text : String} {ik is ic : Nat} (ht : ae_thr ic cls) (hd : 8 ≤ d) (hcat : (st.map fun v => v.category).sum ≤ 8) (hk : Cond.classLink (am_y M).cls ik cls ∈ lw_tbl) (hini : Cond.initialized cls ∈ lw_tbl) (hM : (am_y M).cls = RX10 ∧ (is, text) ∈ ae_strs)
    (d0 : decode (am_c M) pc = .ok (.new ik, 3)) (d3 : decode (am_c M) (pc + 3) = .ok (.dup, 1)) (d4 : decode (am_c M) (pc + 4) = .ok (.ldc is, 2)) (d6 : decode (am_c M) (pc + 6) = .ok (.invokespecial ic, 3)) (d9 : decode (am_c M) (pc + 9) = .ok (.athrow, 1)) (kk : Q (.inr cls) σ) : Wb g ad d M Q pc L st σ (rc + 1) (rs + 6) :=
  st_throw (text := text) hh ht hM.1 hM.2 hd hcat hk hini d0 d3 d4 d6 d9 ⟨σ, rfl, kk⟩
theorem st_throwW {g : AG} {d : Nat} {M : AM} {Q : AO → va_W → Prop} {pc : Nat} {L : List (Option Value)} {st : List Value} {ws : va_W} {rc rs : Nat} (hh : am_h M = []) {cls text : String} {ik is ic : Nat} (ht : ae_thr ic cls) (hM : (am_y M).cls = RX10) (hstr : (is, text) ∈ ae_strs) (hd : 8 ≤ d) (hcat : (st.map fun v => v.category).sum ≤ 8) (hk : Cond.classLink (am_y M).cls ik cls ∈ lw_tbl) (hini : Cond.initialized cls ∈ lw_tbl)
    (d0 : decode (am_c M) pc = .ok (.new ik, 3)) (d3 : decode (am_c M) (pc + 3) = .ok (.dup, 1)) (d4 : decode (am_c M) (pc + 4) = .ok (.ldc_w is, 3)) (d6 : decode (am_c M) (pc + 7) = .ok (.invokespecial ic, 3)) (d9 : decode (am_c M) (pc + 10) = .ok (.athrow, 1)) (kk : Q (.inr cls) ws) : Wp g d M Q pc L st ws (rc + 1) (rs + 6) := by
  intro p e s m args below meth c mc ms C H locs cells slots ls hl hP hD hS hc hs
  obtain ⟨G, I, hx, hb, hml, hown, hr, hlk, hnm, htb⟩ := C
  obtain ⟨sa, hsa⟩ := G.2.2.2.2.2.2.1 _ hstr
  rw [hM] at hown hk
  refine vx_throwSW (own := RX10) (cls := cls) (text := text) (names := ["java/lang/RuntimeException", "java/lang/Exception"]) (ik := ik) (is := is) (ic := ic) (A := ae_A g) (sa := sa) hx hb G.1 hown ht.2 (by decide +kernel) (ae_w G I hk rfl) (ae_w G I hini rfl) (vk_R.warm I.1 hsa) (fun w hw => ae_w2 G I (ht.1 w hw).1 (ht.1 w hw).2.1 (ht.1 w hw).2.2) ?_ (ae_Zq I G.2.2.2.2.2.1.1) (ae_Zq I G.2.2.2.2.2.1.2) hS (hl.1.trans hml.symm) d0 d3 d4 d6 d9 (fun x hx9 => by rw [htb, hh, tableOf_nil] at hx9; exact absurd hx9 List.not_mem_nil) ?_ ?_ ?_ ?_ hlk (fun t _ h1 h2 => ae_xc hP hD hS kk h1 h2) hS.2.2 (by omega) (by omega)
  · intro w hw
    rcases List.mem_cons.mp hw with rfl | hw
    · rfl
    · rcases List.mem_cons.mp hw with rfl | hw
      · rfl
      · unfold vx_ot
        rw [(ht.1 w hw).2.1]
        rfl
  · show 2 + 3 < d
    omega
  · show (st.map fun v => v.category).sum + (13 * (2 + 1) + 43) ≤ 48 * d
    omega
  · show cells + 1 ≤ mc
    omega
  · show slots + 6 ≤ ms
    omega
theorem sb_throwW {g : AG} {ad : Nat → Nat} {d : Nat} {M : AM} {Q : AO → SG → Prop} {pc : Nat} {L : List (Option Value)} {st : List Value} {σ : SG} {rc rs : Nat} (hh : am_h M = []) {cls text : String} {ik is ic : Nat} (ht : ae_thr ic cls) (hd : 8 ≤ d) (hcat : (st.map fun v => v.category).sum ≤ 8) (hk : Cond.classLink (am_y M).cls ik cls ∈ lw_tbl) (hini : Cond.initialized cls ∈ lw_tbl) (hM : (am_y M).cls = RX10 ∧ (is, text) ∈ ae_strs)
    (d0 : decode (am_c M) pc = .ok (.new ik, 3)) (d3 : decode (am_c M) (pc + 3) = .ok (.dup, 1)) (d4 : decode (am_c M) (pc + 4) = .ok (.ldc_w is, 3)) (d6 : decode (am_c M) (pc + 7) = .ok (.invokespecial ic, 3)) (d9 : decode (am_c M) (pc + 10) = .ok (.athrow, 1)) (kk : Q (.inr cls) σ) : Wb g ad d M Q pc L st σ (rc + 1) (rs + 6) :=
  st_throwW (text := text) hh ht hM.1 hM.2 hd hcat hk hini d0 d3 d4 d6 d9 ⟨σ, rfl, kk⟩
theorem nt_throw {g : AG} {d : Nat} {M : AM} {Q : AO → va_W → Prop} {pc : Nat} {L : List (Option Value)} {st : List Value} {ws : va_W} {rc rs : Nat} (hh : am_h M = []) {cls text : String} {ik is ic : Nat} (ht : nx_thr ic cls) (hM : (am_y M).cls = RX10) (hstr : (is, text) ∈ ae_strs) (hd : 8 ≤ d) (hcat : (st.map fun v => v.category).sum ≤ 8) (hk : Cond.classLink (am_y M).cls ik cls ∈ lw_tbl) (hini : Cond.initialized cls ∈ lw_tbl)
    (d0 : decode (am_c M) pc = .ok (.new ik, 3)) (d3 : decode (am_c M) (pc + 3) = .ok (.dup, 1)) (d4 : decode (am_c M) (pc + 4) = .ok (.ldc is, 2)) (d6 : decode (am_c M) (pc + 6) = .ok (.invokespecial ic, 3)) (d9 : decode (am_c M) (pc + 9) = .ok (.athrow, 1)) (kk : Q (.inr cls) ws) : Wp g d M Q pc L st ws (rc + 1) (rs + 6) := by
  intro p e s m args below meth c mc ms C H locs cells slots ls hl hP hD hS hc hs
  obtain ⟨G, I, hx, hb, hml, hown, hr, hlk, hnm, htb⟩ := C
  obtain ⟨sa, hsa⟩ := G.2.2.2.2.2.2.1 _ hstr
  rw [hM] at hown hk
  refine nx_throwS (own := RX10) (cls := cls) (text := text) (Y0 := "java/lang/RuntimeException") (names := ["java/lang/Exception"]) (ix := 13) (rx := prog_26_method_4_code) (ik := ik) (is := is) (ic := ic) (A := ae_A g) (sa := sa) hx hb G.1 (by decide +kernel) (by decide +kernel) (by decide +kernel) (by decide +kernel) (by decide +kernel) hown ht.2 (by decide +kernel) (ae_w G I hk rfl) (ae_w G I hini rfl) (vk_R.warm I.1 hsa) (fun w hw => ae_w2 G I (ht.1 w hw).1 (ht.1 w hw).2.1 (ht.1 w hw).2.2) ?_ (ae_Zq I G.2.2.2.2.2.1.1) (ae_Zq I G.2.2.2.2.2.1.2) hS (hl.1.trans hml.symm) d0 d3 d4 d6 d9 (fun x hx9 => by rw [htb, hh, tableOf_nil] at hx9; exact absurd hx9 List.not_mem_nil) ?_ ?_ ?_ ?_ hlk (fun t _ h1 h2 => ae_xc hP hD hS kk h1 h2) hS.2.2 (by omega) (by omega)
  · intro w hw
    rcases List.mem_cons.mp hw with rfl | hw
    · rfl
    · rcases List.mem_cons.mp hw with rfl | hw
      · rfl
      · unfold vx_ot
        rw [(ht.1 w hw).2.1]
        rfl
  · show 1 + 4 < d
    omega
  · show (st.map fun v => v.category).sum + (13 * (1 + 2) + 43) ≤ 48 * d
    omega
  · show cells + 1 ≤ mc
    omega
  · show slots + 6 ≤ ms
    omega
theorem nt_throwW {g : AG} {d : Nat} {M : AM} {Q : AO → va_W → Prop} {pc : Nat} {L : List (Option Value)} {st : List Value} {ws : va_W} {rc rs : Nat} (hh : am_h M = []) {cls text : String} {ik is ic : Nat} (ht : nx_thr ic cls) (hM : (am_y M).cls = RX10) (hstr : (is, text) ∈ ae_strs) (hd : 8 ≤ d) (hcat : (st.map fun v => v.category).sum ≤ 8) (hk : Cond.classLink (am_y M).cls ik cls ∈ lw_tbl) (hini : Cond.initialized cls ∈ lw_tbl)
    (d0 : decode (am_c M) pc = .ok (.new ik, 3)) (d3 : decode (am_c M) (pc + 3) = .ok (.dup, 1)) (d4 : decode (am_c M) (pc + 4) = .ok (.ldc_w is, 3)) (d6 : decode (am_c M) (pc + 7) = .ok (.invokespecial ic, 3)) (d9 : decode (am_c M) (pc + 10) = .ok (.athrow, 1)) (kk : Q (.inr cls) ws) : Wp g d M Q pc L st ws (rc + 1) (rs + 6) := by
  intro p e s m args below meth c mc ms C H locs cells slots ls hl hP hD hS hc hs
  obtain ⟨G, I, hx, hb, hml, hown, hr, hlk, hnm, htb⟩ := C
  obtain ⟨sa, hsa⟩ := G.2.2.2.2.2.2.1 _ hstr
  rw [hM] at hown hk
  refine nx_throwSW (own := RX10) (cls := cls) (text := text) (Y0 := "java/lang/RuntimeException") (names := ["java/lang/Exception"]) (ix := 13) (rx := prog_26_method_4_code) (ik := ik) (is := is) (ic := ic) (A := ae_A g) (sa := sa) hx hb G.1 (by decide +kernel) (by decide +kernel) (by decide +kernel) (by decide +kernel) (by decide +kernel) hown ht.2 (by decide +kernel) (ae_w G I hk rfl) (ae_w G I hini rfl) (vk_R.warm I.1 hsa) (fun w hw => ae_w2 G I (ht.1 w hw).1 (ht.1 w hw).2.1 (ht.1 w hw).2.2) ?_ (ae_Zq I G.2.2.2.2.2.1.1) (ae_Zq I G.2.2.2.2.2.1.2) hS (hl.1.trans hml.symm) d0 d3 d4 d6 d9 (fun x hx9 => by rw [htb, hh, tableOf_nil] at hx9; exact absurd hx9 List.not_mem_nil) ?_ ?_ ?_ ?_ hlk (fun t _ h1 h2 => ae_xc hP hD hS kk h1 h2) hS.2.2 (by omega) (by omega)
  · intro w hw
    rcases List.mem_cons.mp hw with rfl | hw
    · rfl
    · rcases List.mem_cons.mp hw with rfl | hw
      · rfl
      · unfold vx_ot
        rw [(ht.1 w hw).2.1]
        rfl
  · show 1 + 4 < d
    omega
  · show (st.map fun v => v.category).sum + (13 * (1 + 2) + 43) ≤ 48 * d
    omega
  · show cells + 1 ≤ mc
    omega
  · show slots + 6 ≤ ms
    omega
theorem sb_throwN {g : AG} {ad : Nat → Nat} {d : Nat} {M : AM} {Q : AO → SG → Prop} {pc : Nat} {L : List (Option Value)} {st : List Value} {σ : SG} {rc rs : Nat} (hh : am_h M = []) {cls text : String} {ik is ic : Nat} (ht : nx_thr ic cls) (hd : 8 ≤ d) (hcat : (st.map fun v => v.category).sum ≤ 8) (hk : Cond.classLink (am_y M).cls ik cls ∈ lw_tbl) (hini : Cond.initialized cls ∈ lw_tbl) (hM : (am_y M).cls = RX10 ∧ (is, text) ∈ ae_strs)
    (d0 : decode (am_c M) pc = .ok (.new ik, 3)) (d3 : decode (am_c M) (pc + 3) = .ok (.dup, 1)) (d4 : decode (am_c M) (pc + 4) = .ok (.ldc is, 2)) (d6 : decode (am_c M) (pc + 6) = .ok (.invokespecial ic, 3)) (d9 : decode (am_c M) (pc + 9) = .ok (.athrow, 1)) (kk : Q (.inr cls) σ) : Wb g ad d M Q pc L st σ (rc + 1) (rs + 6) :=
  nt_throw (text := text) hh ht hM.1 hM.2 hd hcat hk hini d0 d3 d4 d6 d9 ⟨σ, rfl, kk⟩
theorem sb_throwNW {g : AG} {ad : Nat → Nat} {d : Nat} {M : AM} {Q : AO → SG → Prop} {pc : Nat} {L : List (Option Value)} {st : List Value} {σ : SG} {rc rs : Nat} (hh : am_h M = []) {cls text : String} {ik is ic : Nat} (ht : nx_thr ic cls) (hd : 8 ≤ d) (hcat : (st.map fun v => v.category).sum ≤ 8) (hk : Cond.classLink (am_y M).cls ik cls ∈ lw_tbl) (hini : Cond.initialized cls ∈ lw_tbl) (hM : (am_y M).cls = RX10 ∧ (is, text) ∈ ae_strs)
    (d0 : decode (am_c M) pc = .ok (.new ik, 3)) (d3 : decode (am_c M) (pc + 3) = .ok (.dup, 1)) (d4 : decode (am_c M) (pc + 4) = .ok (.ldc_w is, 3)) (d6 : decode (am_c M) (pc + 7) = .ok (.invokespecial ic, 3)) (d9 : decode (am_c M) (pc + 10) = .ok (.athrow, 1)) (kk : Q (.inr cls) σ) : Wb g ad d M Q pc L st σ (rc + 1) (rs + 6) :=
  nt_throwW (text := text) hh ht hM.1 hM.2 hd hcat hk hini d0 d3 d4 d6 d9 ⟨σ, rfl, kk⟩
/-- n numbers of f from sp on, put into g from dp on -/
def cpy (f g : Int → Int) (sp dp n : Int) : Int → Int := fun j => if dp ≤ j ∧ j < dp + n then f (sp + (j - dp)) else g j
theorem i_nat {i : Int} {n : Nat} (h0 : 0 ≤ i) (h1 : i ≤ n) (hn : n < 2147483648) : ¬ Int32.ofInt i < 0 ∧ (Int32.ofInt i).toNatClampNeg = i.toNat := by
  have hr : iR i := ⟨by omega, by omega⟩
  refine ⟨fun h => ?_, ?_⟩
  · have := (i_lt hr iR_0).mp h
    omega
  · show (Int32.ofInt i).toInt.toNat = i.toNat
    rw [iR_ofInt hr]
theorem st_copy {g : AG} {d : Nat} {M : AM} {Q : AO → va_W → Prop} {pc : Nat} {L : List (Option Value)} {st : List Value} {ws : va_W} {rc rs : Nat} {pc' : Nat} (hp : pc + 3 = pc') {q0 q1 a0 a n0 n1 idx : Nat} {f f2 : Nat → Int32} {sp dp n : Int32} (ha0 : ws[q0]? = some (a0, .inl (ag_c g 0, n0, .inl f))) (ha1 : ws[q1]? = some (a, .inl (ag_c g 0, n1, .inl f2))) (h1 : ¬ sp < 0) (h2 : ¬ dp < 0) (h3 : ¬ n < 0) (h4 : sp.toNatClampNeg + n.toNatClampNeg ≤ n0) (h5 : dp.toNatClampNeg + n.toNatClampNeg ≤ n1) (hcat : (st.map fun v => v.category).sum ≤ 8) (hd : 2 ≤ d)
    (hw : Cond.methodLink (am_y M).cls idx arraycopyName ∈ lw_tbl ∧ Cond.native arraycopyName ∈ lw_tbl ∧ Cond.static arraycopyName ∈ lw_tbl ∧ Cond.initialized "java/lang/System" ∈ lw_tbl) (dd : decode (am_c M) pc = .ok (.invokestatic idx, 3)) (kk : Wp g d M Q pc' L st (ws.set q1 (a, .inl (ag_c g 0, n1, .inl (va_cpy f f2 sp.toNatClampNeg dp.toNatClampNeg n.toNatClampNeg)))) rc rs) : Wp g d M Q pc L (.int n :: .int dp :: .ref a :: .int sp :: .ref a0 :: st) ws rc rs := by
  intro p e s m args below meth c mc ms C H locs cells slots ls hl hP hD hS hc hs
  obtain ⟨G, I, hx, hb, hml, hown, hr, hlk, hnm, htb⟩ := C
  subst hp
  have e9 : nativeFrameWords "java/lang/System" "arraycopy" 5 + 11 ≤ 80 := by decide +kernel
  refine va_copyi (D := ag_D g) (ty := .int) (R := ae_R d mc ms) hx hb (hml.trans hl.1.symm) hown (ae_w G I hw.1 rfl) (ae_w G I hw.2.1 rfl) (ae_w G I hw.2.2.1 rfl) (ae_w G I hw.2.2.2 rfl) (ae_K G I) hP hD hS q0 q1 0 0 ha0 ha1 rfl rfl rfl h1 h2 h3 h4 h5 (fun _ _ => rfl) ?_ ?_ dd (fun H1 locs1 hP1 hD1 hS1 => kk p e s m args below meth c mc ms ⟨G, I, hx, hb, hml, hown, hr, hlk, hnm, htb⟩ H1 locs1 cells slots ls hl hP1 hD1 hS1 hc hs)
  · show 1 ≤ d
    omega
  · show _ ≤ 48 * d
    omega
theorem sb_copy {g : AG} {ad : Nat → Nat} {d : Nat} {M : AM} {Q : AO → SG → Prop} {pc : Nat} {L : List (Option Value)} {st : List Value} {σ : SG} {rc rs : Nat} {pc' : Nat} (hp : pc + 3 = pc') {a0 a1 n0 n1 idx : Nat} {sp dp n : Int} (hA0 : aI a0 n0) (hA1 : aI a1 n1) (hc : 0 ≤ sp ∧ 0 ≤ dp ∧ 0 ≤ n ∧ sp + n ≤ n0 ∧ dp + n ≤ n1) (hcat : (st.map fun v => v.category).sum ≤ 8) (hd : 2 ≤ d) (hw : Cond.methodLink (am_y M).cls idx arraycopyName ∈ lw_tbl) (dd : decode (am_c M) pc = .ok (.invokestatic idx, 3)) (kk : Wb g ad d M Q pc' L st (setA σ a1 (cpy (ia σ a0) (ia σ a1) sp dp n)) rc rs) : Wb g ad d M Q pc L (vi n :: vi dp :: .ref (ad a1) :: vi sp :: .ref (ad a0) :: st) σ rc rs := by
  obtain ⟨hs0, hn0⟩ := hA0
  obtain ⟨hs1, hn1⟩ := hA1
  obtain ⟨c1, c2, c3, c4, c5⟩ := hc
  have e1 := i_nat (i := sp) (n := n0) c1 (by omega) hn0
  have e2 := i_nat (i := dp) (n := n1) c2 (by omega) hn1
  have e3 := i_nat (i := n) (n := n1) c3 (by omega) hn1
  refine st_copy hp (by rw [lay_at (shp_lt hs0 (by decide)), sh0 hs0]) (by rw [lay_at (shp_lt hs1 (by decide)), sh0 hs1]) e1.1 e2.1 e3.1 (by rw [e1.2, e3.2]; omega) (by rw [e2.2, e3.2]; omega) hcat hd ⟨hw, wd_733, wd_732, wd_176⟩ dd ?_
  rw [e1.2, e2.2, e3.2, lay_A (cpy (ia σ a0) (ia σ a1) sp dp n) 0 (Or.inl rfl) hs1]
  · exact kk
  · intro j
    unfold va_cpy cpy
    by_cases hj : dp.toNat ≤ j ∧ j < dp.toNat + n.toNat
    · have q1 : dp ≤ (j : Int) ∧ (j : Int) < dp + n := ⟨by omega, by omega⟩
      have q2 : ((sp.toNat + (j - dp.toNat) : Nat) : Int) = sp + ((j : Int) - dp) := by omega
      rw [if_pos hj, if_pos q1, ← q2]
    · have q1 : ¬ (dp ≤ (j : Int) ∧ (j : Int) < dp + n) := fun q => hj ⟨by omega, by omega⟩
      rw [if_neg hj, if_neg q1]
theorem st_copyl {g : AG} {d : Nat} {M : AM} {Q : AO → va_W → Prop} {pc : Nat} {L : List (Option Value)} {st : List Value} {ws : va_W} {rc rs : Nat} {pc' : Nat} (hp : pc + 3 = pc') {q0 q1 a0 a n0 n1 idx : Nat} {f f2 : Nat → Int64} {sp dp n : Int32} (ha0 : ws[q0]? = some (a0, .inl (ag_c g 1, n0, .inr (.inl f)))) (ha1 : ws[q1]? = some (a, .inl (ag_c g 1, n1, .inr (.inl f2)))) (h1 : ¬ sp < 0) (h2 : ¬ dp < 0) (h3 : ¬ n < 0) (h4 : sp.toNatClampNeg + n.toNatClampNeg ≤ n0) (h5 : dp.toNatClampNeg + n.toNatClampNeg ≤ n1) (hcat : (st.map fun v => v.category).sum ≤ 8) (hd : 2 ≤ d)
    (hw : Cond.methodLink (am_y M).cls idx arraycopyName ∈ lw_tbl ∧ Cond.native arraycopyName ∈ lw_tbl ∧ Cond.static arraycopyName ∈ lw_tbl ∧ Cond.initialized "java/lang/System" ∈ lw_tbl) (dd : decode (am_c M) pc = .ok (.invokestatic idx, 3)) (kk : Wp g d M Q pc' L st (ws.set q1 (a, .inl (ag_c g 1, n1, .inr (.inl (va_cpy f f2 sp.toNatClampNeg dp.toNatClampNeg n.toNatClampNeg))))) rc rs) : Wp g d M Q pc L (.int n :: .int dp :: .ref a :: .int sp :: .ref a0 :: st) ws rc rs := by
  intro p e s m args below meth c mc ms C H locs cells slots ls hl hP hD hS hc hs
  obtain ⟨G, I, hx, hb, hml, hown, hr, hlk, hnm, htb⟩ := C
  subst hp
  have e9 : nativeFrameWords "java/lang/System" "arraycopy" 5 + 11 ≤ 80 := by decide +kernel
  refine va_copyl (D := ag_D g) (ty := .long) (R := ae_R d mc ms) hx hb (hml.trans hl.1.symm) hown (ae_w G I hw.1 rfl) (ae_w G I hw.2.1 rfl) (ae_w G I hw.2.2.1 rfl) (ae_w G I hw.2.2.2 rfl) (ae_K G I) hP hD hS q0 q1 1 1 ha0 ha1 rfl rfl rfl h1 h2 h3 h4 h5 (fun _ _ => rfl) ?_ ?_ dd (fun H1 locs1 hP1 hD1 hS1 => kk p e s m args below meth c mc ms ⟨G, I, hx, hb, hml, hown, hr, hlk, hnm, htb⟩ H1 locs1 cells slots ls hl hP1 hD1 hS1 hc hs)
  · show 1 ≤ d
    omega
  · show _ ≤ 48 * d
    omega
theorem sb_copyl {g : AG} {ad : Nat → Nat} {d : Nat} {M : AM} {Q : AO → SG → Prop} {pc : Nat} {L : List (Option Value)} {st : List Value} {σ : SG} {rc rs : Nat} {pc' : Nat} (hp : pc + 3 = pc') {a0 a1 n0 n1 idx : Nat} {sp dp n : Int} (hA0 : aL a0 n0) (hA1 : aL a1 n1) (hc : 0 ≤ sp ∧ 0 ≤ dp ∧ 0 ≤ n ∧ sp + n ≤ n0 ∧ dp + n ≤ n1) (hcat : (st.map fun v => v.category).sum ≤ 8) (hd : 2 ≤ d) (hw : Cond.methodLink (am_y M).cls idx arraycopyName ∈ lw_tbl) (dd : decode (am_c M) pc = .ok (.invokestatic idx, 3)) (kk : Wb g ad d M Q pc' L st (setB σ a1 (cpy (la σ a0) (la σ a1) sp dp n)) rc rs) : Wb g ad d M Q pc L (vi n :: vi dp :: .ref (ad a1) :: vi sp :: .ref (ad a0) :: st) σ rc rs := by
  obtain ⟨hs0, hn0⟩ := hA0
  obtain ⟨hs1, hn1⟩ := hA1
  obtain ⟨c1, c2, c3, c4, c5⟩ := hc
  have e1 := i_nat (i := sp) (n := n0) c1 (by omega) hn0
  have e2 := i_nat (i := dp) (n := n1) c2 (by omega) hn1
  have e3 := i_nat (i := n) (n := n1) c3 (by omega) hn1
  refine st_copyl hp (by rw [lay_at (shp_lt hs0 (by decide)), sh1 hs0]) (by rw [lay_at (shp_lt hs1 (by decide)), sh1 hs1]) e1.1 e2.1 e3.1 (by rw [e1.2, e3.2]; omega) (by rw [e2.2, e3.2]; omega) hcat hd ⟨hw, wd_733, wd_732, wd_176⟩ dd ?_
  rw [e1.2, e2.2, e3.2, lay_B (cpy (la σ a0) (la σ a1) sp dp n) hs1]
  · exact kk
  · intro j
    unfold va_cpy cpy
    by_cases hj : dp.toNat ≤ j ∧ j < dp.toNat + n.toNat
    · have q1 : dp ≤ (j : Int) ∧ (j : Int) < dp + n := ⟨by omega, by omega⟩
      have q2 : ((sp.toNat + (j - dp.toNat) : Nat) : Int) = sp + ((j : Int) - dp) := by omega
      rw [if_pos hj, if_pos q1, ← q2]
    · have q1 : ¬ (dp ≤ (j : Int) ∧ (j : Int) < dp + n) := fun q => hj ⟨by omega, by omega⟩
      rw [if_neg hj, if_neg q1]
/-- some locals are forgotten -/
def mkL (L : List (Option Value)) (m : List Bool) : List (Option Value) := List.zipWith (fun x b => if b then x else none) L m
theorem Wb.forget {g : AG} {ad : Nat → Nat} {d : Nat} {M : AM} {Q : AO → SG → Prop} {pc : Nat} {L : List (Option Value)} {st : List Value} {σ : SG} {rc rs : Nat} (m : List Bool) (k : Wb g ad d M Q pc (mkL L m) st σ rc rs) : Wb g ad d M Q pc L st σ rc rs := by
  intro p e s mm args below meth c mc ms C H locs cells slots ls hl
  refine k p e s mm args below meth c mc ms C H locs cells slots ls ⟨hl.1, hl.2.1, fun q hq => hl.2.2 q ?_⟩
  obtain ⟨j, w⟩ := q
  rw [al_mem0] at hq ⊢
  unfold mkL at hq
  rw [List.getElem?_zipWith] at hq
  cases hL : L[j]? with
  | none => rw [hL] at hq; cases hq
  | some x =>
    cases hm : m[j]? with
    | none => rw [hL, hm] at hq; cases hq
    | some b =>
      rw [hL, hm] at hq
      cases b with
      | true => exact hq
      | false => cases hq
theorem SR_cpy {σ : SG} (h : SR σ) {a b : Nat} {sp dp n : Int} : SR (setA σ b (cpy (ia σ a) (ia σ b) sp dp n)) := SR_setA h (fun j => by unfold cpy; split; exact h.1 a _; exact h.1 b j)
theorem SR_cpyl {σ : SG} (h : SR σ) {a b : Nat} {sp dp n : Int} : SR (setB σ b (cpy (la σ a) (la σ b) sp dp n)) := SR_setB h (fun j => by unfold cpy; split; exact h.2.2 a _; exact h.2.2 b j)
theorem aI_tx {i : Int} (h0 : 0 ≤ i) (h1 : i < 10) : aI (90 + 1 + i.toNat) 18 := by
  have h : i.toNat < 10 := by omega
  generalize i.toNat = k at h
  rcases (show k = 0 ∨ k = 1 ∨ k = 2 ∨ k = 3 ∨ k = 4 ∨ k = 5 ∨ k = 6 ∨ k = 7 ∨ k = 8 ∨ k = 9 by omega) with rfl | rfl | rfl | rfl | rfl | rfl | rfl | rfl | rfl | rfl
  · exact aI_91
  · exact aI_92
  · exact aI_93
  · exact aI_94
  · exact aI_95
  · exact aI_96
  · exact aI_97
  · exact aI_98
  · exact aI_99
  · exact aI_100
/-- the script's numbers, the static arrays' -/
def sx (g : AG) (i : Int) : Int := (ag_x g i.toNat).toInt
def sL (g : AG) : Int := (Int32.ofNat (ag_L g)).toInt
def lst (i : Int) : Int := if i = 4 then 1 else 0
def mst (i : Int) : Int := if i = 0 then 99 else if i = 1 then 99 else if i = 2 then 20 else if i = 3 then 6 else 40
theorem sb_sld {g : AG} {ad : Nat → Nat} {d : Nat} {M : AM} {Q : AO → SG → Prop} {pc : Nat} {L : List (Option Value)} {st : List Value} {σ : SG} {rc rs : Nat} {pc' : Nat} (hp : pc + 1 = pc') {i : Int} (h0 : 0 ≤ i) (h1 : i < ag_L g) (hL : ag_L g ≤ 3072) (dd : decode (am_c M) pc = .ok (.iaload, 1)) (kk : Wb g ad d M Q pc' L (vi (sx g i) :: st) σ rc rs) : Wb g ad d M Q pc L (vi i :: .ref (ag_b g) :: st) σ rc rs := by
  have e := i_in h0 h1 (by omega)
  refine st_sld hp (n := ag_L g) (xs := ag_x g) (fun G => G.2.2.2.1) e.1 dd ?_
  rw [e.2, ← oI (ag_x g i.toNat)]
  exact kk
theorem sb_slen {g : AG} {ad : Nat → Nat} {d : Nat} {M : AM} {Q : AO → SG → Prop} {pc : Nat} {L : List (Option Value)} {st : List Value} {σ : SG} {rc rs : Nat} {pc' : Nat} (hp : pc + 1 = pc') (dd : decode (am_c M) pc = .ok (.arraylength, 1)) (kk : Wb g ad d M Q pc' L (vi (sL g) :: st) σ rc rs) : Wb g ad d M Q pc L (.ref (ag_b g) :: st) σ rc rs := by
  refine st_slen hp (n := ag_L g) (xs := ag_x g) (fun G => G.2.2.2.1) dd ?_
  rw [← oI (Int32.ofNat (ag_L g))]
  exact kk
theorem st_gets0 {g : AG} {d : Nat} {M : AM} {Q : AO → va_W → Prop} {pc : Nat} {L : List (Option Value)} {st : List Value} {ws : va_W} {rc rs : Nat} {pc' : Nat} (hp : pc + 3 = pc') {idx : Nat} (hw : Cond.fieldLink (am_y M).cls idx RX10 "SETTING_LEAST" "[I" ∈ lw_tbl) (dd : decode (am_c M) pc = .ok (.getstatic idx, 3)) (kk : Wp g d M Q pc' L (.ref (ag_t g 0) :: st) ws rc rs) : Wp g d M Q pc L st ws rc rs := by
  intro p e s m args below meth c mc ms C H locs cells slots ls hl hP hD hS hc hs
  obtain ⟨G, I, hx, hb, hml, hown, hr, hlk, hnm, htb⟩ := C
  subst hp
  exact va_gets (A := ae_A g) hx hb ((va_Z.moved I.1.alike G.2.2.2.2.1.1.1).kept (fun a ha _ => I.2.2 a ha)) hS hown (ae_w G I hw rfl) (fun _ h => h) dd (kk p e s m args below meth c mc ms ⟨G, I, hx, hb, hml, hown, hr, hlk, hnm, htb⟩ H locs cells slots ls hl hP hD hS hc hs)
theorem sb_gets0 {g : AG} {ad : Nat → Nat} {d : Nat} {M : AM} {Q : AO → SG → Prop} {pc : Nat} {L : List (Option Value)} {st : List Value} {σ : SG} {rc rs : Nat} {pc' : Nat} (hp : pc + 3 = pc') {idx : Nat} (hw : Cond.fieldLink (am_y M).cls idx RX10 "SETTING_LEAST" "[I" ∈ lw_tbl) (dd : decode (am_c M) pc = .ok (.getstatic idx, 3)) (kk : Wb g ad d M Q pc' L (.ref (ag_t g 0) :: st) σ rc rs) : Wb g ad d M Q pc L st σ rc rs := st_gets0 hp hw dd kk
theorem sb_tlst {g : AG} {ad : Nat → Nat} {d : Nat} {M : AM} {Q : AO → SG → Prop} {pc : Nat} {L : List (Option Value)} {st : List Value} {σ : SG} {rc rs : Nat} {pc' : Nat} (hp : pc + 1 = pc') {i : Int} (h0 : 0 ≤ i) (h1 : i < 5) (dd : decode (am_c M) pc = .ok (.iaload, 1)) (kk : Wb g ad d M Q pc' L (vi (lst i) :: st) σ rc rs) : Wb g ad d M Q pc L (vi i :: .ref (ag_t g 0) :: st) σ rc rs := by
  have e := i_in (n := 5) h0 h1 (by decide)
  refine st_sld hp (n := 5) (xs := ae_lst) (fun G => G.2.2.2.2.1.1.2) e.1 dd ?_
  have e2 : ae_lst (Int32.ofInt i).toNatClampNeg = Int32.ofInt (lst i) := by
    rw [e.2]
    rcases (show i = 0 ∨ i = 1 ∨ i = 2 ∨ i = 3 ∨ i = 4 by omega) with rfl | rfl | rfl | rfl | rfl <;> decide
  rw [e2]
  exact kk
theorem st_gets1 {g : AG} {d : Nat} {M : AM} {Q : AO → va_W → Prop} {pc : Nat} {L : List (Option Value)} {st : List Value} {ws : va_W} {rc rs : Nat} {pc' : Nat} (hp : pc + 3 = pc') {idx : Nat} (hw : Cond.fieldLink (am_y M).cls idx RX10 "SETTING_MOST" "[I" ∈ lw_tbl) (dd : decode (am_c M) pc = .ok (.getstatic idx, 3)) (kk : Wp g d M Q pc' L (.ref (ag_t g 1) :: st) ws rc rs) : Wp g d M Q pc L st ws rc rs := by
  intro p e s m args below meth c mc ms C H locs cells slots ls hl hP hD hS hc hs
  obtain ⟨G, I, hx, hb, hml, hown, hr, hlk, hnm, htb⟩ := C
  subst hp
  exact va_gets (A := ae_A g) hx hb ((va_Z.moved I.1.alike G.2.2.2.2.1.2.1).kept (fun a ha _ => I.2.2 a ha)) hS hown (ae_w G I hw rfl) (fun _ h => h) dd (kk p e s m args below meth c mc ms ⟨G, I, hx, hb, hml, hown, hr, hlk, hnm, htb⟩ H locs cells slots ls hl hP hD hS hc hs)
theorem sb_gets1 {g : AG} {ad : Nat → Nat} {d : Nat} {M : AM} {Q : AO → SG → Prop} {pc : Nat} {L : List (Option Value)} {st : List Value} {σ : SG} {rc rs : Nat} {pc' : Nat} (hp : pc + 3 = pc') {idx : Nat} (hw : Cond.fieldLink (am_y M).cls idx RX10 "SETTING_MOST" "[I" ∈ lw_tbl) (dd : decode (am_c M) pc = .ok (.getstatic idx, 3)) (kk : Wb g ad d M Q pc' L (.ref (ag_t g 1) :: st) σ rc rs) : Wb g ad d M Q pc L st σ rc rs := st_gets1 hp hw dd kk
theorem sb_tmst {g : AG} {ad : Nat → Nat} {d : Nat} {M : AM} {Q : AO → SG → Prop} {pc : Nat} {L : List (Option Value)} {st : List Value} {σ : SG} {rc rs : Nat} {pc' : Nat} (hp : pc + 1 = pc') {i : Int} (h0 : 0 ≤ i) (h1 : i < 5) (dd : decode (am_c M) pc = .ok (.iaload, 1)) (kk : Wb g ad d M Q pc' L (vi (mst i) :: st) σ rc rs) : Wb g ad d M Q pc L (vi i :: .ref (ag_t g 1) :: st) σ rc rs := by
  have e := i_in (n := 5) h0 h1 (by decide)
  refine st_sld hp (n := 5) (xs := ae_mst) (fun G => G.2.2.2.2.1.2.2) e.1 dd ?_
  have e2 : ae_mst (Int32.ofInt i).toNatClampNeg = Int32.ofInt (mst i) := by
    rw [e.2]
    rcases (show i = 0 ∨ i = 1 ∨ i = 2 ∨ i = 3 ∨ i = 4 by omega) with rfl | rfl | rfl | rfl | rfl <;> decide
  rw [e2]
  exact kk
theorem st_ineg {g : AG} {d : Nat} {M : AM} {Q : AO → va_W → Prop} {pc : Nat} {L : List (Option Value)} {st : List Value} {ws : va_W} {rc rs : Nat} {pc' : Nat} (hp : pc + 1 = pc') {x : Int32} (dd : decode (am_c M) pc = .ok (.ineg, 1)) (kk : Wp g d M Q pc' L (.int (-x) :: st) ws rc rs) : Wp g d M Q pc L (.int x :: st) ws rc rs := by
  intro p e s m args below meth c mc ms C H locs cells slots ls hl hP hD hS hc hs
  obtain ⟨G, I, hx, hb, hml, hown, hr, hlk, hnm, htb⟩ := C
  subst hp
  exact lv_ineg hx hb dd (kk p e s m args below meth c mc ms ⟨G, I, hx, hb, hml, hown, hr, hlk, hnm, htb⟩ H locs cells slots ls hl hP hD hS hc hs)
theorem sb_ineg {g : AG} {ad : Nat → Nat} {d : Nat} {M : AM} {Q : AO → SG → Prop} {pc : Nat} {L : List (Option Value)} {st : List Value} {σ : SG} {rc rs : Nat} {pc' : Nat} (hp : pc + 1 = pc') {a : Int} (dd : decode (am_c M) pc = .ok (.ineg, 1)) (kk : Wb g ad d M Q pc' L (vi (-a) :: st) σ rc rs) : Wb g ad d M Q pc L (vi a :: st) σ rc rs := st_ineg hp dd (Wb.eq (st' := vi (-a) :: st) (by rw [vi, Int32.ofInt_neg]) kk)
/-- an exception of class E at pc is caught: its handler -/
def ae_cat (M : AM) (pc : Nat) (E : String) (hpc : Nat) : Prop := ∃ (pre : List ExceptionTableEntry) (x : ExceptionTableEntry) (suf : List ExceptionTableEntry) (name : String), tableOf (am_h M) = pre ++ x :: suf ∧ (∀ z ∈ pre, covers z pc = false ∨ (z.catchType ≠ 0 ∧ ∃ nm : String, Cond.classLink (am_y M).cls z.catchType nm ∈ lw_tbl ∧ (E, nm) ∈ ae_ncs)) ∧ covers x pc = true ∧ x.catchType ≠ 0 ∧ Cond.classLink (am_y M).cls x.catchType name ∈ lw_tbl ∧ Cond.castable E name ∈ lw_tbl ∧ x.handlerPc = hpc
theorem st_callVH {g : AG} {d : Nat} {M : AM} {Q : AO → va_W → Prop} {pc : Nat} {L : List (Option Value)} {st : List Value} {ws : va_W} {rc rs : Nat} {pc' : Nat} (hp : pc + 3 = pc') {M' : AM} {n d' mc' ms' idx : Nat} {As st0 : List Value} {b q0 ci N : Nat} {fs : List Value} {T : u_T} {ty : Nat → FieldType} (hcl : ae_cl ci (am_y M').cls T N ty) (hq : ws[q0]? = some (b, .inr (ci, fs))) (hst : st0 = As.reverse ++ .ref b :: st) (hn : As.length = n) (hcat : (st.map fun v => v.category).sum ≤ 8) (hd : d' + 1 ≤ d) (hm : ae_m M' n) (hw : Cond.methodLink (am_y M).cls idx (am_y M') ∈ lw_tbl ∧ Cond.instanceMethod (am_y M') ∈ lw_tbl ∧ Cond.selects (am_y M').cls (am_y M') (am_y M') ∈ lw_tbl) (dd : decode (am_c M) pc = .ok (.invokevirtual idx, 3))
    (hM : Ev g d' M' mc' ms' (.ref b :: As) ws (fun o ws1 => (∃ v, o = .inl v ∧ Wp g d M Q pc' L (v.toList ++ st) ws1 rc rs) ∨ ∃ E hpc, o = .inr E ∧ ae_cat M pc E hpc ∧ ∀ q9 : Nat, Wp g d M Q hpc L [.ref q9] ws1 rc rs)) : Wp g d M Q pc L st0 ws (rc + mc') (rs + ms') := by
  intro p e s m args below meth c mc ms C H locs cells slots ls hl hP hD hS hc hs
  obtain ⟨G, I, hx, hb, hml, hown, hr, hlk, hnm, htb⟩ := C
  subst hp
  subst hst
  refine ae_run (vx_runV (C := (am_y M').cls) ⟨hx, hb, hml, hown, (fun _ h => absurd h List.not_mem_nil : ∀ w ∈ ([] : List Cond), w.before args s = true)⟩ (hM G) ⟨ae_callB G I hm hd (ae_w G I hw.1 rfl), ae_w G I hw.2.1 rfl, ae_w G I hw.2.2 rfl⟩ ⟨ae_blind, (va_recv (ae_K G I) hP hcl.1 hq), fun U hU hW => ⟨rfl, ae_next I hS hU hW, by rw [hU]; exact hP, hD⟩⟩ rfl hn (hl.1) rfl (lv_room hcat) dd ⟨by show cells + mc' ≤ mc; omega, by show slots + ms' ≤ ms; omega⟩) hS (fun E ce q9 ws1 H1 locs1 hq1 hP1 hD1 hS1 hce hcv hcl1 => ?_) (fun v ws1 H1 locs1 hq1 hP1 hD1 hS1 => ?_)
  · rcases hq1 with ⟨v, e1, -⟩ | ⟨E', hpc, e1, hcc, k9⟩
    · cases e1
    · cases e1
      obtain ⟨pre, x, suf, name, t1, t2, t3, t4, t5, t6, rfl⟩ := hcc
      refine vx_catch (own := (am_y M).cls) (name := name) hown pre x suf (by rw [htb]; exact t1) (fun z hz => ?_) t3 t4 (ae_w G I t5 rfl) (ae_w2 G I t6 rfl rfl) hce hcv hcl1 (k9 q9 p e s m args below meth c mc ms ⟨G, I, hx, hb, hml, hown, hr, hlk, hnm, htb⟩ H1 locs1 (cells + mc') (slots + ms') ls hl hP1 hD1 hS1 (by omega) (by omega))
      rcases t2 z hz with h | ⟨h1, nm, h2, h3⟩
      · exact Or.inl h
      · exact Or.inr ⟨h1, nm, ae_w G I h2 rfl, va_Nc.moved I.1.alike (G.2.2.2.2.2.2.2 _ h3)⟩
  · rcases hq1 with ⟨v', e1, k9⟩ | ⟨E', hpc, e1, -⟩
    · cases e1
      exact k9 p e s m args below meth c mc ms ⟨G, I, hx, hb, hml, hown, hr, hlk, hnm, htb⟩ H1 locs1 (cells + mc') (slots + ms') ls hl hP1 hD1 hS1 (by omega) (by omega)
    · cases e1
theorem sb_callVH {g : AG} {ad : Nat → Nat} {d : Nat} {M : AM} {Q : AO → SG → Prop} {pc : Nat} {L : List (Option Value)} {st : List Value} {σ : SG} {rc rs : Nat} {pc' : Nat} (hp : pc + 3 = pc') {M' : AM} {n d' mc' ms' idx : Nat} {As st0 : List Value} {b : Nat} (ho : oF b (am_y M').cls) (hst : st0 = As.reverse ++ .ref (ad b) :: st) (hn : As.length = n) (hcat : (st.map fun v => v.category).sum ≤ 8) (hd : d' + 1 ≤ d) (hm : ae_m M' n) (hw : Cond.methodLink (am_y M).cls idx (am_y M') ∈ lw_tbl ∧ Cond.instanceMethod (am_y M') ∈ lw_tbl ∧ Cond.selects (am_y M').cls (am_y M') (am_y M') ∈ lw_tbl) (dd : decode (am_c M) pc = .ok (.invokevirtual idx, 3))
    (hM : Eb g ad d' M' mc' ms' (.ref (ad b) :: As) σ (fun o s1 => (∃ v, o = .inl v ∧ Wb g ad d M Q pc' L (v.toList ++ st) s1 rc rs) ∨ ∃ E hpc, o = .inr E ∧ ae_cat M pc E hpc ∧ ∀ q9 : Nat, Wb g ad d M Q hpc L [.ref q9] s1 rc rs)) : Wb g ad d M Q pc L st0 σ (rc + mc') (rs + ms') := by
  obtain ⟨ci, N, T, ty, fl, hcl, hs⟩ := ho
  refine st_callVH hp hcl (by rw [lay_at (shp_lt hs (by decide)), shO hs]) hst hn hcat hd hm hw dd (Ev.mono hM ?_)
  rintro o ws1 ⟨s1, rfl, h⟩
  exact h
/-- what a caller must know of a method with handlers -/
def ae_mH (M : AM) (n : Nat) : Prop := am_w M = .codeWith (am_y M) (am_c M) (am_n M) (am_r M) (am_h M) ∧ am_w M ∈ lw_tbl ∧ goodWord (am_w M) = true ∧ Cond.initialized (am_y M).cls ∈ lw_tbl ∧ ((am_y M).cls ≠ "java/lang/invoke/MethodHandle" ∧ (am_y M).cls ≠ "java/lang/invoke/VarHandle" ∧ (parseMethodDescriptor (am_y M).desc).map (fun z => z.parameters.length) = some n) ∧ am_n M ≤ 29
theorem st_callSX {g : AG} {d : Nat} {M : AM} {Q : AO → va_W → Prop} {pc : Nat} {L : List (Option Value)} {st : List Value} {ws : va_W} {rc rs : Nat} {pc' : Nat} (hp : pc + 3 = pc') (hh : am_h M = []) {M' : AM} {n d' mc' ms' idx : Nat} {As st0 : List Value} (hst : st0 = As.reverse ++ st) (hn : As.length = n) (hcat : (st.map fun v => v.category).sum ≤ 8) (hd : d' + 1 ≤ d) (hm : ae_mH M' n) (hw : Cond.methodLink (am_y M).cls idx (am_y M') ∈ lw_tbl ∧ Cond.static (am_y M') ∈ lw_tbl) (dd : decode (am_c M) pc = .ok (.invokestatic idx, 3)) (hM : Ev g d' M' mc' ms' As ws (Kc g d M Q pc' L st rc rs)) : Wp g d M Q pc L st0 ws (rc + mc') (rs + ms') := by
  intro p e s m args below meth c mc ms C H locs cells slots ls hl hP hD hS hc hs
  obtain ⟨G, I, hx, hb, hml, hown, hr, hlk, hnm, htb⟩ := C
  subst hp
  subst hst
  have h29 : am_n M' ≤ 29 := hm.2.2.2.2.2
  have hsig : ∀ sig, parseMethodDescriptor (am_y M').desc = some sig → n = sig.parameters.length := by
    intro sig h
    have h2 := hm.2.2.2.2.1.2.2
    rw [h] at h2
    exact (Option.some.inj h2).symm
  have hws : ∀ w ∈ [am_w M'], ∀ (a' : Array Value) (U : State), s.WarmedH U.vm → w.before a' U = true := by
    intro w hw a' U hW
    rw [List.mem_singleton.mp hw]
    exact word_at (State.WarmedH.trans I.1 hW) (good_of_word hm.2.2.1) (G.2.2.1 _ hm.2.1)
  refine ae_run (Q' := Kc g d M Q (pc + 3) L st rc rs) (vx_runSX (hh := am_h M') (bytes := am_c M') (maxL := am_n M') (ret := am_r M') ⟨hx, hb, hml, hown, (fun _ h => absurd h List.not_mem_nil : ∀ w ∈ ([] : List Cond), w.before args s = true)⟩ (hM G) ⟨⟨rfl, rfl, hd, by show 8 + (am_n M' + 11) + 48 * d' ≤ 48 * d; omega, hws, by rw [hm.1]; exact List.mem_cons_self⟩, by rw [← hm.1]; exact ae_w G I hm.2.1 hm.2.2.1, ae_w G I hm.2.2.2.1 rfl, ⟨hm.2.2.2.2.1.1, hm.2.2.2.2.1.2.1⟩, hsig, ae_w G I hw.1 rfl, ae_w G I hw.2 rfl⟩ ⟨ae_blind, fun U hU hW => ⟨rfl, ae_next I hS hU hW, by rw [hU]; exact hP, hD⟩⟩ rfl hn (hl.1) rfl (lv_room hcat) dd ⟨by show cells + mc' ≤ mc; omega, by show slots + ms' ≤ ms; omega⟩) hS (fun E ce q9 ws1 H1 locs1 hq hP1 hD1 hS1 hce hcv hcl => ?_) (fun v ws1 H1 locs1 hq hP1 hD1 hS1 => ?_)
  · exact vx_out (fun x hx9 => by rw [htb, hh, tableOf_nil] at hx9; exact absurd hx9 List.not_mem_nil) hlk hce hcv hcl (fun t ht _ => ⟨⟨ws1, hq, by rw [ht]; exact hP1, hD1⟩, hS1.F ht⟩) hS1.2.2 (by omega) (by omega)
  · exact hq p e s m args below meth c mc ms ⟨G, I, hx, hb, hml, hown, hr, hlk, hnm, htb⟩ H1 locs1 (cells + mc') (slots + ms') ls hl hP1 hD1 hS1 (by omega) (by omega)
theorem sb_callSX {g : AG} {ad : Nat → Nat} {d : Nat} {M : AM} {Q : AO → SG → Prop} {pc : Nat} {L : List (Option Value)} {st : List Value} {σ : SG} {rc rs : Nat} {pc' : Nat} (hp : pc + 3 = pc') (hh : am_h M = []) {M' : AM} {n d' mc' ms' idx : Nat} {As st0 : List Value} (hst : st0 = As.reverse ++ st) (hn : As.length = n) (hcat : (st.map fun v => v.category).sum ≤ 8) (hd : d' + 1 ≤ d) (hm : ae_mH M' n) (hw : Cond.methodLink (am_y M).cls idx (am_y M') ∈ lw_tbl ∧ Cond.static (am_y M') ∈ lw_tbl) (dd : decode (am_c M) pc = .ok (.invokestatic idx, 3)) (hM : Eb g ad d' M' mc' ms' As σ (Kb g ad d M Q pc' L st rc rs)) : Wb g ad d M Q pc L st0 σ (rc + mc') (rs + ms') := st_callSX hp hh hst hn hcat hd hm hw dd (Ev.mono hM Kb.to)
theorem EbH {g : AG} {ad : Nat → Nat} {d : Nat} {M : AM} {mc ms : Nat} {as : List Value} {σ : SG} {Q : AO → SG → Prop} {L : List (Option Value)} (hh : am_h M ≠ []) (hy : plainName (am_y M).cls = true) (hn : Nat.ble (ent as).length (am_n M) = true) (hL : entL as (am_n M) = L) (kk : Wb g ad d M Q 0 L [] σ mc ms) : Eb g ad d M mc ms as σ Q := Ev.ofH hh hy (Nat.le_of_ble_eq_true hn) (hL ▸ kk)
end MO

def Ws (m : Int → Int) (R : List Wy) (Q P : List En) : Prop := (∀ e ∈ Q, VE m e) ∧ (∀ e ∈ P, VE m e) ∧ (Q.Pairwise (fun a b => Inc a.p b.p)) ∧ (P.Pairwise (fun a b => Inc a.p b.p)) ∧ (∀ a ∈ Q, ∀ b ∈ P, Inc a.p b.p) ∧ (Q.Pairwise (fun a b => keyE m a < keyE m b)) ∧ (Rdy m R) ∧ (∀ e ∈ Q, ∀ w ∈ R, ¬ w ∈ TE m e) ∧ (∀ e ∈ P, ∀ w ∈ R, ¬ w ∈ TE m e) ∧ (∀ w ∈ LW m, rkW m w < 30 → w ∈ R ∨ (∃ e ∈ Q, w ∈ TE m e) ∨ ∃ e ∈ P, w ∈ TE m e) ∧ (R.length + Q.length ≤ 30)
theorem Ws.vq {m : Int → Int} {R : List Wy} {Q P : List En} (h_ : Ws m R Q P) : ∀ e ∈ Q, VE m e := h_.1
theorem Ws.vp {m : Int → Int} {R : List Wy} {Q P : List En} (h_ : Ws m R Q P) : ∀ e ∈ P, VE m e := h_.2.1
theorem Ws.iq {m : Int → Int} {R : List Wy} {Q P : List En} (h_ : Ws m R Q P) : Q.Pairwise (fun a b => Inc a.p b.p) := h_.2.2.1
theorem Ws.ip {m : Int → Int} {R : List Wy} {Q P : List En} (h_ : Ws m R Q P) : P.Pairwise (fun a b => Inc a.p b.p) := h_.2.2.2.1
theorem Ws.iqp {m : Int → Int} {R : List Wy} {Q P : List En} (h_ : Ws m R Q P) : ∀ a ∈ Q, ∀ b ∈ P, Inc a.p b.p := h_.2.2.2.2.1
theorem Ws.so {m : Int → Int} {R : List Wy} {Q P : List En} (h_ : Ws m R Q P) : Q.Pairwise (fun a b => keyE m a < keyE m b) := h_.2.2.2.2.2.1
theorem Ws.rd {m : Int → Int} {R : List Wy} {Q P : List En} (h_ : Ws m R Q P) : Rdy m R := h_.2.2.2.2.2.2.1
theorem Ws.dq {m : Int → Int} {R : List Wy} {Q P : List En} (h_ : Ws m R Q P) : ∀ e ∈ Q, ∀ w ∈ R, ¬ w ∈ TE m e := h_.2.2.2.2.2.2.2.1
theorem Ws.dp {m : Int → Int} {R : List Wy} {Q P : List En} (h_ : Ws m R Q P) : ∀ e ∈ P, ∀ w ∈ R, ¬ w ∈ TE m e := h_.2.2.2.2.2.2.2.2.1
theorem Ws.al {m : Int → Int} {R : List Wy} {Q P : List En} (h_ : Ws m R Q P) : ∀ w ∈ LW m, rkW m w < 30 → w ∈ R ∨ (∃ e ∈ Q, w ∈ TE m e) ∨ ∃ e ∈ P, w ∈ TE m e := h_.2.2.2.2.2.2.2.2.2.1
theorem Ws.bd {m : Int → Int} {R : List Wy} {Q P : List En} (h_ : Ws m R Q P) : R.length + Q.length ≤ 30 := h_.2.2.2.2.2.2.2.2.2.2
section INVs
variable {m : Int → Int}
def insE (m : Int → Int) (e : En) : List En → List En
  | [] => [e]
  | y :: l => if keyE m y ≤ keyE m e then y :: insE m e l else e :: y :: l
theorem mem_insE {e z : En} : ∀ {l : List En}, z ∈ insE m e l ↔ z = e ∨ z ∈ l
  | [] => by simp [insE]
  | y :: l => by
    unfold insE
    split
    · rw [List.mem_cons, mem_insE, List.mem_cons]
      constructor
      · rintro (h | h | h)
        · exact Or.inr (Or.inl h)
        · exact Or.inl h
        · exact Or.inr (Or.inr h)
      · rintro (h | h | h)
        · exact Or.inr (Or.inl h)
        · exact Or.inl h
        · exact Or.inr (Or.inr h)
    · exact List.mem_cons
theorem len_insE {e : En} : ∀ {l : List En}, (insE m e l).length = l.length + 1
  | [] => rfl
  | y :: l => by
    unfold insE
    split
    · rw [List.length_cons, len_insE, List.length_cons]
    · rfl
theorem pw_insE {e : En} {S : En → En → Prop} (hs : ∀ a b, S a b → S b a) : ∀ {l : List En}, l.Pairwise S → (∀ y ∈ l, S e y) → (insE m e l).Pairwise S
  | [], _, _ => List.pairwise_singleton ..
  | y :: l, h, he => by
    have p := List.pairwise_cons.mp h
    unfold insE
    split
    · refine List.pairwise_cons.mpr ⟨fun z hz => ?_, pw_insE hs p.2 (fun z hz => he z (List.mem_cons_of_mem _ hz))⟩
      rcases mem_insE.mp hz with rfl | hz
      · exact hs _ _ (he y (List.mem_cons_self ..))
      · exact p.1 z hz
    · exact List.pairwise_cons.mpr ⟨fun z hz => he z hz, h⟩
theorem so_insE {e : En} : ∀ {l : List En}, l.Pairwise (fun a b => keyE m a < keyE m b) → (∀ y ∈ l, keyE m e ≠ keyE m y) → (insE m e l).Pairwise (fun a b => keyE m a < keyE m b)
  | [], _, _ => List.pairwise_singleton ..
  | y :: l, h, he => by
    have p := List.pairwise_cons.mp h
    have hy := he y (List.mem_cons_self ..)
    unfold insE
    split
    · rename_i c
      refine List.pairwise_cons.mpr ⟨fun z hz => ?_, so_insE p.2 (fun z hz => he z (List.mem_cons_of_mem _ hz))⟩
      rcases mem_insE.mp hz with rfl | hz
      · omega
      · exact p.1 z hz
    · rename_i c
      refine List.pairwise_cons.mpr ⟨fun z hz => ?_, h⟩
      rcases List.mem_cons.mp hz with rfl | hz
      · omega
      · have := p.1 z hz
        omega
def enq (m : Int → Int) (n : Nat) (Q : List En) (e : En) : List En := (insE m e Q).take (30 - n)
/-- the last of more than are still to come is not needed -/
theorem cut_off (hW : WF m) {R : List Wy} {Q : List En} {D : En} (hv : ∀ e ∈ Q ++ [D], VE m e) (hi : (Q ++ [D]).Pairwise (fun a b => Inc a.p b.p)) (hs : (Q ++ [D]).Pairwise (fun a b => keyE m a < keyE m b)) (hr : Rdy m R) (hd : ∀ e ∈ Q ++ [D], ∀ w ∈ R, ¬ w ∈ TE m e) {w : Wy} (hw : w ∈ TE m D) : R.length + Q.length ≤ rkW m w := by
  have hD : D ∈ Q ++ [D] := List.mem_append_right _ (List.mem_cons_self ..)
  have hQ : ∀ e ∈ Q, e ∈ Q ++ [D] := fun e he => List.mem_append_left _ he
  have hwL := (hv D hD).sub w hw
  have hwR : ¬ w ∈ R := fun z => hd D hD w z hw
  have pi := List.pairwise_append.mp hi
  have ps := List.pairwise_append.mp hs
  have h1 := nodup_len (R ++ Q.map (bst m)) ((LW m).filter (fun v => decide (keyW m v < keyW m w))) ?_ ?_
  · rw [List.length_append, List.length_map] at h1
    exact h1
  · refine List.pairwise_append.mpr ⟨hr.ne, ?_, fun r hr' b hb => ?_⟩
    · rw [List.pairwise_map]
      refine List.Pairwise.imp_of_mem (fun {a b} ha hb hab e => ?_) pi.1
      have b1 := (bst_s hW (hv a (hQ a ha))).1
      have b2 := (bst_s hW (hv b (hQ b hb))).1
      rw [e] at b1
      exact TE_dis hab b1 b2
    · obtain ⟨e, he, rfl⟩ := List.mem_map.mp hb
      intro z
      rw [z] at hr'
      exact hd e (hQ e he) _ hr' (bst_s hW (hv e (hQ e he))).1
  · intro v hv'
    rcases List.mem_append.mp hv' with z | z
    · exact List.mem_filter.mpr ⟨(hr.mem z).1, decide_eq_true (hr.lt hW z hwL hwR)⟩
    · obtain ⟨e, he, rfl⟩ := List.mem_map.mp z
      have hve := hv e (hQ e he)
      have h2 := pi.2.2 e he D (List.mem_cons_self ..)
      have h3 := ps.2.2 e he D (List.mem_cons_self ..)
      exact List.mem_filter.mpr ⟨hve.sub _ (bst_s hW hve).1, decide_eq_true ((key_sep hW hve (hv D hD) h2).2 (by omega) w hw)⟩
theorem Ws.enq (hW : WF m) {R : List Wy} {Q P : List En} {e : En} (h : Ws m R Q (e :: P)) : Ws m R (enq m R.length Q e) P := by
  have hve := h.vp e (List.mem_cons_self ..)
  have hpp := List.pairwise_cons.mp h.ip
  have hne : ∀ y ∈ Q, keyE m e ≠ keyE m y := fun y hy => (key_sep hW hve (h.vq y hy) (h.iqp y hy e (List.mem_cons_self ..)).symm).1
  have v1 : ∀ z ∈ insE m e Q, VE m z := fun z hz => by
    rcases mem_insE.mp hz with rfl | hz
    · exact hve
    · exact h.vq z hz
  have d1 : ∀ z ∈ insE m e Q, ∀ w ∈ R, ¬ w ∈ TE m z := fun z hz => by
    rcases mem_insE.mp hz with rfl | hz
    · exact h.dp z (List.mem_cons_self ..)
    · exact h.dq z hz
  have i1 : (insE m e Q).Pairwise (fun a b => Inc a.p b.p) := pw_insE (fun a b hab => hab.symm) h.iq (fun y hy => (h.iqp y hy e (List.mem_cons_self ..)).symm)
  have s1 := so_insE h.so hne
  have x1 : ∀ a ∈ insE m e Q, ∀ b ∈ P, Inc a.p b.p := fun a ha b hb => by
    rcases mem_insE.mp ha with rfl | ha
    · exact hpp.1 b hb
    · exact h.iqp a ha b (List.mem_cons_of_mem _ hb)
  have a1 : ∀ w ∈ LW m, rkW m w < 30 → w ∈ R ∨ (∃ e' ∈ insE m e Q, w ∈ TE m e') ∨ ∃ e' ∈ P, w ∈ TE m e' := fun w hw hr => by
    rcases h.al w hw hr with z | ⟨f, hf, z⟩ | ⟨f, hf, z⟩
    · exact Or.inl z
    · exact Or.inr (Or.inl ⟨f, mem_insE.mpr (Or.inr hf), z⟩)
    · rcases List.mem_cons.mp hf with rfl | hf
      · exact Or.inr (Or.inl ⟨f, mem_insE.mpr (Or.inl rfl), z⟩)
      · exact Or.inr (Or.inr ⟨f, hf, z⟩)
  have hbd := h.bd
  have hlen := len_insE (m := m) (e := e) (l := Q)
  have hsub : ∀ z ∈ (insE m e Q).take (30 - R.length), z ∈ insE m e Q := fun z hz => List.mem_of_mem_take hz
  unfold Jvm.Pilot.CPhraseRoadsLaw_law_r8434_031205.enq
  refine ⟨fun z hz => v1 z (hsub z hz), fun z hz => h.vp z (List.mem_cons_of_mem _ hz), i1.sublist (List.take_sublist ..), hpp.2, fun a ha => x1 a (hsub a ha), s1.sublist (List.take_sublist ..), h.rd, fun z hz => d1 z (hsub z hz), fun z hz => h.dp z (List.mem_cons_of_mem _ hz), ?_, ?_⟩
  · intro w hw hr
    rcases a1 w hw hr with z | ⟨f, hf, z⟩ | z
    · exact Or.inl z
    · by_cases c : f ∈ (insE m e Q).take (30 - R.length)
      · exact Or.inr (Or.inl ⟨f, c, z⟩)
      · exfalso
        have hspl := List.take_append_drop (30 - R.length) (insE m e Q)
        have hfd : f ∈ (insE m e Q).drop (30 - R.length) := by
          rw [← hspl] at hf
          rcases List.mem_append.mp hf with q | q
          · exact absurd q c
          · exact q
        have hdl : ((insE m e Q).drop (30 - R.length)).length ≤ 1 := by
          rw [List.length_drop]
          omega
        have hdl2 := List.length_pos_of_mem hfd
        have hde : (insE m e Q).drop (30 - R.length) = [f] := by
          match hz : (insE m e Q).drop (30 - R.length) with
          | [] => rw [hz] at hfd; cases hfd
          | [y] => rw [hz] at hfd; rw [List.mem_singleton.mp hfd]
          | y :: y' :: l => rw [hz, List.length_cons, List.length_cons] at hdl; omega
        rw [hde] at hspl
        have := cut_off hW (R := R) (Q := (insE m e Q).take (30 - R.length)) (D := f) (by rw [hspl]; exact v1) (by rw [hspl]; exact i1) (by rw [hspl]; exact s1) h.rd (by rw [hspl]; exact d1) z
        rw [List.length_drop] at hdl2
        rw [List.length_take] at this
        omega
    · exact Or.inr (Or.inr z)
  · rw [List.length_take]
    omega
theorem Ws.head (hW : WF m) {R : List Wy} {Q : List En} {e : En} (h : Ws m R (e :: Q) []) : ∃ w, w ∈ LW m ∧ ¬ w ∈ R ∧ rkW m w = R.length ∧ w ∈ TE m e := by
  have hve := h.vq e (List.mem_cons_self ..)
  have hb := bst_s hW hve
  have hbR : ¬ bst m e ∈ R := fun z => h.dq e (List.mem_cons_self ..) _ z hb.1
  obtain ⟨w, hw, hwR, hrk, hle⟩ := h.rd.next hW (hve.sub _ hb.1) hbR
  have hbd := h.bd
  rw [List.length_cons] at hbd
  refine ⟨w, hw, hwR, hrk, ?_⟩
  rcases h.al w hw (by omega) with z | ⟨f, hf, z⟩ | ⟨f, hf, z⟩
  · exact absurd z hwR
  · rcases List.mem_cons.mp hf with rfl | hf
    · exact z
    · exfalso
      have h1 := (List.pairwise_cons.mp h.iq).1 f hf
      have h2 := (List.pairwise_cons.mp h.so).1 f hf
      have h3 := (key_sep hW hve (h.vq f (List.mem_cons_of_mem _ hf)) h1).2 (by omega) w z
      have h4 := hle _ (hve.sub _ hb.1) hbR
      omega
  · cases hf
theorem Ws.full (hW : WF m) {R : List Wy} {Q : List En} {e : En} (h : Ws m R (e :: Q) []) (hf : e.x.1 = fullM m) : Ws m (R ++ [(e.c + aft m e.x.2.2 (-1), e.p)]) Q [] ∧ keyW m (e.c + aft m e.x.2.2 (-1), e.p) = keyE m e := by
  have hve := h.vq e (List.mem_cons_self ..)
  have hT := TE_full hW hve hf
  obtain ⟨w, hw, hwR, hrk, hwT⟩ := h.head hW
  rw [hT.1] at hwT
  have ew := List.mem_singleton.mp hwT
  have hiq := List.pairwise_cons.mp h.iq
  have hbd := h.bd
  rw [List.length_cons] at hbd
  have hv : (e.c + aft m e.x.2.2 (-1), e.p) ∈ TE m e := by rw [hT.1]; exact List.mem_cons_self ..
  refine ⟨⟨fun z hz => h.vq z (List.mem_cons_of_mem _ hz), h.vp, hiq.2, h.ip, fun a _ b hb => (by cases hb), (List.pairwise_cons.mp h.so).2, ?_, ?_, fun z hz => (by cases hz), ?_, ?_⟩, ?_⟩
  · intro i v hi
    by_cases c : i < R.length
    · rw [List.getElem?_append_left c] at hi
      exact h.rd i v hi
    · rw [List.getElem?_append_right (by omega)] at hi
      have h1 := (List.getElem?_eq_some_iff.mp hi).1
      rw [List.length_singleton] at h1
      have e0 : i - R.length = 0 := by omega
      rw [e0] at hi
      have e1 : (e.c + aft m e.x.2.2 (-1), e.p) = v := by simpa using hi
      rw [← e1, ← ew]
      exact ⟨hw, by omega⟩
  · intro f hf' v hv'
    rcases List.mem_append.mp hv' with z | z
    · exact h.dq f (List.mem_cons_of_mem _ hf') v z
    · rw [List.mem_singleton.mp z]
      exact TE_dis (hiq.1 f hf') hv
  · intro u hu hr
    rcases h.al u hu hr with z | ⟨f, hf', z⟩ | ⟨f, hf', z⟩
    · exact Or.inl (List.mem_append_left _ z)
    · rcases List.mem_cons.mp hf' with rfl | hf'
      · rw [hT.1] at z
        exact Or.inl (List.mem_append_right _ z)
      · exact Or.inr (Or.inl ⟨f, hf', z⟩)
    · cases hf'
  · rw [List.length_append, List.length_singleton]
    omega
  · unfold keyW keyE
    rw [hT.2]
def kB (m : Int → Int) (x : Nd) (q : Op) : Bool := myB m x q && decide (rsM m (stp m x q) < 1000000)
def kids (m : Int → Int) (e : En) (l : List Op) : List En := (l.filter (kB m e.x)).map (chE m e)
theorem kB_s (hW : WF m) {x : Nd} (hx : nd m x) {q : Op} (hq : q ∈ ops m) : kB m x q = true ↔ myB m x q = true ∧ wy m (stp m x q) ≠ [] := by
  unfold kB
  rw [Bool.and_eq_true, decide_eq_true_eq]
  constructor
  · rintro ⟨h1, h2⟩
    refine ⟨h1, fun z => ?_⟩
    have hs := stp_nd hW hx (List.mem_filter.mp hq).1 h1
    have h3 := (wy_rest hW _ _ hs.1 (Nat.le_refl _)).2
    rcases h3 with y | ⟨w, hw, _⟩
    · have y1 : rsN m (stp m x q) = 1000000000 := y.1
      unfold rsM at h2
      have : restM m (stp m x q).1 (stp m x q).2.1 (stp m x q).2.2 = 1000000000 := y1
      omega
    · rw [z] at hw
      cases hw
  · rintro ⟨h1, h2⟩
    refine ⟨h1, ?_⟩
    have hs := stp_nd hW hx (List.mem_filter.mp hq).1 h1
    have h3 := wy_rest hW _ _ hs.1 (Nat.le_refl _)
    rcases h3.2 with y | ⟨w, hw, e⟩
    · exact absurd y.2 h2
    · have h4 := (h3.1 w hw).2
      have h5 : mu (stp m x q) ≤ 6 := by unfold mu; omega
      unfold rsM
      omega
theorem Ws.step (hW : WF m) {R : List Wy} {Q : List En} {e : En} (h : Ws m R (e :: Q) []) (hf : ¬ e.x.1 = fullM m) : Ws m R Q (kids m e (ops m)) := by
  have hve := h.vq e (List.mem_cons_self ..)
  have hiq := List.pairwise_cons.mp h.iq
  have hbd := h.bd
  rw [List.length_cons] at hbd
  have hk : ∀ f ∈ kids m e (ops m), ∃ q, q ∈ ops m ∧ (myB m e.x q = true ∧ wy m (stp m e.x q) ≠ []) ∧ chE m e q = f := fun f hf' => by
    obtain ⟨q, hq, rfl⟩ := List.mem_map.mp hf'
    have := List.mem_filter.mp hq
    exact ⟨q, this.1, (kB_s hW hve.nd this.1).mp this.2, rfl⟩
  refine ⟨fun z hz => h.vq z (List.mem_cons_of_mem _ hz), fun f hf' => ?_, hiq.2, ?_, fun a ha b hb => ?_, (List.pairwise_cons.mp h.so).2, h.rd, fun f hf' => h.dq f (List.mem_cons_of_mem _ hf'), fun f hf' w hw => ?_, fun w hw hr => ?_, by omega⟩
  · obtain ⟨q, hq, h1, rfl⟩ := hk f hf'
    exact hve.ch hW hf hq h1.1 h1.2
  · unfold kids
    rw [List.pairwise_map]
    refine List.Pairwise.imp (fun {a b} hab => ?_) ((ops_up hW.1).filter _)
    exact ⟨e.p, a, b, [], [], fun z => by rw [z] at hab; omega, rfl, rfl⟩
  · obtain ⟨q, hq, h1, rfl⟩ := hk b hb
    have := Inc.ext [q] [] (hiq.1 a ha)
    rw [List.append_nil] at this
    exact this.symm
  · obtain ⟨q, hq, h1, rfl⟩ := hk f hf'
    exact fun z => h.dq e (List.mem_cons_self ..) w hw ((TE_step hW hve hf).mpr ⟨q, hq, h1.1, z⟩)
  · rcases h.al w hw hr with z | ⟨f, hf', z⟩ | ⟨f, hf', z⟩
    · exact Or.inl z
    · rcases List.mem_cons.mp hf' with rfl | hf'
      · obtain ⟨q, hq, h1, h2⟩ := (TE_step hW hve hf).mp z
        refine Or.inr (Or.inr ⟨chE m f q, List.mem_map.mpr ⟨q, List.mem_filter.mpr ⟨hq, (kB_s hW hve.nd hq).mpr ⟨h1, fun y => ?_⟩⟩, rfl⟩, h2⟩)
        obtain ⟨u, hu, _⟩ := List.mem_map.mp h2
        have hu' : u ∈ wy m (stp m f.x q) := hu
        rw [y] at hu'
        cases hu'
      · exact Or.inr (Or.inl ⟨f, hf', z⟩)
    · cases hf'
theorem Ws.all (hW : WF m) {R : List Wy} : ∀ (P Q : List En), Ws m R Q P → Ws m R (P.foldl (Jvm.Pilot.CPhraseRoadsLaw_law_r8434_031205.enq m R.length) Q) [] ∧ ∀ z ∈ P.foldl (Jvm.Pilot.CPhraseRoadsLaw_law_r8434_031205.enq m R.length) Q, z ∈ Q ∨ z ∈ P
  | [], Q, h => ⟨h, fun z hz => Or.inl hz⟩
  | e :: P, Q, h => by
    have ih := Ws.all hW P _ (h.enq hW)
    rw [List.foldl_cons]
    refine ⟨ih.1, fun z hz => ?_⟩
    rcases ih.2 z hz with y | y
    · rcases mem_insE.mp (List.mem_of_mem_take y) with r | r
      · exact Or.inr (by rw [r]; exact List.mem_cons_self ..)
      · exact Or.inl r
    · exact Or.inr (List.mem_cons_of_mem _ y)
theorem Ws.deep (hW : WF m) {R : List Wy} {Q : List En} {e : En} (h : Ws m R (e :: Q) []) (hf : ¬ e.x.1 = fullM m) : ∃ e' Q', (kids m e (ops m)).foldl (Jvm.Pilot.CPhraseRoadsLaw_law_r8434_031205.enq m R.length) Q = e' :: Q' ∧ Ws m R (e' :: Q') [] ∧ e'.p.length = e.p.length + 1 := by
  have hs := Ws.all hW _ _ (h.step hW hf)
  obtain ⟨w, hw, hwR, hrk, hwT⟩ := h.head hW
  have hbd := h.bd
  rw [List.length_cons] at hbd
  generalize hq : (kids m e (ops m)).foldl (Jvm.Pilot.CPhraseRoadsLaw_law_r8434_031205.enq m R.length) Q = QQ at hs
  cases QQ with
  | nil =>
    exfalso
    rcases hs.1.al w hw (by omega) with z | ⟨f, hf', z⟩ | ⟨f, hf', z⟩
    · exact hwR z
    · cases hf'
    · cases hf'
  | cons e' Q' =>
    refine ⟨e', Q', rfl, hs.1, ?_⟩
    obtain ⟨w', hw', hwR', hrk', hwT'⟩ := hs.1.head hW
    have e1 := rk_inj hW hw hw' (by omega)
    rw [← e1] at hwT'
    rcases hs.2 e' (List.mem_cons_self ..) with z | z
    · exact absurd hwT' (TE_dis ((List.pairwise_cons.mp h.iq).1 e' z) hwT)
    · obtain ⟨q, _, rfl⟩ := List.mem_map.mp z
      show (e.p ++ [q]).length = _
      rw [List.length_append, List.length_singleton]
theorem LW_some (hW : WF m) : LW m ≠ [] := by
  have h3 := hW.1.2.2.2.1
  have h := wy_pass hW (m 3).toNat 0 (by omega) (-1) (nd0 hW).2.2
  exact h
theorem Ws.st (hW : WF m) : Ws m [] [stE] [] ∧ VE m stE := by
  have hv : VE m stE := ⟨nd0 hW, Nat.zero_le _, (fun q hq => (by cases hq)), (fun w hw => (by rw [TE_st] at hw; exact hw)), LW_some hW, ⟨Int.le_refl _, by show (0 : Int) ≤ 516 * ((pc 0 : Nat) : Int); omega⟩⟩
  refine ⟨⟨(fun e he => (by rw [List.mem_singleton.mp he]; exact hv)), fun e he => (by cases he), List.pairwise_singleton .., List.Pairwise.nil, fun a _ b hb => (by cases hb), List.pairwise_singleton .., (fun i w h => (by simp at h)), fun e _ w hw => (by cases hw), fun e he => (by cases he), fun w hw _ => Or.inr (Or.inl ⟨stE, List.mem_cons_self .., (by rw [TE_st]; exact hw)⟩), (by decide)⟩, hv⟩
end INVs

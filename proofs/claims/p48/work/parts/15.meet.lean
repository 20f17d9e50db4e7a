/-! a method's contract; a contract out of its cases; the law's own run -/
def xArgs : Nat → List xV → List (Nat × xV)
  | _, [] => []
  | i, a :: as => (i, a) :: xArgs (if xcat a = 2 then i + 2 else i + 1) as
theorem xArgs_ok {η : Nat → Int32} {ad : Nat → Nat} {N : Nat} : ∀ {as : List xV} {vs : List Value} (i : Nat), xAll (xOk η ad N) as vs → xAll (xLok η ad N) (xArgs i as) (lv_args i vs)
  | [], [], _, _ => trivial
  | a :: as, v :: vs, i, g => by
    refine ⟨⟨rfl, g.1⟩, ?_⟩
    rw [xOk_cat g.1]
    exact xArgs_ok _ g.2
  | [], _ :: _, _, g => g.elim
  | _ :: _, [], _, g => g.elim
theorem xSl_len {η : Nat → Int32} {ad : Nat → Nat} {N : Nat} : ∀ {as : List xV} {vs : List Value}, xAll (xOk η ad N) as vs → (lg_sl vs).length = xSum as
  | [], [], _ => rfl
  | a :: as, v :: vs, g => by
    have ih := xSl_len g.2
    have e := xOk_cat g.1
    unfold lg_sl at ih ⊢
    rw [List.flatMap_cons, List.length_append, ih]
    show _ = xcat a + xSum as
    rw [← e]
    rcases lv_cat v with h | h
    · rw [if_neg (by omega), h]; rfl
    · rw [if_pos h, h]; rfl
  | [], _ :: _, g => g.elim
  | _ :: _, [], g => g.elim
def xLeR : Option xV → Option xV → Bool
  | none, none => true
  | some a, some b => xLeV a b
  | _, _ => false
def xRt (ret : Option FieldType) (o : Option xV) : Bool := match ret, o with
  | none, none => true
  | some .int, some a => xIsI a
  | some .boolean, some (.inl i) => decide (0 ≤ i.1) && decide (i.2 ≤ 1)
  | some .long, some (.inr (.inl _)) => true
  | some (.object _), some (.inr (.inr (.inl _))) => true
  | _, _ => false
def xChk (ret : Option FieldType) (con : xCon) (o : Option xV) (hp : xH) (nx cs ss : Nat) : Bool := xRt ret o && xLeR o con.2.1.1 && (match xTakeAll con.2.1.2.1 hp with | some _ => true | none => false) && nx == con.2.1.2.2 && decide (cs ≤ con.2.2.1.2.2.1) && decide (ss ≤ con.2.2.1.2.2.2)
theorem xRk_eq {ins : Instr} {k : Nat} (h : xRk ins = k) (hk : k < 9) : (k = 0 ∧ ins = .ireturn) ∨ (k = 1 ∧ ins = .lreturn) ∨ (k = 2 ∧ ins = .areturn) ∨ (k = 3 ∧ ins = .return_) := by
  unfold xRk at h
  split at h
  · exact Or.inl ⟨h.symm, rfl⟩
  · exact Or.inr (Or.inl ⟨h.symm, rfl⟩)
  · exact Or.inr (Or.inr (Or.inl ⟨h.symm, rfl⟩))
  · exact Or.inr (Or.inr (Or.inr ⟨h.symm, rfl⟩))
  · omega
theorem xOfW {l : Launch} {y : MethodName} {ws ws' : List Cond} {rm : Room} {Pc : Array Value → State → Prop} {Qc : Array Value → State → Outcome → State → Prop} {mc ms : Nat} {free : Addr → Prop} {cc : ByteArray} {maxL : Nat} {ret : Option FieldType} (hy : plainFor y = true) (hw : ws = Cond.code y cc maxL ret :: ws')
    (body : ∀ p e s m args below meth c s₁, BodyLoose p l y (headSpec ws rm) cc maxL ret e s m args below meth c s₁ → c.maxLocals = maxL → Pc args s → W p l e (headSpec ws rm).room s m args below meth c s.heap [] 0 0 (MQ below Qc args s mc ms free) (entryFrame m args maxL)) : Met l y ws rm Pc Qc mc ms free := by
  refine MetFree.of_bodySF (code := cc) (maxLocals := maxL) (ret := ret) hy ?_ ?_
  · intro args s m h hn
    obtain ⟨meth, c, h1, h2, h3, h4, h5, h6, -, -⟩ := Cond.code_spec hn (atoms_spec (ws := ws) h _ (by rw [hw]; exact List.mem_cons_self))
    exact ⟨meth, c, h1, h2, h3, h4, h5, h6⟩
  · intro p e s m args below meth c s₁ B hml hP _
    have hh0 : s₁.heap = s.heap := by rw [B.state]; rfl
    obtain ⟨t, a1, o, b1, b2, b3⟩ := body p e s m args below meth c s₁ B hml hP s₁ hh0 (Stand.of_body B)
    exact ⟨t, o, a1, b1, b2, ⟨b3.1, b3.2⟩⟩
set_option maxHeartbeats 4000000 in
theorem xMeet {M : xM} {Mi : xMi} {con : xCon} {cons : List xCd} (n : Nat) (hy : plainFor M.1 = true) (hM : xMok M.1.cls M.2.1 Mi) (hC : xConOk M.1.cls cons) (hbd : xBd con = true) (h4N : 4 ≤ con.1.2.2) (hmx : xSum con.1.1 ≤ M.2.2.1) (hnx : con.1.2.2 ≤ con.2.1.2.2)
    (hrun : xRun Mi cons con.2.2.2 none (decide (M.1.name = "<init>")) con.2.2.1 M.2.2.1 (xChk M.2.2.2 con) n 0 Mi.1 (xArgs 0 con.1.1) [] con.1.2.1 con.1.2.2 0 0 = true) : xHolds M con := by
  refine ⟨hbd, fun l D cy η ad sz av ws hts0 hav hws => ?_⟩
  refine xOfW (cc := M.2.1) (maxL := M.2.2.1) (ret := M.2.2.2) hy rfl ?_
  intro p e s m args below meth c s₁ B hml hv
  obtain ⟨rfl, hsz, hP, hK, hD0, hSS⟩ := hv
  subst hsz
  have hx := B.exec
  have hb := B.bytes
  have hr := B.returns
  have hts := atoms_spec (ws := xWd M) B.pre
  have hown : s.vm.findClass M.1.cls = some m.cls := findClass_of_methodNamed B.named
  have hlocks := B.notSynchronized
  have hin : meth.name = M.1.name := (name_of_methodNamed B.named B.method).1
  have hD := hD0.self (sz := s.heap.size)
  have hA : ∀ q : Nat, s.heap.size ≤ q → va_A ws s.heap.size q := fun q h => Or.inr h
  have hl := lv_entry av (n := M.2.2.1) (by rw [xSl_len hav]; exact hmx)
  rw [lg_entry_eq]
  have X : xCx p (headSpec (xWd M) (xRm con.2.2.1)).room s m av.toArray meth c M.2.1 D cy η (va_A ws s.heap.size) M.1.cls (xWd M) ad con.1.2.2 M.2.2.1 Mi cons con.2.2.2 none (decide (M.1.name = "<init>")) con.2.2.1 :=
    ⟨⟨hx, hb, hml, hts, fun w h => List.mem_cons_of_mem _ h, hown, hK, hA, (fun ad' had' => xSS_ad h4N had' hSS)⟩, hM, hC, hts0, (fun z hz => by cases hz), (fun h => hin.trans (of_decide_eq_true h)), Nat.le_refl _, Nat.le_refl _, Nat.le_refl _, Nat.le_refl _⟩
  refine xRun_ok (below := below) (l := l) (e := e) (Q := MQ below (xQc con D cy η ad ws s.heap.size) av.toArray s con.2.2.1.2.2.1 con.2.2.1.2.2.2 (va_A ws s.heap.size)) (chk := xChk M.2.2.2 con) X ?_ n 0 Mi.1 _ _ _ _ _ _ (fun _ h => h) hrun ad _ _ [] s.heap [] (fun _ _ => rfl) (Nat.le_refl _) hl (xArgs_ok 0 hav) trivial ⟨ws, hws, hP, hD, va_S.rf⟩
  intro ins o v hp nx cs ss ad' lsC H locs pc hrk hio hdg hchk had hnx' hret hR
  simp only [xChk, Bool.and_eq_true, beq_iff_eq, decide_eq_true_eq] at hchk
  obtain ⟨⟨⟨⟨⟨h1, h2⟩, h3⟩, h4⟩, h5⟩, h6⟩ := hchk
  split at h3
  rotate_left
  · cases h3
  rename_i rest htk
  obtain ⟨ws1, hw1, hP1, hD1, hS1⟩ := hR
  obtain ⟨wc, wr, hperm, hwc, hwr⟩ := xTakeAll_ok hw1 htk
  have hP2 : va_P D vwCl wc H := xP_mem.mpr fun q hq => xP_mem.mp (xP_perm hP1 hperm) q (List.mem_append_left _ hq)
  have hD2 : va_D (va_A ws s.heap.size) wc := by
    have := xD_mem.mp (xD_perm hD1 hperm)
    rw [List.map_append] at this
    exact xD_mem.mpr ⟨(List.nodup_append.mp this.1).1, fun q hq => this.2 q (List.mem_append_left _ hq)⟩
  have hret2 : xRet η ad' con.2.1.2.2 con.2.1.1 v := by
    rw [← h4]
    generalize con.2.1.1 = o2 at h2 ⊢
    cases o with
    | none => cases o2 with
      | none => cases v with
        | none => trivial
        | some v => exact hret.elim
      | some b => cases h2
    | some a => cases o2 with
      | none => cases h2
      | some b => cases v with
        | none => exact hret.elim
        | some v => exact xLeV_ok h2 hret
  rw [h4] at hwc
  have post : ∀ t : State, t.heap = H → s.WarmedH t.vm → xQc con D cy η ad ws s.heap.size av.toArray s (.returned v) t := fun t ht _ => ⟨⟨v, ad', wc, rfl, had, hret2, hwc, by rw [ht]; exact hP2, hD2⟩, hS1.F ht⟩
  refine W.widen (k := con.2.2.1.2.2.1) (n := con.2.2.1.2.2.2) h5 h6 ?_
  have hf : ∀ q ∈ locs, va_A ws s.heap.size q.base := hS1.2.2
  unfold xRt at h1
  rcases hio with ⟨e1, rfl⟩ | ⟨a, rfl, e1⟩
  · cases hrt : M.2.2.2 with
    | none =>
      rcases xRk_eq e1 (by omega) with ⟨q, -⟩ | ⟨q, -⟩ | ⟨q, -⟩ | ⟨-, rfl⟩
      · cases q
      · cases q
      · cases q
      · cases v with
        | none => exact W.vret hx hb (hr.trans hrt) post hf hdg
        | some v => exact hret.elim
    | some ty => rw [hrt] at h1; cases ty <;> cases h1
  · cases v with
    | none => exact hret.elim
    | some v =>
      have hret : xOk η ad' nx a v := hret
      split at h1
      · rename_i hh; cases hh
      · rename_i a' hrt ha'
        cases ha'
        obtain ⟨x, rfl⟩ := xIsI_ok h1 hret
        have : xKd a = 0 := by rcases xKd_ok hret with ⟨q, -⟩ | ⟨-, y, q⟩ | ⟨-, q | ⟨y, q⟩⟩ <;> first | exact q | cases q
        rcases xRk_eq (e1.trans this) (by omega) with ⟨-, rfl⟩ | ⟨q, -⟩ | ⟨q, -⟩ | ⟨q, -⟩
        · exact W.iret hx hb (hr.trans hrt) post hf hdg
        · cases q
        · cases q
        · cases q
      · rename_i i hrt ha'
        cases ha'
        simp only [Bool.and_eq_true, decide_eq_true_eq] at h1
        obtain ⟨x, rfl, x1, x2⟩ := hret
        rcases xRk_eq (k := 0) e1 (by decide) with ⟨-, rfl⟩ | ⟨q, -⟩ | ⟨q, -⟩ | ⟨q, -⟩
        · refine W.zret hx hb (hr.trans hrt) ?_ post hf hdg
          rcases x01 (x := x) (by omega) (by omega) with rfl | rfl <;> rfl
        · cases q
        · cases q
        · cases q
      · rename_i i hrt ha'
        cases ha'
        obtain ⟨x, rfl, x1⟩ := hret
        rcases xRk_eq (k := 1) e1 (by decide) with ⟨q, -⟩ | ⟨-, rfl⟩ | ⟨q, -⟩ | ⟨q, -⟩
        · cases q
        · exact W.lret hx hb (hr.trans hrt) post hf hdg
        · cases q
        · cases q
      · rename_i C k hrt ha'
        cases ha'
        rcases xRk_eq (k := 2) e1 (by decide) with ⟨q, -⟩ | ⟨q, -⟩ | ⟨-, rfl⟩ | ⟨q, -⟩
        · cases q
        · cases q
        · refine W.aret hx hb (hr.trans hrt) (Or.inl ⟨C, rfl⟩) ?_ post hf hdg
          cases k with
          | none => exact Or.inl hret
          | some k => exact Or.inr ⟨_, hret.2⟩
        · cases q
      · cases h1
/-- two cases of a whole number -/
theorem xSplit {M : xM} {as1 as2 : List xV} {pre : xH} {n0 : Nat} {z : (Option xV × xH × Nat) × (Nat × Nat × Nat × Nat) × List xT} (lo mid hi : Int) (h1 : xHolds M ((as1 ++ .inl (lo, mid) :: as2, pre, n0), z)) (h2 : xHolds M ((as1 ++ .inl (mid + 1, hi) :: as2, pre, n0), z)) : xHolds M ((as1 ++ .inl (lo, hi) :: as2, pre, n0), z) := by
  refine ⟨?_, fun l D cy η ad sz av ws ht hav hws => ?_⟩
  · have := h1.1
    simp only [xBd, List.all_append, List.all_cons] at this ⊢
    exact this
  · have key : ∀ {as1 : List xV} {av : List Value}, xAll (xOk η ad n0) (as1 ++ .inl (lo, hi) :: as2) av → xAll (xOk η ad n0) (as1 ++ .inl (lo, mid) :: as2) av ∨ xAll (xOk η ad n0) (as1 ++ .inl (mid + 1, hi) :: as2) av := by
      intro as1
      induction as1 with
      | nil =>
        intro av h
        match av, h with
        | [], h => exact h.elim
        | v :: av, h =>
          obtain ⟨⟨x, rfl, x1, x2⟩, h⟩ := h
          dsimp only at x1 x2
          by_cases hm : x.toInt ≤ mid
          · exact Or.inl ⟨⟨x, rfl, x1, hm⟩, h⟩
          · exact Or.inr ⟨⟨x, rfl, by show mid + 1 ≤ x.toInt; omega, x2⟩, h⟩
      | cons a as1 ih =>
        intro av h
        match av, h with
        | [], h => exact h.elim
        | v :: av, h => exact (ih h.2).imp (fun g => ⟨h.1, g⟩) (fun g => ⟨h.1, g⟩)
    rcases key hav with g | g
    · exact h1.2 l D cy η ad sz av ws ht g hws
    · exact h2.2 l D cy η ad sz av ws ht g hws
theorem xC0 {own : String} : xConOk own [] := fun _ h => absurd h List.not_mem_nil
theorem xCc {own : String} {a : Nat × Nat × Nat × Nat × Nat} {con : xCon} {cs : List xCd} {M' : xM} (h1 : xCok own (a.1, a.2.1, a.2.2.1, M', a.2.2.2.1)) (h2 : M'.2.2.1 = a.2.2.2.2) (h3 : xHolds M' con) (h4 : xConOk own cs) : xConOk own ((a, con) :: cs) := List.forall_mem_cons.mpr ⟨⟨M', h1, h2, h3⟩, h4⟩
/-- a called method: its call, its contract -/
def xCe (own : String) (q : xCd) : Prop := ∃ M' : xM, xCok own (q.1.1, q.1.2.1, q.1.2.2.1, M', q.1.2.2.2.1) ∧ M'.2.2.1 = q.1.2.2.2.2 ∧ xHolds M' q.2
def xGoB (M : xM) (Mi : xMi) (con : xCon) (cons : List xCd) (n : Nat) : Bool := xBd con && (decide (4 ≤ con.1.2.2) && decide (xSum con.1.1 ≤ M.2.2.1)) && decide (con.1.2.2 ≤ con.2.1.2.2) && xRun Mi cons con.2.2.2 none (decide (M.1.name = "<init>")) con.2.2.1 M.2.2.1 (xChk M.2.2.2 con) n 0 Mi.1 (xArgs 0 con.1.1) [] con.1.2.1 con.1.2.2 0 0
def xMp (M : xM) (Mi : xMi) : Prop := plainFor M.1 = true ∧ xMok M.1.cls M.2.1 Mi
theorem xMeet2 {M : xM} {Mi : xMi} {con : xCon} {cons : List xCd} (n : Nat) (hM : xMp M Mi) (hC : xConOk M.1.cls cons) (h : xGoB M Mi con cons n = true) : xHolds M con := by
  simp only [xGoB, Bool.and_eq_true, decide_eq_true_eq] at h
  obtain ⟨⟨⟨h1, h2⟩, h3⟩, h4⟩ := h
  exact xMeet n hM.1 hM.2 hC h1 h2.1 h2.2 h3 h4

/-! a method's contract over names out of its walk -/
section YRW
variable {p : Program} {l : Launch} {e : Env} {R : Room} {s : State} {m : MethodId} {args : Array Value} {below : List Frame} {meth : Method} {c : Code} {H : Heap} {locs : List Loc}
theorem yRetW {cc : ByteArray} {pc mc ms nx : Nat} {ls : Array Slot} {η : Nat → Int32} {ad : Nat → Nat} {Qc : Array Value → State → Outcome → State → Prop} {free : Addr → Prop} {M : xM} {ins : Instr} {o : Option xV} {v : Option Value} (hx : p.tables.exec = Jvm.exec) (hb : c.code = cc) (hr : meth.sig.returnType = M.2.2.2) (hlocks : meth.locks = false) (h1 : xRt M.2.2.2 o = true) (hio : xRk ins = 3 ∧ o = none ∨ ∃ a, o = some a ∧ xRk ins = xKd a) (hret : xRet η ad nx o v) (post : ∀ t : State, t.heap = H → s.WarmedH t.vm → Qc args s (.returned v) t) (hf : ∀ q ∈ locs, free q.base) (hdg : decode cc pc = .ok (ins, 1)) : W p l e R s m args below meth c H locs mc ms (MQ below Qc args s mc ms free) (F0 m pc ls v.toList) := by
  unfold xRt at h1
  rcases hio with ⟨e1, rfl⟩ | ⟨a, rfl, e1⟩
  · cases hrt : M.2.2.2 with
    | none =>
      rcases xRk_eq e1 (by omega) with ⟨q, -⟩ | ⟨q, -⟩ | ⟨q, -⟩ | ⟨-, rfl⟩
      · cases q
      · cases q
      · cases q
      · cases v with
        | none => exact W.vret hx hb (hr.trans hrt) post hf hdg
        | some v => exact hret.elim
    | some ty => rw [hrt] at h1; cases ty <;> cases h1
  · cases v with
    | none => exact hret.elim
    | some v =>
      have hret : xOk η ad nx a v := hret
      split at h1
      · rename_i hh; cases hh
      · rename_i a' hrt ha'
        cases ha'
        obtain ⟨x, rfl⟩ := xIsI_ok h1 hret
        have : xKd a = 0 := by rcases xKd_ok hret with ⟨q, -⟩ | ⟨-, y, q⟩ | ⟨-, q | ⟨y, q⟩⟩ <;> first | exact q | cases q
        rcases xRk_eq (e1.trans this) (by omega) with ⟨-, rfl⟩ | ⟨q, -⟩ | ⟨q, -⟩ | ⟨q, -⟩
        · exact W.iret hx hb (hr.trans hrt) post hf hdg
        · cases q
        · cases q
        · cases q
      · rename_i i hrt ha'
        cases ha'
        simp only [Bool.and_eq_true, decide_eq_true_eq] at h1
        obtain ⟨x, rfl, x1, x2⟩ := hret
        rcases xRk_eq (k := 0) e1 (by decide) with ⟨-, rfl⟩ | ⟨q, -⟩ | ⟨q, -⟩ | ⟨q, -⟩
        · refine W.zret hx hb (hr.trans hrt) ?_ post hf hdg
          rcases x01 (x := x) (by omega) (by omega) with rfl | rfl <;> rfl
        · cases q
        · cases q
        · cases q
      · rename_i i hrt ha'
        cases ha'
        obtain ⟨x, rfl, x1⟩ := hret
        rcases xRk_eq (k := 1) e1 (by decide) with ⟨q, -⟩ | ⟨-, rfl⟩ | ⟨q, -⟩ | ⟨q, -⟩
        · cases q
        · exact W.lret hx hb (hr.trans hrt) post hf hdg
        · cases q
        · cases q
      · rename_i C k hrt ha'
        cases ha'
        rcases xRk_eq (k := 2) e1 (by decide) with ⟨q, -⟩ | ⟨q, -⟩ | ⟨-, rfl⟩ | ⟨q, -⟩
        · cases q
        · cases q
        · refine W.aret hx hb (hr.trans hrt) (Or.inl ⟨C, rfl⟩) ?_ post hf hdg
          cases k with
          | none => exact Or.inl hret
          | some k => exact Or.inr ⟨_, hret.2⟩
        · cases q
      · cases h1
end YRW
def yLeR2 (env : List xI) : Option xV → Option xV → Bool
  | none, none => true
  | some a, some b => yLeV env a b
  | _, _ => false
def yWo (env : List xI) : Option xV → Option xV
  | some a => some (yW env a)
  | none => none
def yEn : List xI → List xI → Bool
  | _, [] => true
  | e :: es, i :: is => decide (i.1 ≤ e.1) && decide (e.2 ≤ i.2) && yEn es is
  | [], _ :: _ => false
theorem yEn_at : ∀ {env is : List xI} {j : Nat} {i : xI}, yEn env is = true → is[j]? = some i → ∃ e, env[j]? = some e ∧ i.1 ≤ e.1 ∧ e.2 ≤ i.2
  | _, [], _, _, _, h => by cases h
  | e :: es, i :: is, 0, q, g, h => by
    cases h
    simp only [yEn, Bool.and_eq_true, decide_eq_true_eq] at g
    exact ⟨e, rfl, g.1⟩
  | e :: es, i :: is, j + 1, q, g, h => by
    simp only [yEn, Bool.and_eq_true] at g
    rw [List.getElem?_cons_succ] at h
    obtain ⟨e', h1, h2⟩ := yEn_at g.2 h
    exact ⟨e', by rw [List.getElem?_cons_succ]; exact h1, h2⟩
  | [], _ :: _, _, _, g, _ => by simp [yEn] at g
theorem yEn_ok {σ : Nat → Int} {env is : List xI} (h : yOkE σ env) (g : yEn env is = true) : yOkE σ is := fun j i hj => by
  obtain ⟨e, h1, h2, h3⟩ := yEn_at g hj
  obtain ⟨b1, b2⟩ := h j e h1
  exact ⟨Int.le_trans h2 b1, Int.le_trans b2 h3⟩
def yChk2 (ret : Option FieldType) (k : yCo2) (env : List xI) (o : Option xV) (hp : xH) (nx cs ss : Nat) : Bool := xRt ret (yWo env o) && nx == k.2.2.1 && decide (cs ≤ k.2.2.2.2.1.2.2.1) && decide (ss ≤ k.2.2.2.2.1.2.2.2) && k.2.2.2.1.any (fun z => yLeR2 env o z.1 && yEn env z.2.2 && (match yTakeAll env z.2.1 hp with
  | some _ => true
  | none => false))
def yBo (n : Nat) : Option xV → Bool
  | some a => yB n a
  | none => true
noncomputable def yGo2 (M : xM) (Mi : xMi) (k : yCo2) (cons : List xCd) (cons2 : List yCd) (ann : List (Nat × List yAn)) (n : Nat) : Bool := yBd k && (decide (4 ≤ k.2.2.1) && decide (xSum k.1 ≤ M.2.2.1)) && k.2.2.2.1.all (fun z => yBo k.2.2.2.2.2.length z.1 && yBh k.2.2.2.2.2.length z.2.1 && decide (z.2.2.length ≤ k.2.2.2.2.2.length)) && yRun2 Mi cons cons2 (decide (M.1.name = "<init>")) k.2.2.2.2.1 M.2.2.1 (yChk2 M.2.2.2 k) k.2.2.1 ann n none [] ([], []) k.2.2.2.2.2 0 Mi.1 (xArgs 0 k.1) [] k.2.1 k.2.2.1 0 0
theorem yKd_W {env : List xI} {a : xV} : xKd (yW env a) = xKd a := by
  unfold yW
  split
  · split <;> rfl
  · rfl
set_option maxHeartbeats 4000000 in
theorem yHold2 {M : xM} {Mi : xMi} {k : yCo2} {cons : List xCd} {cons2 : List yCd} (ann : List (Nat × List yAn)) (n : Nat) (hMp : xMp M Mi) (hC : xConOk M.1.cls cons) (hC2 : yConOk M.1.cls cons2) (hgo : yGo2 M Mi k cons cons2 ann n = true) : yHolds M k := by
  simp only [yGo2, Bool.and_eq_true, decide_eq_true_eq] at hgo
  obtain ⟨⟨⟨hbd, h4N, hmx⟩, hpb⟩, hrun⟩ := hgo
  obtain ⟨hy, hM⟩ := hMp
  refine ⟨hbd, fun l D cy σ0 ad sz av ws hE0 hav hws => ?_⟩
  refine xOfW (cc := M.2.1) (maxL := M.2.2.1) (ret := M.2.2.2) hy rfl ?_
  intro p e s m args below meth c s₁ B hml hv
  obtain ⟨rfl, hsz, hP, hK, hD0, hSS⟩ := hv
  subst hsz
  have hx := B.exec
  have hb := B.bytes
  have hr := B.returns
  have hts := atoms_spec (ws := xWd M) B.pre
  have hown : s.vm.findClass M.1.cls = some m.cls := findClass_of_methodNamed B.named
  have hlocks := B.notSynchronized
  have hin : meth.name = M.1.name := (name_of_methodNamed B.named B.method).1
  have hD := hD0.self (sz := s.heap.size)
  have hA : ∀ q : Nat, s.heap.size ≤ q → va_A ws s.heap.size q := fun q h => Or.inr h
  have hl := lv_entry av (n := M.2.2.1) (by rw [xSl_len hav]; exact hmx)
  rw [lg_entry_eq]
  have X : ∀ σ : Nat → Int, xCx p (headSpec (xWd M) (xRm k.2.2.2.2.1)).room s m av.toArray meth c M.2.1 D cy (yη σ) (va_A ws s.heap.size) M.1.cls (xWd M) ad k.2.2.1 M.2.2.1 Mi cons [] none (decide (M.1.name = "<init>")) k.2.2.2.2.1 := fun σ =>
    ⟨⟨hx, hb, hml, hts, fun w h => List.mem_cons_of_mem _ h, hown, hK, hA, (fun ad' had' => xSS_ad h4N had' hSS)⟩, hM, hC, (fun _ h => absurd h List.not_mem_nil), (fun z hz => by cases hz), (fun h => hin.trans (of_decide_eq_true h)), Nat.le_refl _, Nat.le_refl _, Nat.le_refl _, Nat.le_refl _⟩
  refine yRun2_ok (below := below) (l := l) (e := e) (Q := MQ below (yQc k D cy σ0 ad ws s.heap.size) av.toArray s k.2.2.2.2.1.2.2.1 k.2.2.2.2.1.2.2.2 (va_A ws s.heap.size)) (chk := yChk2 M.2.2.2 k) (σ0 := σ0) (n0 := k.2.2.2.2.2.length) X hC2 ?_ n σ0 none [] ([], []) k.2.2.2.2.2 0 Mi.1 _ _ _ _ _ _ hE0 ⟨(fun _ h => absurd h List.not_mem_nil), (fun _ h => absurd h List.not_mem_nil), (fun _ h => absurd h List.not_mem_nil)⟩ ⟨Nat.le_refl _, fun _ _ => rfl⟩ (fun _ h => h) hrun ad _ _ [] s.heap [] (fun _ _ => rfl) (Nat.le_refl _) hl (xArgs_ok 0 hav) trivial ⟨ws, hws, hP, hD, va_S.rf⟩
  intro σ env hE hZ ins o v hp nx cs ss ad' lsC H locs pc hrk hio hdg hchk had hnx' hret hR
  simp only [yChk2, Bool.and_eq_true, beq_iff_eq, decide_eq_true_eq] at hchk
  obtain ⟨⟨⟨⟨h1, h4⟩, h5⟩, h6⟩, h7⟩ := hchk
  obtain ⟨z, hz, h8⟩ := List.any_eq_true.mp h7
  rw [Bool.and_eq_true, Bool.and_eq_true] at h8
  obtain ⟨⟨h8, hen⟩, h9⟩ := h8
  split at h9
  rotate_left
  · cases h9
  rename_i rest htk
  obtain ⟨ws1, hw1, hP1, hD1, hS1⟩ := hR
  obtain ⟨wc, wr, hperm, hwc, hwr⟩ := yTakeAll_ok hE hw1 htk
  have hP2 : va_P D vwCl wc H := xP_mem.mpr fun q hq => xP_mem.mp (xP_perm hP1 hperm) q (List.mem_append_left _ hq)
  have hD2 : va_D (va_A ws s.heap.size) wc := by
    have := xD_mem.mp (xD_perm hD1 hperm)
    rw [List.map_append] at this
    exact xD_mem.mpr ⟨(List.nodup_append.mp this.1).1, fun q hq => this.2 q (List.mem_append_left _ hq)⟩
  have hb9 := List.all_eq_true.mp hpb z hz
  rw [Bool.and_eq_true, Bool.and_eq_true, decide_eq_true_eq] at hb9
  have hag : ∀ j, j < k.2.2.2.2.2.length → σ0 j = σ j := fun j hj => (hZ.2 j hj).symm
  subst h4
  have hadE : ∀ q, q < k.2.2.1 → ad q = ad' q := fun q hq => (had q hq).symm
  have hret2 : xRet (yη σ0) ad k.2.2.1 z.1 v := by
    have hb8 := hb9.1.1
    generalize z.1 = zo at h8 hb8
    cases o with
    | none => cases zo with
      | none => cases v with
        | none => trivial
        | some v => exact hret.elim
      | some b => cases h8
    | some a => cases zo with
      | none => cases h8
      | some b => cases v with
        | none => exact hret.elim
        | some v => exact xOk_moved (Nat.le_refl _) hadE (yB_ok hag hb8 (yLeV_ok hE h8 hret))
  have hwc2 : xWok (yη σ0) ad k.2.2.1 cy z.2.1 wc := xWok_moved (Nat.le_refl _) hadE (yBh_ok hag hb9.1.2 hwc)
  have hzE : yOkE σ0 z.2.2 := yOkE_ext (yEn_ok hE hen) (fun j hj => hag j (Nat.lt_of_lt_of_le hj hb9.2))
  refine W.widen (k := k.2.2.2.2.1.2.2.1) (n := k.2.2.2.2.1.2.2.2) h5 h6 ?_
  refine yRetW (M := M) (nx := k.2.2.1) (η := yη σ) (ad := ad') (o := yWo env o) hx hb hr hlocks h1 ?_ ?_ (fun t ht _ => ⟨⟨z, v, wc, hz, rfl, hret2, hwc2, by rw [ht]; exact hP2, hD2, hzE⟩, hS1.F ht⟩) hS1.2.2 hdg
  · rcases hio with ⟨e1, rfl⟩ | ⟨a, rfl, e1⟩
    · exact Or.inl ⟨e1, rfl⟩
    · exact Or.inr ⟨_, rfl, by rw [yKd_W]; exact e1⟩
  · cases o with
    | none => cases v with
      | none => trivial
      | some v => exact hret.elim
    | some a => cases v with
      | none => exact hret.elim
      | some v => exact yW_ok hE hret
theorem yD0 {own : String} : yConOk own [] := fun _ h => absurd h List.not_mem_nil
theorem yDc {own : String} {a : Nat × Nat × Nat × Nat × Nat} {k : yCo2} {src : List (Nat ⊕ (Nat × Nat))} {cs : List yCd} {M' : xM} (h1 : xCok own (a.1, a.2.1, a.2.2.1, M', a.2.2.2.1)) (h2 : M'.2.2.1 = a.2.2.2.2) (h3 : yHolds M' k) (h4 : yConOk own cs) : yConOk own ((a, k, src) :: cs) := List.forall_mem_cons.mpr ⟨⟨M', h1, h2, h3⟩, h4⟩

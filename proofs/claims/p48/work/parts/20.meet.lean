/-! the whole walk with names; a method's contract out of it -/
theorem yF_ok {η η' : Nat → Int32} {ad : Nat → Nat} {N : Nat} {a : xV} {v : Value} (hb : yB 0 a = true) (g : xOk η ad N a v) : xOk η' ad N a v := by
  rcases a with i | i | o | k
  · exact g
  · exact g
  · cases o with
    | none => exact g
    | some o => exact g
  · have : yN k < 0 := by simpa [yB] using hb
    exact absurd this (Nat.not_lt_zero _)
theorem yF_all {η η' : Nat → Int32} {ad : Nat → Nat} {N : Nat} : ∀ {as : List xV} {vs : List Value}, as.all (yB 0) = true → xAll (xOk η ad N) as vs → xAll (xOk η' ad N) as vs
  | [], [], _, _ => trivial
  | a :: as, v :: vs, h, g => by
    simp only [List.all_cons, Bool.and_eq_true] at h
    exact ⟨yF_ok h.1 g.1, yF_all h.2 g.2⟩
  | [], _ :: _, _, g => g.elim
  | _ :: _, [], _, g => g.elim
theorem yFe_ok {η η' : Nat → Int32} {ad : Nat → Nat} {N : Nat} {cy : Nat → ClassId} : ∀ {a : xE} {v : va_E}, yBe 0 a = true → xEok η ad N cy a v → xEok η' ad N cy a v
  | .inl o, .inr o', h, g => ⟨g.1, yF_all h g.2⟩
  | .inr (t, m, d, ov), .inl (cA, n', a), h, g => by
    simp only [yBe, Bool.and_eq_true] at h
    obtain ⟨h1, h2, h3, h4, h5, h6⟩ := g
    refine ⟨h1, h2, h3, fun e => ?_, fun e => ?_, fun e => ?_⟩
    · obtain ⟨f, e1, e2⟩ := h4 e
      exact ⟨f, e1, fun i hi => yF_ok (yB_at h.1 i h.2) (e2 i hi)⟩
    · obtain ⟨f, e1, e2⟩ := h5 e
      exact ⟨f, e1, fun i hi => yF_ok (yB_at h.1 i h.2) (e2 i hi)⟩
    · obtain ⟨f, e1, e2⟩ := h6 e
      exact ⟨f, e1, fun i hi => yF_ok (yB_at h.1 i h.2) (e2 i hi)⟩
  | .inl _, .inl _, _, g => g.elim
  | .inr _, .inr _, _, g => g.elim
theorem yFh_ok {η η' : Nat → Int32} {ad : Nat → Nat} {N : Nat} {cy : Nat → ClassId} : ∀ {hp : xH} {ws : va_W}, yBh 0 hp = true → xWok η ad N cy hp ws → xWok η' ad N cy hp ws
  | [], [], _, _ => trivial
  | a :: as, v :: vs, h, g => by
    simp only [yBh, List.all_cons, Bool.and_eq_true] at h
    exact ⟨⟨g.1.1, g.1.2.1, yFe_ok h.1 g.1.2.2⟩, yFh_ok h.2 g.2⟩
  | [], _ :: _, _, g => g.elim
  | _ :: _, [], _, g => g.elim
def yFo : Option xV → Bool
  | some a => yB 0 a
  | none => true
theorem yFr_ret {η η' : Nat → Int32} {ad : Nat → Nat} {N : Nat} {o : Option xV} {v : Option Value} (hb : yFo o = true) (g : xRet η ad N o v) : xRet η' ad N o v := by
  cases o with
  | none => cases v with
    | none => trivial
    | some v => exact g.elim
  | some a => cases v with
    | none => exact g.elim
    | some v => exact yF_ok hb g
def yStep (M : xMi) (cons : List xCd) (fin : Bool) (rm : Nat × Nat × Nat × Nat) (nL : Nat) (chk : Option xV → xH → Nat → Nat → Nat → Bool) (N0 : Nat) (ann : List (Nat × List yAn)) (rec : yRc) : yRc := fun md cuts loops env pc cur ls st hp nx cs ss => match md with
  | none => yAt N0 ann rec cuts loops env pc cur ls st hp nx cs ss
  | some (a :: r) => yPre M N0 rec a r cuts loops env pc cur ls st hp nx cs ss
  | some [] => (match cur with
    | [] => false
    | q :: nxt => q.1 == pc && yIn M cons fin rm nL chk loops.2 (fun e => rec none cuts loops e) env pc q.2.1 q.2.2.1 nxt ls st hp nx cs ss)
noncomputable def yRun (M : xMi) (cons : List xCd) (fin : Bool) (rm : Nat × Nat × Nat × Nat) (nL : Nat) (chk : Option xV → xH → Nat → Nat → Nat → Bool) (N0 : Nat) (ann : List (Nat × List yAn)) (n : Nat) : yRc := Nat.rec (fun _ _ _ _ _ _ _ _ _ _ _ _ => false) (fun _ ih => yStep M cons fin rm nL chk N0 ann ih) n
section YRU
variable {p : Program} {l : Launch} {e : Env} {R : Room} {s : State} {m : MethodId} {args : Array Value} {below : List Frame} {meth : Method} {c : Code} {Q : State → Prop}
variable {cc : ByteArray} {D : va_G} {cy : Nat → ClassId} {A : Nat → Prop} {own : String} {Ts : List Cond} {ad0 : Nat → Nat} {nx0 nL N0 : Nat}
variable {M : xMi} {cons : List xCd} {fin : Bool} {rm : Nat × Nat × Nat × Nat} {chk : Option xV → xH → Nat → Nat → Nat → Bool} {ann : List (Nat × List yAn)} {σ0 : Nat → Int} {n0 : Nat}
theorem yRun_ok (hX : ∀ σ : Nat → Int, xCx p R s m args meth c cc D cy (yη σ) A own Ts ad0 nx0 nL M cons [] none fin rm) (hret : ∀ σ : Nat → Int, xRetOk p l e R s m args below meth c Q cc D cy (yη σ) A ad0 nx0 chk) : ∀ n : Nat, yIH p l e R s m args below meth c Q D cy A ad0 nx0 nL N0 σ0 n0 M (yRun M cons fin rm nL chk N0 ann n)
  | 0 => fun _ _ _ _ _ _ _ _ _ _ _ _ _ _ _ _ _ h => Bool.noConfusion (show false = true from h)
  | n + 1 => fun σ md cuts loops env pc cur ls st hp nx cs ss hE hH hZ hcur h => by
    have ih := yRun_ok hX hret n
    have h : yStep M cons fin rm nL chk N0 ann (yRun M cons fin rm nL chk N0 ann n) md cuts loops env pc cur ls st hp nx cs ss = true := h
    match md, h with
    | none, h => exact yAt_ok ih hE hH hZ hcur h
    | some (a :: r), h => exact yPre_ok ih hE hH hZ hcur h
    | some [], h =>
      match cur, hcur, h with
      | [], _, h => exact Bool.noConfusion (show false = true from h)
      | q :: nxt, hcur, h =>
        have h : (q.1 == pc && yIn M cons fin rm nL chk loops.2 (fun e => yRun M cons fin rm nL chk N0 ann n none cuts loops e) env pc q.2.1 q.2.2.1 nxt ls st hp nx cs ss) = true := h
        rw [Bool.and_eq_true, beq_iff_eq] at h
        obtain ⟨rfl, h⟩ := h
        obtain ⟨h1, h2, h3⟩ := (hX σ).2.1.1 q (hcur q List.mem_cons_self)
        exact yIn_ok (hX σ) (fun env' hE' hlen pc' cur' ls' st' hp' nx' cs' ss' hc' h' => ih σ none cuts loops env' pc' cur' ls' st' hp' nx' cs' ss' hE' (by rw [hlen]; exact hH) (by rw [hlen]; exact hZ) hc' h') (hret σ) hE (fun f hf => (hH.2.2 f hf).2) (fun z hz => hcur z (List.mem_cons_of_mem _ hz)) h1 h2 h
end YRU
noncomputable def yGoB (M : xM) (Mi : xMi) (con : xCon) (cons : List xCd) (ann : List (Nat × List yAn)) (n : Nat) : Bool := xBd con && (decide (4 ≤ con.1.2.2) && decide (xSum con.1.1 ≤ M.2.2.1)) && decide (con.1.2.2 ≤ con.2.1.2.2) && (con.1.1.all (yB 0) && yBh 0 con.1.2.1 && yFo con.2.1.1 && yBh 0 con.2.1.2.1) && con.2.2.2.isEmpty && yRun Mi cons (decide (M.1.name = "<init>")) con.2.2.1 M.2.2.1 (xChk M.2.2.2 con) con.1.2.2 ann n none [] ([], []) [] 0 Mi.1 (xArgs 0 con.1.1) [] con.1.2.1 con.1.2.2 0 0
set_option maxHeartbeats 4000000 in
theorem yHold {M : xM} {Mi : xMi} {con : xCon} {cons : List xCd} (ann : List (Nat × List yAn)) (n : Nat) (hMp : xMp M Mi) (hC : xConOk M.1.cls cons) (hgo : yGoB M Mi con cons ann n = true) : xHolds M con := by
  simp only [yGoB, Bool.and_eq_true, decide_eq_true_eq] at hgo
  obtain ⟨⟨⟨⟨⟨hbd, h4N, hmx⟩, hnx⟩, ⟨⟨hfa, hfp⟩, hf1⟩, hf2⟩, hts9⟩, hrun⟩ := hgo
  obtain ⟨hy, hM⟩ := hMp
  refine ⟨hbd, fun l D cy η0 ad sz av ws hts0 hav0 hws0 => ?_⟩
  have hav : ∀ σ : Nat → Int, xAll (xOk (yη σ) ad con.1.2.2) con.1.1 av := fun σ => yF_all hfa hav0
  have hws : ∀ σ : Nat → Int, xWok (yη σ) ad con.1.2.2 cy con.1.2.1 ws := fun σ => yFh_ok hfp hws0
  refine xOfW (cc := M.2.1) (maxL := M.2.2.1) (ret := M.2.2.2) hy rfl ?_
  intro p e s m args below meth c s₁ B hml hv
  obtain ⟨rfl, hsz, hP, hK, hD0, hSS⟩ := hv
  subst hsz
  have hx := B.exec
  have hb := B.bytes
  have hr := B.returns
  have hts := atoms_spec (ws := xWd M) B.pre
  have hown : s.vm.findClass M.1.cls = some m.cls := findClass_of_methodNamed B.named
  have hlocks := B.notSynchronized
  have hin : meth.name = M.1.name := (name_of_methodNamed B.named B.method).1
  have hD := hD0.self (sz := s.heap.size)
  have hA : ∀ q : Nat, s.heap.size ≤ q → va_A ws s.heap.size q := fun q h => Or.inr h
  have hl := lv_entry av (n := M.2.2.1) (by rw [xSl_len hav0]; exact hmx)
  rw [lg_entry_eq]
  have X : ∀ σ : Nat → Int, xCx p (headSpec (xWd M) (xRm con.2.2.1)).room s m av.toArray meth c M.2.1 D cy (yη σ) (va_A ws s.heap.size) M.1.cls (xWd M) ad con.1.2.2 M.2.2.1 Mi cons [] none (decide (M.1.name = "<init>")) con.2.2.1 := fun σ =>
    ⟨⟨hx, hb, hml, hts, fun w h => List.mem_cons_of_mem _ h, hown, hK, hA, (fun ad' had' => xSS_ad h4N had' hSS)⟩, hM, hC, (fun _ h => absurd h List.not_mem_nil), (fun z hz => by cases hz), (fun h => hin.trans (of_decide_eq_true h)), Nat.le_refl _, Nat.le_refl _, Nat.le_refl _, Nat.le_refl _⟩
  refine yRun_ok (below := below) (l := l) (e := e) (Q := MQ below (xQc con D cy η0 ad ws s.heap.size) av.toArray s con.2.2.1.2.2.1 con.2.2.1.2.2.2 (va_A ws s.heap.size)) (chk := xChk M.2.2.2 con) (σ0 := fun _ => 0) (n0 := 0) X (fun σ => ?_) n (fun _ => 0) none [] ([], []) [] 0 Mi.1 _ _ _ _ _ _ (fun _ _ h => by cases h) ⟨(fun _ h => absurd h List.not_mem_nil), (fun _ h => absurd h List.not_mem_nil), (fun _ h => absurd h List.not_mem_nil)⟩ ⟨Nat.le_refl _, fun _ _ => rfl⟩ (fun _ h => h) hrun ad _ _ [] s.heap [] (fun _ _ => rfl) (Nat.le_refl _) hl (xArgs_ok 0 (hav _)) trivial ⟨ws, hws _, hP, hD, va_S.rf⟩
  generalize yη σ = η
  intro ins o v hp nx cs ss ad' lsC H locs pc hrk hio hdg hchk had hnx' hret hR
  simp only [xChk, Bool.and_eq_true, beq_iff_eq, decide_eq_true_eq] at hchk
  obtain ⟨⟨⟨⟨⟨h1, h2⟩, h3⟩, h4⟩, h5⟩, h6⟩ := hchk
  split at h3
  rotate_left
  · cases h3
  rename_i rest htk
  obtain ⟨ws1, hw1, hP1, hD1, hS1⟩ := hR
  obtain ⟨wc, wr, hperm, hwc, hwr⟩ := xTakeAll_ok hw1 htk
  have hP2 : va_P D vwCl wc H := xP_mem.mpr fun q hq => xP_mem.mp (xP_perm hP1 hperm) q (List.mem_append_left _ hq)
  have hD2 : va_D (va_A ws s.heap.size) wc := by
    have := xD_mem.mp (xD_perm hD1 hperm)
    rw [List.map_append] at this
    exact xD_mem.mpr ⟨(List.nodup_append.mp this.1).1, fun q hq => this.2 q (List.mem_append_left _ hq)⟩
  have hret2 : xRet η ad' con.2.1.2.2 con.2.1.1 v := by
    rw [← h4]
    generalize con.2.1.1 = o2 at h2 ⊢
    cases o with
    | none => cases o2 with
      | none => cases v with
        | none => trivial
        | some v => exact hret.elim
      | some b => cases h2
    | some a => cases o2 with
      | none => cases h2
      | some b => cases v with
        | none => exact hret.elim
        | some v => exact xLeV_ok h2 hret
  rw [h4] at hwc
  have post : ∀ t : State, t.heap = H → s.WarmedH t.vm → xQc con D cy η0 ad ws s.heap.size av.toArray s (.returned v) t := fun t ht _ => ⟨⟨v, ad', wc, rfl, had, yFr_ret hf1 hret2, yFh_ok hf2 hwc, by rw [ht]; exact hP2, hD2⟩, hS1.F ht⟩
  refine W.widen (k := con.2.2.1.2.2.1) (n := con.2.2.1.2.2.2) h5 h6 ?_
  have hf : ∀ q ∈ locs, va_A ws s.heap.size q.base := hS1.2.2
  unfold xRt at h1
  rcases hio with ⟨e1, rfl⟩ | ⟨a, rfl, e1⟩
  · cases hrt : M.2.2.2 with
    | none =>
      rcases xRk_eq e1 (by omega) with ⟨q, -⟩ | ⟨q, -⟩ | ⟨q, -⟩ | ⟨-, rfl⟩
      · cases q
      · cases q
      · cases q
      · cases v with
        | none => exact W.vret hx hb (hr.trans hrt) post hf hdg
        | some v => exact hret.elim
    | some ty => rw [hrt] at h1; cases ty <;> cases h1
  · cases v with
    | none => exact hret.elim
    | some v =>
      have hret : xOk η ad' nx a v := hret
      split at h1
      · rename_i hh; cases hh
      · rename_i a' hrt ha'
        cases ha'
        obtain ⟨x, rfl⟩ := xIsI_ok h1 hret
        have : xKd a = 0 := by rcases xKd_ok hret with ⟨q, -⟩ | ⟨-, y, q⟩ | ⟨-, q | ⟨y, q⟩⟩ <;> first | exact q | cases q
        rcases xRk_eq (e1.trans this) (by omega) with ⟨-, rfl⟩ | ⟨q, -⟩ | ⟨q, -⟩ | ⟨q, -⟩
        · exact W.iret hx hb (hr.trans hrt) post hf hdg
        · cases q
        · cases q
        · cases q
      · rename_i i hrt ha'
        cases ha'
        simp only [Bool.and_eq_true, decide_eq_true_eq] at h1
        obtain ⟨x, rfl, x1, x2⟩ := hret
        rcases xRk_eq (k := 0) e1 (by decide) with ⟨-, rfl⟩ | ⟨q, -⟩ | ⟨q, -⟩ | ⟨q, -⟩
        · refine W.zret hx hb (hr.trans hrt) ?_ post hf hdg
          rcases x01 (x := x) (by omega) (by omega) with rfl | rfl <;> rfl
        · cases q
        · cases q
        · cases q
      · rename_i i hrt ha'
        cases ha'
        obtain ⟨x, rfl, x1⟩ := hret
        rcases xRk_eq (k := 1) e1 (by decide) with ⟨q, -⟩ | ⟨-, rfl⟩ | ⟨q, -⟩ | ⟨q, -⟩
        · cases q
        · exact W.lret hx hb (hr.trans hrt) post hf hdg
        · cases q
        · cases q
      · rename_i C k hrt ha'
        cases ha'
        rcases xRk_eq (k := 2) e1 (by decide) with ⟨q, -⟩ | ⟨q, -⟩ | ⟨-, rfl⟩ | ⟨q, -⟩
        · cases q
        · cases q
        · refine W.aret hx hb (hr.trans hrt) (Or.inl ⟨C, rfl⟩) ?_ post hf hdg
          cases k with
          | none => exact Or.inl hret
          | some k => exact Or.inr ⟨_, hret.2⟩
        · cases q
      · cases h1

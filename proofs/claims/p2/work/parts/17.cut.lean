/-! cuts and loops of a walk: states that other walks end in -/
abbrev yT : Type := Nat × Nat × List (Nat × xV) × List xV × xH
abbrev yLp : Type := yT × Nat × Bool × Nat
/-- locals put in, locals left out, how many of the stack go, what comes on it, cells put in -/
abbrev yGn : Type := List (Nat × xV) × List Nat × Nat × List xV × xH
/-- its kind, a change of the state, a number, upward, another number -/
abbrev yAn : Type := Nat × yGn × Nat × Bool × Int
abbrev yRc : Type := Option (List yAn) → List yT → List yLp → List xI → xRec
def yGl (g : yGn) (ls : List (Nat × xV)) : List (Nat × xV) := g.1 ++ ls.filter (fun q => !(g.2.1.any (fun i => i == q.1)) && !(g.1.any (fun z => z.1 == q.1)))
def yGs (g : yGn) (st : List xV) : List xV := g.2.2.2.1 ++ st.drop g.2.2.1
def yGh (g : yGn) (hp : xH) : xH := g.2.2.2.2 ++ hp.filter (fun q => !(g.2.2.2.2.any (fun z => z.1 == q.1)))
def yMk (n pc : Nat) (g : yGn) (ls : List (Nat × xV)) (st : List xV) (hp : xH) : yT := (pc, n, yGl g ls, yGs g st, yGh g hp)
def yBt (T : yT) : Bool := T.2.2.1.all (fun q => yB T.2.1 q.2) && T.2.2.2.1.all (yB T.2.1) && yBh T.2.1 T.2.2.2.2
def yMl (env : List xI) (ls : List (Nat × xV)) : List (Nat × xV) → Bool
  | [] => true
  | q :: r => (match xLg q.1 ls with
    | some a => yLeV env a q.2
    | none => false) && yMl env ls r
def yM (env : List xI) (T : yT) (ls : List (Nat × xV)) (st : List xV) (hp : xH) : Bool := yMl env ls T.2.2.1 && yLeL env st T.2.2.2.1 && (match yTakeAll env T.2.2.2.2 hp with
  | some _ => true
  | none => false)
def ySy (n : Nat) : xV := .inr (.inr (.inr (yC n 0)))
def yCnt (env : List xI) (L : yLp) (ls : List (Nat × xV)) : Bool := (match xLg L.2.1 L.1.2.2.1 with
  | some _ => true
  | none => false) && (match xLg L.2.1 ls with
  | some (.inr (.inr (.inr k))) => yN k == L.2.2.2 && (bif L.2.2.1 then decide (0 < yO k) else decide (yO k < 0)) && (match yIv env k with
    | some _ => true
    | none => false)
  | _ => false)
theorem yMl_ok {σ : Nat → Int} {env : List xI} (h : yOkE σ env) {ad : Nat → Nat} {N : Nat} {ls : List (Nat × xV)} {lv : List (Nat × Value)} (hla : xAll (xLok (yη σ) ad N) ls lv) : ∀ {ts : List (Nat × xV)}, yMl env ls ts = true → ∃ lv' : List (Nat × Value), xAll (xLok (yη σ) ad N) ts lv' ∧ ∀ q ∈ lv', q ∈ lv
  | [], _ => ⟨[], trivial, fun _ hq => by cases hq⟩
  | q :: r, hm => by
    simp only [yMl, Bool.and_eq_true] at hm
    obtain ⟨h1, h2⟩ := hm
    split at h1
    · rename_i a ha
      obtain ⟨k, v, g1, g2⟩ := xLg_ok hla ha
      obtain ⟨lv', g3, g4⟩ := yMl_ok h hla h2
      refine ⟨(q.1, v) :: lv', ⟨⟨rfl, yLeV_ok h h1 g2⟩, g3⟩, fun z hz => ?_⟩
      rcases List.mem_cons.mp hz with rfl | hz
      · exact List.mem_of_getElem? g1
      · exact g4 z hz
    · cases h1
/-- the first names are what they were -/
def yZ (σ0 : Nat → Int) (n0 : Nat) (σ : Nat → Int) (n : Nat) : Prop := n0 ≤ n ∧ ∀ j, j < n0 → σ j = σ0 j
theorem yZ_ext {σ0 σ σ' : Nat → Int} {n0 n n' : Nat} (h : yZ σ0 n0 σ n) (hn : n ≤ n') (hs : ∀ j, j < n → σ' j = σ j) : yZ σ0 n0 σ' n' := ⟨Nat.le_trans h.1 hn, fun j hj => (hs j (Nat.lt_of_lt_of_le hj h.1)).trans (h.2 j hj)⟩
section YCU
variable {p : Program} {l : Launch} {e : Env} {R : Room} {s : State} {m : MethodId} {args : Array Value} {below : List Frame} {meth : Method} {c : Code} {Q : State → Prop}
variable {cc : ByteArray} {D : va_G} {cy : Nat → ClassId} {A : Nat → Prop} {own : String} {Ts : List Cond} {ad0 : Nat → Nat} {nx0 nL N0 : Nat}
variable {M : xMi} {rec : yRc} {σ0 : Nat → Int} {n0 : Nat}
theorem yRelSub {η : Nat → Int32} {ad : Nat → Nat} {N : Nat} {H0 H : Heap} {locs : List Loc} {hp : xH} {ws wc wr : va_W} (hP : va_P D vwCl ws H) (hD : va_D A ws) (hS : va_S A H0 H locs) (hperm : ws.Perm (wc ++ wr)) (hw : xWok η ad N cy hp wc) : xRel D cy η ad N A H0 hp H locs := by
  refine ⟨wc, hw, xP_mem.mpr fun q hq => xP_mem.mp (xP_perm hP hperm) q (List.mem_append_left _ hq), ?_, hS⟩
  have := xD_mem.mp (xD_perm hD hperm)
  rw [List.map_append] at this
  exact xD_mem.mpr ⟨(List.nodup_append.mp this.1).1, fun q hq => this.2 q (List.mem_append_left _ hq)⟩
theorem yHasSub {lsC : Array Slot} {lv lv' : List (Nat × Value)} (h : lv_has lsC nL lv) (hs : ∀ q ∈ lv', q ∈ lv) : lv_has lsC nL lv' := ⟨h.1, h.2.1, fun q hq => h.2.2 q (hs q hq)⟩
/-- what is to hold at a template's place, for a locals' list that fits it -/
def yTG (p : Program) (l : Launch) (e : Env) (R : Room) (s : State) (m : MethodId) (args : Array Value) (below : List Frame) (meth : Method) (c : Code) (Q : State → Prop) (D : va_G) (cy : Nat → ClassId) (A : Nat → Prop) (ad0 : Nat → Nat) (nx0 nL N0 : Nat) (T : yT) (σ : Nat → Int) (P : List (Nat × Value) → Prop) : Prop :=
  ∀ (ad : Nat → Nat) (lsC : Array Slot) (lv : List (Nat × Value)) (stC : List Value) (H : Heap) (locs : List Loc), (∀ k, k < nx0 → ad k = ad0 k) → nx0 ≤ N0 → lv_has lsC nL lv → xAll (xLok (yη σ) ad N0) T.2.2.1 lv → xAll (xOk (yη σ) ad N0) T.2.2.2.1 stC → xRel D cy (yη σ) ad N0 A s.heap T.2.2.2.2 H locs → P lv → W p l e R s m args below meth c H locs 0 0 Q (F0 m T.1 lsC stC)
/-- the hypotheses: each cut, and each loop ahead of where it now is -/
def yHy (p : Program) (l : Launch) (e : Env) (R : Room) (s : State) (m : MethodId) (args : Array Value) (below : List Frame) (meth : Method) (c : Code) (Q : State → Prop) (D : va_G) (cy : Nat → ClassId) (A : Nat → Prop) (ad0 : Nat → Nat) (nx0 nL N0 : Nat) (σ : Nat → Int) (n : Nat) (cuts : List yT) (loops : List yLp) : Prop :=
  (∀ T ∈ cuts, T.2.1 ≤ n ∧ ∀ σ' : Nat → Int, (∀ j, j < T.2.1 → σ' j = σ j) → yTG p l e R s m args below meth c Q D cy A ad0 nx0 nL N0 T σ' (fun _ => True)) ∧
  (∀ L ∈ loops, L.1.2.1 ≤ n ∧ L.2.2.2 < n ∧ ∀ σ' : Nat → Int, (∀ j, j < L.1.2.1 → σ' j = σ j) → yTG p l e R s m args below meth c Q D cy A ad0 nx0 nL N0 L.1 σ' (fun lv => ∃ x : Int32, (L.2.1, Value.int x) ∈ lv ∧ (L.2.2.1 = true → σ L.2.2.2 < x.toInt) ∧ (L.2.2.1 = false → x.toInt < σ L.2.2.2)))
theorem yHy_ext {σ σ' : Nat → Int} {n n' : Nat} {cuts : List yT} {loops : List yLp} (hn : n ≤ n') (hs : ∀ j, j < n → σ' j = σ j) (h : yHy p l e R s m args below meth c Q D cy A ad0 nx0 nL N0 σ n cuts loops) : yHy p l e R s m args below meth c Q D cy A ad0 nx0 nL N0 σ' n' cuts loops := by
  refine ⟨fun T hT => ?_, fun L hL => ?_⟩
  · obtain ⟨h1, h2⟩ := h.1 T hT
    exact ⟨Nat.le_trans h1 hn, fun τ ht => h2 τ fun j hj => (ht j hj).trans (hs j (Nat.lt_of_lt_of_le hj h1))⟩
  · obtain ⟨h1, h2, h3⟩ := h.2 L hL
    refine ⟨Nat.le_trans h1 hn, Nat.lt_of_lt_of_le h2 hn, fun τ ht => ?_⟩
    rw [hs _ h2]
    exact h3 τ fun j hj => (ht j hj).trans (hs j (Nat.lt_of_lt_of_le hj h1))
def yIH (p : Program) (l : Launch) (e : Env) (R : Room) (s : State) (m : MethodId) (args : Array Value) (below : List Frame) (meth : Method) (c : Code) (Q : State → Prop) (D : va_G) (cy : Nat → ClassId) (A : Nat → Prop) (ad0 : Nat → Nat) (nx0 nL N0 : Nat) (σ0 : Nat → Int) (n0 : Nat) (M : xMi) (rec : yRc) : Prop :=
  ∀ (σ : Nat → Int) (md : Option (List yAn)) (cuts : List yT) (loops : List yLp) (env : List xI) (pc : Nat) (cur : List xEn) (ls : List (Nat × xV)) (st : List xV) (hp : xH) (nx cs ss : Nat), yOkE σ env → yHy p l e R s m args below meth c Q D cy A ad0 nx0 nL N0 σ env.length cuts loops → yZ σ0 n0 σ env.length → (∀ q ∈ cur, q ∈ M.1) → rec md cuts loops env pc cur ls st hp nx cs ss = true → xGood p l e R s m args below meth c Q D cy (yη σ) A ad0 nx0 nL pc ls st hp nx cs ss
/-- a state that fits a template -/
theorem yM_good {σ : Nat → Int} {env : List xI} (hE : yOkE σ env) {T : yT} {ls : List (Nat × xV)} {st : List xV} {hp : xH} (hM : yM env T ls st hp = true) {P : List (Nat × Value) → Prop} (hG : yTG p l e R s m args below meth c Q D cy A ad0 nx0 nL N0 T σ P)
    (hP : ∀ (ad : Nat → Nat) (lsC : Array Slot) (lv lv' : List (Nat × Value)), lv_has lsC nL lv → xAll (xLok (yη σ) ad N0) ls lv → xAll (xLok (yη σ) ad N0) T.2.2.1 lv' → (∀ q ∈ lv', q ∈ lv) → P lv') : xGood p l e R s m args below meth c Q D cy (yη σ) A ad0 nx0 nL T.1 ls st hp N0 0 0 := by
  simp only [yM, Bool.and_eq_true] at hM
  obtain ⟨⟨h1, h2⟩, h3⟩ := hM
  intro ad lsC lv stC H locs had hnx hl hla hs hR
  obtain ⟨lv', g1, g2⟩ := yMl_ok hE hla h1
  split at h3
  · rename_i r htk
    obtain ⟨ws, hw, hPp, hD, hS⟩ := hR
    obtain ⟨wc, wr, hperm, hwc, -⟩ := yTakeAll_ok hE hw htk
    exact hG ad lsC lv' stC H locs had hnx (yHasSub hl g2) g1 (yLeL_ok hE h2 hs) (yRelSub hPp hD hS hperm hwc) (hP ad lsC lv lv' hl hla g1 g2)
  · cases h3
def yAt (N0 : Nat) (ann : List (Nat × List yAn)) (rec : yRc) (cuts : List yT) (loops : List yLp) (env : List xI) (pc : Nat) (cur : List xEn) (ls : List (Nat × xV)) (st : List xV) (hp : xH) (nx cs ss : Nat) : Bool := match cuts.find? (fun T => T.1 == pc) with
  | some T => nx == N0 && cs == 0 && ss == 0 && yM env T ls st hp
  | none => (match loops.find? (fun L => L.1.1 == pc) with
    | some L => nx == N0 && cs == 0 && ss == 0 && yM env L.1 ls st hp && yCnt env L ls
    | none => rec (some (match xAs pc ann with | some a => a | none => [])) cuts loops env pc cur ls st hp nx cs ss)
theorem yAt_ok {ann : List (Nat × List yAn)} (I : yIH p l e R s m args below meth c Q D cy A ad0 nx0 nL N0 σ0 n0 M rec) {σ : Nat → Int} {cuts : List yT} {loops : List yLp} {env : List xI} {pc : Nat} {cur : List xEn} {ls : List (Nat × xV)} {st : List xV} {hp : xH} {nx cs ss : Nat} (hE : yOkE σ env) (hH : yHy p l e R s m args below meth c Q D cy A ad0 nx0 nL N0 σ env.length cuts loops) (hZ : yZ σ0 n0 σ env.length) (hcur : ∀ q ∈ cur, q ∈ M.1) (h : yAt N0 ann rec cuts loops env pc cur ls st hp nx cs ss = true) : xGood p l e R s m args below meth c Q D cy (yη σ) A ad0 nx0 nL pc ls st hp nx cs ss := by
  unfold yAt at h
  split at h
  · rename_i T hT
    have hmem := List.mem_of_find?_eq_some hT
    have hpc : T.1 = pc := by simpa using List.find?_some hT
    simp only [Bool.and_eq_true, beq_iff_eq] at h
    obtain ⟨⟨⟨rfl, rfl⟩, rfl⟩, h4⟩ := h
    rw [← hpc]
    exact yM_good hE h4 ((hH.1 T hmem).2 σ fun _ _ => rfl) (fun _ _ _ _ _ _ _ _ => trivial)
  · split at h
    · rename_i L hL
      have hmem := List.mem_of_find?_eq_some hL
      have hpc : L.1.1 = pc := by simpa using List.find?_some hL
      simp only [Bool.and_eq_true, beq_iff_eq] at h
      obtain ⟨⟨⟨⟨rfl, rfl⟩, rfl⟩, h4⟩, h5⟩ := h
      rw [← hpc]
      refine yM_good hE h4 ((hH.2 L hmem).2.2 σ fun _ _ => rfl) (fun ad lsC lv lv' hl hla hla' hsub => ?_)
      simp only [yCnt, Bool.and_eq_true] at h5
      obtain ⟨h5, h6⟩ := h5
      split at h5
      · rename_i a ha
        obtain ⟨k1, v1, g1, -⟩ := xLg_ok hla' ha
        split at h6
        · rename_i k hk
          simp only [Bool.and_eq_true, beq_iff_eq] at h6
          obtain ⟨⟨h7, h8⟩, h9⟩ := h6
          obtain ⟨k2, v2, g2, g3⟩ := xLg_ok hla hk
          have g3 : v2 = .int (yη σ k) := g3
          subst g3
          have m1 := List.mem_of_getElem? g1
          have e1 := hl.2.2 _ (hsub _ m1)
          have e2 := hl.2.2 _ (List.mem_of_getElem? g2)
          have e3 : v1 = .int (yη σ k) := by
            dsimp only at e1 e2
            rw [e1] at e2
            cases e2
            rfl
          subst e3
          split at h9
          · rename_i i hi
            have e4 := (yIv_ok hE hi).1
            rw [h7] at e4
            refine ⟨_, m1, fun hu => ?_, fun hu => ?_⟩
            · rw [hu, cond_true, decide_eq_true_eq] at h8
              rw [e4]; omega
            · rw [hu, cond_false, decide_eq_true_eq] at h8
              rw [e4]; omega
          · cases h9
        · cases h6
      · cases h5
    · exact I σ _ cuts loops env pc cur ls st hp nx cs ss hE hH hZ hcur h
end YCU

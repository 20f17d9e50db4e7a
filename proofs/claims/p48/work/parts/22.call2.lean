/-! calls by contracts over names; the walk that makes such contracts -/
abbrev yCd : Type := (Nat × Nat × Nat × Nat × Nat) × yCo2 × List (Nat ⊕ (Nat × Nat))
def yConOk (own : String) (cons : List yCd) : Prop := ∀ q ∈ cons, ∃ M' : xM, xCok own (q.1.1, q.1.2.1, q.1.2.2.1, M', q.1.2.2.2.1) ∧ M'.2.2.1 = q.1.2.2.2.2 ∧ yHolds M' q.2.1
def yVl : Option xV → Nat ⊕ Int
  | some (.inr (.inr (.inr k))) => .inl k
  | some (.inl i) => .inr i.1
  | _ => .inr 0
def ySr (as : List xV) (hp : xH) (src : List (Nat ⊕ (Nat × Nat))) : yRo := src.map (fun z => match z with
  | .inl i => yVl as[i]?
  | .inr q => (match xGet q.1 hp with
    | some (.inl o) => yVl o.2[q.2]?
    | _ => .inr 0))
def yC1 (env : List xI) (q : yCd) (as : List xV) (hp : xH) (ρ : yRo) : Option xH := bif yRen env ρ q.2.1.2.2.2.2.2 && q.2.1.1.all (yRk ρ) && yRhk ρ q.2.1.2.1 && q.2.1.2.2.2.1.all (fun w => yRok ρ w.1 && yRhk ρ w.2.1) && yLeL env as (q.2.1.1.map (yRv ρ)) then yTakeAll env (yRh ρ q.2.1.2.1) hp else none
theorem yC1_ok {env : List xI} {q : yCd} {as : List xV} {hp hp' : xH} {ρ : yRo} (h : yC1 env q as hp ρ = some hp') : (yRen env ρ q.2.1.2.2.2.2.2 = true ∧ q.2.1.1.all (yRk ρ) = true ∧ yRhk ρ q.2.1.2.1 = true ∧ q.2.1.2.2.2.1.all (fun w => yRok ρ w.1 && yRhk ρ w.2.1) = true ∧ yLeL env as (q.2.1.1.map (yRv ρ)) = true) ∧ yTakeAll env (yRh ρ q.2.1.2.1) hp = some hp' := by
  unfold yC1 at h
  by_cases hc : (yRen env ρ q.2.1.2.2.2.2.2 && q.2.1.1.all (yRk ρ) && yRhk ρ q.2.1.2.1 && q.2.1.2.2.2.1.all (fun w => yRok ρ w.1 && yRhk ρ w.2.1) && yLeL env as (q.2.1.1.map (yRv ρ))) = true
  · rw [hc, cond_true] at h
    simp only [Bool.and_eq_true] at hc
    obtain ⟨⟨⟨⟨h1, h2⟩, h3⟩, h4⟩, h5⟩ := hc
    exact ⟨⟨h1, h2, h3, by simpa only [Bool.and_eq_true] using h4, h5⟩, h⟩
  · rw [show (yRen env ρ q.2.1.2.2.2.2.2 && q.2.1.1.all (yRk ρ) && yRhk ρ q.2.1.2.1 && q.2.1.2.2.2.1.all (fun w => yRok ρ w.1 && yRhk ρ w.2.1) && yLeL env as (q.2.1.1.map (yRv ρ))) = false by simpa using hc, cond_false] at h
    cases h
def yF1 (env : List xI) (i : Nat) (st : List xV) (hp : xH) : List yCd → Option (yCd × List xV × List xV × xH × yRo)
  | [] => none
  | q :: r => bif q.1.1 == i then (match xPop q.2.1.1.length st [] with
      | some z => (match yC1 env q z.1 hp (ySr z.1 hp q.2.2) with
        | some hp' => some (q, z.1, z.2, hp', ySr z.1 hp q.2.2)
        | none => yF1 env i st hp r)
      | none => none) else yF1 env i st hp r
theorem yF1_ok {env : List xI} {i : Nat} {st : List xV} {hp : xH} {q : yCd} {as rest : List xV} {hp' : xH} {ρ : yRo} : ∀ {cs : List yCd}, yF1 env i st hp cs = some (q, as, rest, hp', ρ) → q ∈ cs ∧ q.1.1 = i ∧ xPop q.2.1.1.length st [] = some (as, rest) ∧ yC1 env q as hp ρ = some hp'
  | [], h => by simp [yF1] at h
  | z :: r, h => by
    have next : yF1 env i st hp r = some (q, as, rest, hp', ρ) → _ := fun h => by
      obtain ⟨h1, h2⟩ := yF1_ok h
      exact (⟨List.mem_cons_of_mem z h1, h2⟩ : q ∈ z :: r ∧ _)
    unfold yF1 at h
    by_cases hq : (z.1.1 == i) = true
    · rw [hq, cond_true] at h
      split at h
      · rename_i w hw
        split at h
        · rename_i hp2 hc
          cases h
          exact ⟨List.mem_cons_self, eq_of_beq hq, hw, hc⟩
        · exact next h
      · cases h
    · rw [show (z.1.1 == i) = false by simpa using hq, cond_false] at h
      exact next h
def yPsh (o : Option xV) (rest : List xV) : List xV := match o with
  | some v => v :: rest
  | none => rest
/-- a number that an end excludes -/
def yEx : yRo → List xI → Bool
  | .inr c :: ρ, i :: is => decide (c < i.1) || decide (i.2 < c) || yEx ρ is
  | .inl _ :: ρ, _ :: is => yEx ρ is
  | [], _ => false
  | _ :: _, [] => false
theorem yEx_ok {σ : Nat → Int} : ∀ {ρ : yRo} {is : List xI}, yOkE (yRσ ρ σ) is → yEx ρ is = false
  | .inr c :: ρ, i :: is, g => by
    have h0 : i.1 ≤ c ∧ c ≤ i.2 := by
      have := g 0 i rfl
      unfold yRσ at this
      exact this
    have h1 : yEx ρ is = false := yEx_ok (σ := σ) (fun j q hj => by
      have := g (j + 1) q hj
      unfold yRσ at this ⊢
      rw [List.getElem?_cons_succ] at this
      exact this)
    unfold yEx
    rw [h1, Bool.or_false, Bool.or_eq_false_iff]
    exact ⟨decide_eq_false (by omega), decide_eq_false (by omega)⟩
  | .inl k :: ρ, i :: is, g => by
    unfold yEx
    exact yEx_ok (σ := σ) (fun j q hj => by
      have := g (j + 1) q hj
      unfold yRσ at this ⊢
      rw [List.getElem?_cons_succ] at this
      exact this)
  | [], _, _ => by unfold yEx; rfl
  | .inl _ :: _, [], _ => by unfold yEx; rfl
  | .inr _ :: _, [], _ => by unfold yEx; rfl
def yIv2 (cons : List yCd) (rm : Nat × Nat × Nat × Nat) (rec : List xI → xRec) (env : List xI) (ins : Instr) (i pc : Nat) (nxt : List xEn) (ls : List (Nat × xV)) (st : List xV) (hp : xH) (nx cs ss : Nat) : Option Bool := match yF1 env i st hp cons with
  | some (q, as, rest, hp', ρ) => some (xCk ins q.1 as hp && q.2.1.2.2.1 == nx && decide (q.2.1.2.2.2.2.1.1 + 1 ≤ rm.1) && decide (8 + (q.1.2.2.2.2 + 11) + q.2.1.2.2.2.2.1.2.1 ≤ rm.2.1) && decide (cs + q.2.1.2.2.2.2.1.2.2.1 ≤ rm.2.2.1) && decide (ss + q.2.1.2.2.2.2.1.2.2.2 ≤ rm.2.2.2) && decide (xSum rest ≤ 8) && q.2.1.2.2.2.1.all (fun w => (yEm (yRt env ρ w.2.2) || yEx ρ w.2.2) || rec (yRt env ρ w.2.2) (pc + 3) nxt ls (yPsh (yRo1 ρ w.1) rest) (yRh ρ w.2.1 ++ hp') nx (cs + q.2.1.2.2.2.2.1.2.2.1) (ss + q.2.1.2.2.2.2.1.2.2.2)))
  | none => none
section YC2
variable {p : Program} {l : Launch} {e : Env} {R : Room} {s : State} {m : MethodId} {args : Array Value} {below : List Frame} {meth : Method} {c : Code} {Q : State → Prop}
variable {cc : ByteArray} {D : va_G} {cy : Nat → ClassId} {A : Nat → Prop} {own : String} {Ts : List Cond} {ad0 : Nat → Nat} {nx0 nL N0 : Nat}
variable {M : xMi} {cons : List xCd} {cons2 : List yCd} {fin : Bool} {rm : Nat × Nat × Nat × Nat} {σ : Nat → Int} {env : List xI} {σ0 : Nat → Int} {n0 : Nat}
set_option maxHeartbeats 4000000 in
theorem yIv2_ok {rec : List xI → xRec} (X : xCx p R s m args meth c cc D cy (yη σ) A own Ts ad0 nx0 nL M cons [] none fin rm) (hC2 : yConOk own cons2) (I : ∀ env' : List xI, yOkE σ env' → env'.length = env.length → xIH p l e R s m args below meth c Q D cy (yη σ) A ad0 nx0 nL M (rec env')) (hE : yOkE σ env) {ins : Instr} {i pc : Nat} {nxt : List xEn} (hi : ins = .invokevirtual i ∨ ins = .invokestatic i ∨ ins = .invokespecial i) (hn : ∀ q ∈ nxt, q ∈ M.1) (hdg : decode cc pc = .ok (ins, 3)) {ls : List (Nat × xV)} {st : List xV} {hp : xH} {nx cs ss : Nat} (h : yIv2 cons2 rm rec env ins i pc nxt ls st hp nx cs ss = some true) : xGood p l e R s m args below meth c Q D cy (yη σ) A ad0 nx0 nL pc ls st hp nx cs ss := by
  obtain ⟨⟨hx, hb, hml, hts, hbig, hown, hK, hA, hSS⟩, hM, hC, ht, hsc, hfin, hR1, hR2, hR3, hR4⟩ := X
  intro ad lsC lv stC H locs had hnx hl hla hs hR
  unfold yIv2 at h
  split at h
  rotate_left
  · cases h
  rename_i q as rest hp' ρ hq
  have h := Option.some.inj h
  obtain ⟨hmem, hidx, hpop, hc1⟩ := yF1_ok hq
  obtain ⟨⟨hren, hak, hpk, hpo, hle⟩, htk⟩ := yC1_ok hc1
  simp only [Bool.and_eq_true, beq_iff_eq, decide_eq_true_eq] at h
  obtain ⟨⟨⟨⟨⟨⟨⟨h1, h2⟩, h4⟩, h5⟩, h6⟩, h7⟩, h8⟩, h9⟩ := h
  obtain ⟨M', hcok, hmx, hbd, hh⟩ := hC2 q hmem
  obtain ⟨asC, restC, e1, e2, e3⟩ := xPop_ok (accC := []) hpop hs trivial
  rw [List.reverse_nil, List.nil_append] at e1
  subst e1
  obtain ⟨ws, hw, hP0, hD0, hS⟩ := hR
  obtain ⟨wc, wr, hperm, hwc, hwr⟩ := yTakeAll_ok hE hw htk
  have hP := xP_perm hP0 hperm
  have hD := xD_perm hD0 hperm
  have hwc' : xWok (yη (yRσ ρ σ)) ad nx cy q.2.1.2.1 wc := (yRh_ok hpk).mpr hwc
  have has' : xAll (xOk (yη (yRσ ρ σ)) ad nx) q.2.1.1 asC := (yRl_ok hak).mpr (yLeL_ok hE hle e2)
  have hMet := hh l D cy (yRσ ρ σ) ad H.size asC wc (yRen_ok hE hren) (by rw [h2]; exact has') (by rw [h2]; exact hwc')
  have hfr : ∀ q, va_A wc H.size q → A q := by
    intro q h
    rcases h with ⟨k, x, h⟩ | h
    · exact (xD_mem.mp hD).2 (q, x) (List.mem_append_left _ (List.mem_of_getElem? h))
    · exact hA q (Nat.le_trans hS.1 h)
  have hpc : ∀ U : State, U.heap = H → s.WarmedH U.vm → xPc D cy ad asC wc H.size asC.toArray U := fun U hU hW => ⟨rfl, by rw [hU], by rw [hU]; exact xP_mem.mpr fun q hq => xP_mem.mp hP q (List.mem_append_left _ hq), xKK_warm hW hK, xD_mem.mpr ⟨(List.nodup_append.mp (by have := (xD_mem.mp hD).1; rw [List.map_append] at this; exact this)).1, fun _ _ => trivial⟩, xSS_warm hW (fun a z1 z2 => by rw [hU]; exact hS.2.1 a z1 z2) hfr (hSS ad had)⟩
  have hrun := yRunM (p := p) (l := l) (e := e) (R := R) (below := below) (meth := meth) (locs := locs) (cells := cs) (slots := ss) (rest := restC) (pc := pc) (ls := lsC) (q := (q.1.1, q.1.2.1, q.1.2.2.1, M', q.1.2.2.2.1)) (rmq := q.2.1.2.2.2.2.1) (ins := ins) hx hb hml hl.1 hts hbig hown hK hw hP0 hcok (as := asC) hMet hpc ⟨by omega, by rw [hmx]; omega⟩ ⟨by omega, by omega⟩ (by rw [xSum_ok e3]; exact h8) (by
    have hlen := xAll_len e2
    rcases hi with rfl | rfl | rfl
    · simp only [xCk, Bool.and_eq_true, beq_iff_eq] at h1
      obtain ⟨⟨g1, g2⟩, g3⟩ := h1
      refine Or.inl ⟨g1, by rw [hidx], by rw [← hlen]; exact g2, ?_⟩
      split at g3
      · rename_i k r
        match asC, e2 with
        | [], e2 => exact e2.elim
        | v :: asC, e2 =>
          split at g3
          · rename_i o ho
            obtain ⟨-, rfl⟩ := e2.1
            refine ⟨k, o.2, rfl, ?_⟩
            rw [ho, ← eq_of_beq g3]
          · cases g3
      · cases g3
    · simp only [xCk, Bool.and_eq_true, Bool.or_eq_true, beq_iff_eq] at h1
      exact Or.inr (Or.inl ⟨h1.1, by rw [hidx], by rw [← hlen]; exact h1.2⟩)
    · simp only [xCk, Bool.and_eq_true, Bool.or_eq_true, beq_iff_eq] at h1
      obtain ⟨⟨g1, g2⟩, g3⟩ := h1
      refine Or.inr (Or.inr ⟨g1, by rw [hidx], by rw [← hlen]; exact g2, ?_⟩)
      split at g3
      · rename_i k r
        match asC, e2 with
        | [], e2 => exact e2.elim
        | v :: asC, e2 =>
          obtain ⟨-, rfl⟩ := e2.1
          exact ⟨_, rfl⟩
      · cases g3) hdg
  refine xc_call hrun hS hfr (fun st v t hq => hq.2) (fun v st t locs1 hst hqc hS1 => ?_)
  obtain ⟨⟨z, r, ws', hz, hr, hret, hw', hP', hD', hzE⟩, hF⟩ := hqc
  cases hr
  obtain ⟨hz0, hk⟩ := hF
  rw [hst] at hz0 hk
  obtain ⟨hP1, hD1⟩ := xJoin (H0 := s.heap) hP hD hS hA hk hP' hD'
  have hrec := List.all_eq_true.mp h9 z hz
  have hok := List.all_eq_true.mp hpo z hz
  simp only [Bool.and_eq_true] at hok
  rw [h2] at hret hw'
  have hret' := yRo_ok hok.1 hret
  have hw2 := (yRh_ok hok.2).mp hw'
  have hE2 := yRt_ok hE hzE
  rw [yEm_ok hE2, yEx_ok hzE, Bool.false_or, Bool.false_or] at hrec
  refine I _ hE2 yRt_len _ _ _ _ _ _ _ _ hn hrec ad lsC lv _ t.heap locs1 had hnx hl hla ?_ ⟨ws' ++ wr, xAll_app hw2 hwr, hP1, hD1, hS1⟩
  generalize yRo1 ρ z.1 = o at hret'
  cases o with
  | none => cases v with
    | none => exact e3
    | some v => exact hret'.elim
  | some o => cases v with
    | none => exact hret'.elim
    | some v => exact ⟨hret', e3⟩
def yRt2 (chk : List xI → Option xV → xH → Nat → Nat → Nat → Bool) (env : List xI) (ins : Instr) (st : List xV) (hp : xH) (nx cs ss : Nat) : Bool := match st with
  | [] => xRk ins == 3 && chk env none hp nx cs ss
  | [a] => xRk ins == xKd a && chk env (some a) hp nx cs ss
  | _ => false
def yIn2 (M : xMi) (cons : List xCd) (cons2 : List yCd) (fin : Bool) (rm : Nat × Nat × Nat × Nat) (nL : Nat) (chk : List xI → Option xV → xH → Nat → Nat → Nat → Bool) (F : List yFa) (rec : List xI → xRec) (env : List xI) (pc : Nat) (ins : Instr) (len : Nat) (nxt : List xEn) (ls : List (Nat × xV)) (st : List xV) (hp : xH) (nx cs ss : Nat) : Bool := match ins with
  | .invokevirtual i => (match yIv2 cons2 rm rec env (.invokevirtual i) i pc nxt ls st hp nx cs ss with
    | some b => b
    | none => yIn M cons fin rm nL (fun _ _ _ _ _ => false) F rec env pc (.invokevirtual i) len nxt ls st hp nx cs ss)
  | .invokestatic i => (match yIv2 cons2 rm rec env (.invokestatic i) i pc nxt ls st hp nx cs ss with
    | some b => b
    | none => yIn M cons fin rm nL (fun _ _ _ _ _ => false) F rec env pc (.invokestatic i) len nxt ls st hp nx cs ss)
  | .invokespecial i => (match yIv2 cons2 rm rec env (.invokespecial i) i pc nxt ls st hp nx cs ss with
    | some b => b
    | none => yIn M cons fin rm nL (fun _ _ _ _ _ => false) F rec env pc (.invokespecial i) len nxt ls st hp nx cs ss)
  | ins => bif decide (xRk ins < 9) then yRt2 chk env ins st hp nx cs ss else yIn M cons fin rm nL (fun _ _ _ _ _ => false) F rec env pc ins len nxt ls st hp nx cs ss
def yRetOk2 (p : Program) (l : Launch) (e : Env) (R : Room) (s : State) (m : MethodId) (args : Array Value) (below : List Frame) (meth : Method) (c : Code) (Q : State → Prop) (cc : ByteArray) (D : va_G) (cy : Nat → ClassId) (A : Nat → Prop) (ad0 : Nat → Nat) (nx0 : Nat) (σ0 : Nat → Int) (n0 : Nat) (chk : List xI → Option xV → xH → Nat → Nat → Nat → Bool) : Prop :=
  ∀ (σ : Nat → Int) (env : List xI), yOkE σ env → yZ σ0 n0 σ env.length → xRetOk p l e R s m args below meth c Q cc D cy (yη σ) A ad0 nx0 (chk env)
theorem xRkLen {ins : Instr} (h : xRk ins < 9) : xLen ins = 1 := by
  unfold xRk at h
  split at h <;> first | rfl | omega
theorem yIn2_ok {chk : List xI → Option xV → xH → Nat → Nat → Nat → Bool} {rec : List xI → xRec} (X : xCx p R s m args meth c cc D cy (yη σ) A own Ts ad0 nx0 nL M cons [] none fin rm) (hC2 : yConOk own cons2) (I : ∀ env' : List xI, yOkE σ env' → env'.length = env.length → xIH p l e R s m args below meth c Q D cy (yη σ) A ad0 nx0 nL M (rec env')) (hret : xRetOk p l e R s m args below meth c Q cc D cy (yη σ) A ad0 nx0 (chk env)) (hE : yOkE σ env) {F : List yFa} (hF : ∀ f ∈ F, yFs σ f ≤ 0) {ins : Instr} {pc len : Nat} {nxt : List xEn} (hn : ∀ q ∈ nxt, q ∈ M.1) (hdg : decode cc pc = .ok (ins, len)) (hlen : xLen ins = 0 ∨ xLen ins = len) {ls : List (Nat × xV)} {st : List xV} {hp : xH} {nx cs ss : Nat} (h : yIn2 M cons cons2 fin rm nL chk F rec env pc ins len nxt ls st hp nx cs ss = true) : xGood p l e R s m args below meth c Q D cy (yη σ) A ad0 nx0 nL pc ls st hp nx cs ss := by
  have I0 := I env hE rfl
  have hno : xRetOk p l e R s m args below meth c Q cc D cy (yη σ) A ad0 nx0 (fun _ _ _ _ _ => false) := by
    intro ins o v hp nx cs ss ad' lsC H locs pc hrk hio hdg hchk
    exact Bool.noConfusion (show false = true from hchk)
  unfold yIn2 at h
  split at h
  · split at h
    · rename_i b hb
      subst h
      obtain rfl := xl_of hlen (by simp [xLen])
      exact yIv2_ok X hC2 I hE (Or.inl rfl) hn hdg hb
    · exact yIn_ok X I hno hE hF hn hdg hlen h
  · split at h
    · rename_i b hb
      subst h
      obtain rfl := xl_of hlen (by simp [xLen])
      exact yIv2_ok X hC2 I hE (Or.inr (Or.inl rfl)) hn hdg hb
    · exact yIn_ok X I hno hE hF hn hdg hlen h
  · split at h
    · rename_i b hb
      subst h
      obtain rfl := xl_of hlen (by simp [xLen])
      exact yIv2_ok X hC2 I hE (Or.inr (Or.inr rfl)) hn hdg hb
    · exact yIn_ok X I hno hE hF hn hdg hlen h
  · by_cases hr : xRk ins < 9
    · rw [decide_eq_true hr, cond_true] at h
      have hl1 : len = 1 := by
        have := xRkLen hr
        rcases hlen with z | z <;> omega
      subst hl1
      intro ad lsC lv stC H locs had hnx hl hla hs hR
      unfold yRt2 at h
      split at h
      · rw [Bool.and_eq_true, beq_iff_eq] at h
        match stC, hs with
        | [], _ => exact hret ins none none hp nx cs ss ad lsC H locs pc hr (Or.inl ⟨h.1, rfl⟩) hdg h.2 had hnx trivial hR
        | _ :: _, hs => exact hs.elim
      · rename_i a
        rw [Bool.and_eq_true, beq_iff_eq] at h
        match stC, hs with
        | [], hs => exact hs.elim
        | [v], hs => exact hret ins (some a) (some v) hp nx cs ss ad lsC H locs pc hr (Or.inr ⟨a, rfl, h.1⟩) hdg h.2 had hnx hs.1 hR
        | _ :: _ :: _, hs => exact hs.2.elim
      · cases h
    · rw [decide_eq_false hr, cond_false] at h
      exact yIn_ok X I hno hE hF hn hdg hlen h
def yStep2 (M : xMi) (cons : List xCd) (cons2 : List yCd) (fin : Bool) (rm : Nat × Nat × Nat × Nat) (nL : Nat) (chk : List xI → Option xV → xH → Nat → Nat → Nat → Bool) (N0 : Nat) (ann : List (Nat × List yAn)) (rec : yRc) : yRc := fun md cuts loops env pc cur ls st hp nx cs ss => match md with
  | none => yAt N0 ann rec cuts loops env pc cur ls st hp nx cs ss
  | some (a :: r) => yPre M N0 rec a r cuts loops env pc cur ls st hp nx cs ss
  | some [] => (match cur with
    | [] => false
    | q :: nxt => q.1 == pc && yIn2 M cons cons2 fin rm nL chk loops.2 (fun e => rec none cuts loops e) env pc q.2.1 q.2.2.1 nxt ls st hp nx cs ss)
noncomputable def yRun2 (M : xMi) (cons : List xCd) (cons2 : List yCd) (fin : Bool) (rm : Nat × Nat × Nat × Nat) (nL : Nat) (chk : List xI → Option xV → xH → Nat → Nat → Nat → Bool) (N0 : Nat) (ann : List (Nat × List yAn)) (n : Nat) : yRc := Nat.rec (fun _ _ _ _ _ _ _ _ _ _ _ _ => false) (fun _ ih => yStep2 M cons cons2 fin rm nL chk N0 ann ih) n
theorem yRun2_ok {chk : List xI → Option xV → xH → Nat → Nat → Nat → Bool} {ann : List (Nat × List yAn)} (hX : ∀ σ : Nat → Int, xCx p R s m args meth c cc D cy (yη σ) A own Ts ad0 nx0 nL M cons [] none fin rm) (hC2 : yConOk own cons2) (hret : yRetOk2 p l e R s m args below meth c Q cc D cy A ad0 nx0 σ0 n0 chk) : ∀ n : Nat, yIH p l e R s m args below meth c Q D cy A ad0 nx0 nL N0 σ0 n0 M (yRun2 M cons cons2 fin rm nL chk N0 ann n)
  | 0 => fun _ _ _ _ _ _ _ _ _ _ _ _ _ _ _ _ _ h => Bool.noConfusion (show false = true from h)
  | n + 1 => fun σ md cuts loops env pc cur ls st hp nx cs ss hE hH hZ hcur h => by
    have ih := yRun2_ok (ann := ann) hX hC2 hret n
    have h : yStep2 M cons cons2 fin rm nL chk N0 ann (yRun2 M cons cons2 fin rm nL chk N0 ann n) md cuts loops env pc cur ls st hp nx cs ss = true := h
    match md, h with
    | none, h => exact yAt_ok ih hE hH hZ hcur h
    | some (a :: r), h => exact yPre_ok ih hE hH hZ hcur h
    | some [], h =>
      match cur, hcur, h with
      | [], _, h => exact Bool.noConfusion (show false = true from h)
      | q :: nxt, hcur, h =>
        have h : (q.1 == pc && yIn2 M cons cons2 fin rm nL chk loops.2 (fun e => yRun2 M cons cons2 fin rm nL chk N0 ann n none cuts loops e) env pc q.2.1 q.2.2.1 nxt ls st hp nx cs ss) = true := h
        rw [Bool.and_eq_true, beq_iff_eq] at h
        obtain ⟨rfl, h⟩ := h
        obtain ⟨h1, h2, h3⟩ := (hX σ).2.1.1 q (hcur q List.mem_cons_self)
        exact yIn2_ok (hX σ) hC2 (fun env' hE' hlen pc' cur' ls' st' hp' nx' cs' ss' hc' h' => ih σ none cuts loops env' pc' cur' ls' st' hp' nx' cs' ss' hE' (by rw [hlen]; exact hH) (by rw [hlen]; exact hZ) hc' h') (hret σ env hE hZ) hE (fun f hf => (hH.2.2 f hf).2) (fun z hz => hcur z (List.mem_cons_of_mem _ hz)) h1 h2 h
end YC2

/-! one instruction of a walk with names -/
def yWe (env : List xI) : xE → xE
  | .inl o => .inl (o.1, o.2.map (yW env))
  | .inr a => .inr a
theorem yWl_ok {σ : Nat → Int} {env : List xI} (h : yOkE σ env) {ad : Nat → Nat} {N : Nat} : ∀ {as : List xV} {vs : List Value}, xAll (xOk (yη σ) ad N) as vs → xAll (xOk (yη σ) ad N) (as.map (yW env)) vs
  | [], [], _ => trivial
  | _ :: _, _ :: _, g => ⟨yW_ok h g.1, yWl_ok h g.2⟩
  | [], _ :: _, g => g.elim
  | _ :: _, [], g => g.elim
theorem yWe_ok {σ : Nat → Int} {env : List xI} (h : yOkE σ env) {ad : Nat → Nat} {N : Nat} {cy : Nat → ClassId} : ∀ {a : xE} {v : va_E}, xEok (yη σ) ad N cy a v → xEok (yη σ) ad N cy (yWe env a) v
  | .inl _, .inr _, g => ⟨g.1, yWl_ok h g.2⟩
  | .inr _, .inl _, g => g
  | .inl _, .inl _, g => g.elim
  | .inr _, .inr _, g => g.elim
def yWh (env : List xI) (hp : xH) : xH := hp.map (fun q => (q.1, yWe env q.2))
theorem yWh_ok {σ : Nat → Int} {env : List xI} (h : yOkE σ env) {ad : Nat → Nat} {N : Nat} {cy : Nat → ClassId} : ∀ {hp : xH} {ws : va_W}, xWok (yη σ) ad N cy hp ws → xWok (yη σ) ad N cy (yWh env hp) ws
  | [], [], _ => trivial
  | _ :: _, _ :: _, g => ⟨⟨g.1.1, g.1.2.1, yWe_ok h g.1.2.2⟩, yWh_ok h g.2⟩
  | [], _ :: _, g => g.elim
  | _ :: _, [], g => g.elim
/-- named int and a whole number -/
def yAd (env : List xI) (k : Nat) (n : Int) : xV := match yIv env k with
  | some i => bif xInR (i.1 + n) && xInR (i.2 + n) && decide (-32768 ≤ yO k + n) && decide (yO k + n < 32768) then .inr (.inr (.inr (yC (yN k) (yO k + n)))) else .inl (xAdd i (n, n))
  | none => .inl xTop
theorem yAd_ok {σ : Nat → Int} {env : List xI} (h : yOkE σ env) {ad : Nat → Nat} {N k : Nat} {n : Int} {y : Int32} (hy : y.toInt = n) : xOk (yη σ) ad N (yAd env k n) (.int (yη σ k + y)) := by
  unfold yAd
  split
  · rename_i i hi
    obtain ⟨e1, e2, -⟩ := yIv_ok h hi
    by_cases hc : (xInR (i.1 + n) && xInR (i.2 + n) && decide (-32768 ≤ yO k + n) && decide (yO k + n < 32768)) = true
    · rw [hc, cond_true]
      simp only [Bool.and_eq_true, decide_eq_true_eq] at hc
      obtain ⟨⟨⟨h1, h2⟩, h3⟩, h4⟩ := hc
      have r1 := xInR_ok h1
      have r2 := xInR_ok h2
      show Value.int _ = .int (yη σ (yC (yN k) (yO k + n)))
      congr 1
      apply Int32.toInt_inj.mp
      obtain ⟨b1, b2⟩ := e2
      have e3 : (yη σ (yC (yN k) (yO k + n))).toInt = σ (yN k) + (yO k + n) := by
        unfold yη
        rw [yC_N h3 h4, yC_O h3 h4, Int32.toInt_ofInt, xbm (by omega) (by omega)]
      rw [e3, Int32.toInt_add, hy, xbm (by omega) (by omega), e1]
      omega
    · rw [show (xInR (i.1 + n) && xInR (i.2 + n) && decide (-32768 ≤ yO k + n) && decide (yO k + n < 32768)) = false by simpa using hc, cond_false]
      exact ⟨_, rfl, xAdd_ok e2 (by rw [hy]; exact ⟨Int.le_refl _, Int.le_refl _⟩)⟩
  · exact ⟨_, rfl, xTop_ok _⟩
def yKp (M : xMi) : Instr → Bool
  | .putfield i => (match xAs i M.2.1 with
    | some f => f.2.2.1 == 0
    | none => false)
  | .iload_n _ => true
  | .iload _ => true
  | .lload_n _ => true
  | .lload _ => true
  | .aload_n _ => true
  | .aload _ => true
  | .istore_n _ => true
  | .istore _ => true
  | .lstore_n _ => true
  | .lstore _ => true
  | .astore_n _ => true
  | .astore _ => true
  | .iinc _ _ => true
  | .iconst _ => true
  | .bipush _ => true
  | .sipush _ => true
  | .lconst _ => true
  | .aconst_null => true
  | .ldc _ => true
  | .ldc_w _ => true
  | .ldc2_w _ => true
  | .dup => true
  | .getfield _ => true
  | .goto _ => true
  | _ => false
/-- how many of the stack an instruction takes -/
def yWn : Instr → Nat
  | .invokevirtual _ => 1000
  | .invokestatic _ => 1000
  | .invokespecial _ => 1000
  | .putfield _ => 1
  | .ineg => 1
  | .i2l => 1
  | .l2i => 1
  | .i2b => 1
  | .i2s => 1
  | .pop => 1
  | .arraylength => 1
  | .tableswitch _ _ _ _ => 1
  | .newarray _ => 1
  | .anewarray _ => 1
  | .iastore => 3
  | .bastore => 3
  | .lastore => 3
  | .aastore => 3
  | _ => 2
def yWs : Nat → List xI → List xV → List xV
  | n + 1, env, a :: st => yW env a :: yWs n env st
  | 0, _, st => st
  | _ + 1, _, [] => []
theorem yWs_ok {σ : Nat → Int} {env : List xI} (h : yOkE σ env) {ad : Nat → Nat} {N : Nat} : ∀ {n : Nat} {as : List xV} {vs : List Value}, xAll (xOk (yη σ) ad N) as vs → xAll (xOk (yη σ) ad N) (yWs n env as) vs
  | n + 1, _ :: _, _ :: _, g => ⟨yW_ok h g.1, yWs_ok h g.2⟩
  | 0, _, _, g => g
  | _ + 1, [], [], _ => trivial
  | _ + 1, [], _ :: _, g => g.elim
  | _ + 1, _ :: _, [], g => g.elim
def yKh : Instr → Bool
  | .invokevirtual _ => false
  | .invokestatic _ => false
  | .invokespecial _ => false
  | .ireturn => false
  | .lreturn => false
  | .areturn => false
  | .return_ => false
  | _ => true
def yDo (M : xMi) (cons : List xCd) (fin : Bool) (rm : Nat × Nat × Nat × Nat) (nL : Nat) (chk : Option xV → xH → Nat → Nat → Nat → Bool) (rec : xRec) (env : List xI) (pc : Nat) (ins : Instr) (len : Nat) (nxt : List xEn) (ls : List (Nat × xV)) (st : List xV) (hp : xH) (nx cs ss : Nat) : Bool :=
  xDo M cons [] none fin rm nL chk rec pc ins len nxt ls (bif yKp M ins then st else yWs (yWn ins) env st) (bif yKh ins then hp else yWh env hp) nx cs ss
/-- a store at some place of a row: what comes in is below what all hold -/
def yWk (rec : xRec) (env : List xI) (ins : Instr) (pc : Nat) (nxt : List xEn) (ls : List (Nat × xV)) (st : List xV) (hp : xH) (nx cs ss : Nat) : Option Bool := match st with
  | a :: i :: .inr (.inr (.inl (some k))) :: st' => (match yW env i, xTake k hp with
    | .inl iv, some (.inr (t, n, d, ov), hp') => bif !(xK iv) && ov.isEmpty && xAst ins t && decide (0 ≤ iv.1) && decide (iv.2 < n) && xAfit t (yW env a) && xLeV (yW env a) d then some (rec (pc + 1) nxt ls st' ((k, .inr (t, n, d, [])) :: hp') nx cs ss) else none
    | _, _ => none)
  | _ => none
/-- a switch none of whose keys can be met -/
def yLk (ps : List (Int × Int)) (i : xI) : Bool := ps.all (fun z => decide (z.1 < i.1) || decide (i.2 < z.1))
theorem yLk_ok {i : xI} {x d : Int} (hx : xIn i x) : ∀ {ps : List (Int × Int)}, yLk ps i = true → Op.lookupswitch.offset ps d x = d
  | [], _ => rfl
  | z :: r, h => by
    unfold yLk at h
    rw [List.all_cons, Bool.and_eq_true, Bool.or_eq_true, decide_eq_true_eq, decide_eq_true_eq] at h
    obtain ⟨x1, x2⟩ := hx
    have ih : Op.lookupswitch.offset r d x = d := yLk_ok ⟨x1, x2⟩ (ps := r) h.2
    show (if z.1 = x then z.2 else Op.lookupswitch.offset r d x) = d
    rw [if_neg (by omega), ih]
def yLsw (M : xMi) (rec : xRec) (env : List xI) (d : Int) (ps : Array (Int × Int)) (pc : Nat) (ls : List (Nat × xV)) (st : List xV) (hp : xH) (nx cs ss : Nat) : Bool := match st with
  | a :: st' => (match yW env a with
    | .inl i => (ps.toList.zip (ps.toList.drop 1)).all (fun (a, next) => a.1 < next.1) && (bif xK i then (match xTgt pc (Op.lookupswitch.offset ps.toList d i.1) with
        | some t => rec t (xSeek t M.1) ls st' hp nx cs ss
        | none => false)
      else yLk ps.toList i && (match xTgt pc d with
        | some t => rec t (xSeek t M.1) ls st' hp nx cs ss
        | none => false))
    | _ => false)
  | [] => false
/-- a copy of some ints from the one row's start to the other's: what comes in is below what all hold -/
def yCq (env : List xI) (rm : Nat × Nat × Nat × Nat) (st : List xV) (hp : xH) : Option (Nat × xE × List xV × xH) := match st with
  | n :: .inl dp :: .inr (.inr (.inl (some kd))) :: .inl sp :: .inr (.inr (.inl (some ks))) :: st' => (match yW env n, xTake kd hp with
    | .inl i, some (.inr (t, n1, d1, ov1), hp') => (match xGet ks hp' with
      | some (.inr (t', n0, d0, ov0)) => bif !(xK i) && xZ dp && xZ sp && decide (1 ≤ rm.1) && decide (xSum st' + 18 ≤ rm.2.1) && (t == 1 && t' == 1) && decide (0 ≤ i.1) && (decide (i.2 ≤ n0) && decide (i.2 ≤ n1)) && (ov1.isEmpty && ov0.isEmpty) && xLeV d0 d1 then some (kd, .inr (t, n1, d1, []), st', hp') else none
      | _ => none)
    | _, _ => none)
  | _ => none
/-- a long that is held against 0: where it isn't 0, that is known of its local -/
def yZt (M : xMi) (rec : xRec) (ins : Instr) (pc len : Nat) (nxt : List xEn) (ls : List (Nat × xV)) (st : List xV) (hp : xH) (nx cs ss : Nat) : Option Bool := match xLd ins, nxt with
  | some (1, j), q1 :: q2 :: q3 :: nxt' => (match q3.2.1, xLg j ls with
    | .ifCond k off, some (.inr (.inl v)) => bif decide (q1.2.1 = .lconst 0) && decide (q2.2.1 = .lcmp) && (q1.1 == pc + len && (q2.1 == pc + len + 1 && q3.1 == pc + len + 1 + 1)) && !(xK v) then (match k, xTgt (pc + len + 1 + 1) off with
      | .eq, some t => some (rec t (xSeek t M.1) (xS2 j (.inr (.inl (Int.ofNat 0, Int.ofNat 0))) ls) st hp nx cs ss && rec (pc + len + 1 + 1 + 3) nxt' (xS2 j (.inr (.inl (Int.ofNat 5000, Int.ofNat 0))) ls) st hp nx cs ss)
      | .ne, some t => some (rec t (xSeek t M.1) (xS2 j (.inr (.inl (Int.ofNat 5000, Int.ofNat 0))) ls) st hp nx cs ss && rec (pc + len + 1 + 1 + 3) nxt' (xS2 j (.inr (.inl (Int.ofNat 0, Int.ofNat 0))) ls) st hp nx cs ss)
      | _, _ => none) else none
    | _, _ => none)
  | _, _ => none
theorem yCmp0 (x : Int64) : lg_cmp x 0 = 0 ↔ x = 0 := by
  have key : (lg_cmp x 0).toInt = if (0 : Int64).toInt < x.toInt then 1 else if x.toInt = (0 : Int64).toInt then 0 else -1 := by
    unfold lg_cmp
    simp only [gt_iff_lt, Int64.lt_iff_toInt_lt, ← Int64.toInt_inj]
    split
    · rfl
    · split <;> rfl
  have e0 : (0 : Int64).toInt = 0 := rfl
  have e1 : (0 : Int32).toInt = 0 := rfl
  constructor
  · intro h
    rw [h, e1, e0] at key
    apply Int64.toInt_inj.mp
    rw [e0]
    by_cases h1 : 0 < x.toInt
    · rw [if_pos h1] at key; omega
    · rw [if_neg h1] at key
      by_cases h2 : x.toInt = 0
      · exact h2
      · rw [if_neg h2] at key; omega
  · rintro rfl
    rfl
/-- where two names differ and the one is at most the other -/
def yLo (env : List xI) (F : List yFa) (a b : xV) : Bool := match yTm env 1 a, yTm env (-1) b with
  | some s, some t => yEnt env F (s.1 ++ t.1, s.2 + t.2)
  | _, _ => false
def yFt (env : List xI) (F : List yFa) (k : xCo) (a b : xV) : List xI := match k, yW env a, yW env b with
  | .ne, .inl i, .inl j => bif yLo env F a b then yTight (yTight env a (i.1, j.2 - 1)) b (i.1 + 1, j.2) else bif yLo env F b a then yTight (yTight env b (j.1, i.2 - 1)) a (j.1 + 1, i.2) else env
  | _, _, _ => env
theorem yLo_ok {σ : Nat → Int} {env : List xI} (h : yOkE σ env) {F : List yFa} (hF : ∀ f ∈ F, yFs σ f ≤ 0) {ad : Nat → Nat} {N : Nat} {a b : xV} {x y : Int32} (ga : xOk (yη σ) ad N a (.int x)) (gb : xOk (yη σ) ad N b (.int y)) (g : yLo env F a b = true) : x.toInt ≤ y.toInt := by
  unfold yLo at g
  split at g
  · rename_i s t hs ht
    have e1 := yTm_ok h ga hs
    have e2 := yTm_ok h gb ht
    have e3 := yEnt_ok h hF g
    unfold yFs at e1 e2 e3
    dsimp only at e3
    rw [yFl_app] at e3
    omega
  · cases g
theorem yFt_len {env : List xI} {F : List yFa} {k : xCo} {a b : xV} : (yFt env F k a b).length = env.length := by
  unfold yFt
  split
  · rename_i i j _ _
    by_cases h1 : yLo env F a b = true
    · rw [h1, cond_true, yTight_len, yTight_len]
    · rw [show yLo env F a b = false by simpa using h1, cond_false]
      by_cases h2 : yLo env F b a = true
      · rw [h2, cond_true, yTight_len, yTight_len]
      · rw [show yLo env F b a = false by simpa using h2, cond_false]
  · rfl
theorem yFt_ok {σ : Nat → Int} {env : List xI} (h : yOkE σ env) {F : List yFa} (hF : ∀ f ∈ F, yFs σ f ≤ 0) {ad : Nat → Nat} {N : Nat} {a b : xV} {x y : Int32} (ga : xOk (yη σ) ad N a (.int x)) (gb : xOk (yη σ) ad N b (.int y)) {k : xCo} (hp : xPr k x y) : yOkE σ (yFt env F k a b) := by
  have wa := yW_ok h ga
  have wb := yW_ok h gb
  unfold yFt
  split
  · rename_i i j hi hj
    rw [hi] at wa
    rw [hj] at wb
    obtain ⟨x', e1, g1⟩ := wa
    cases e1
    obtain ⟨y', e2, g2⟩ := wb
    cases e2
    have hne : x.toInt ≠ y.toInt := fun e => (show ¬ x = y from hp) (Int32.toInt_inj.mp e)
    obtain ⟨i1, i2⟩ := g1
    obtain ⟨j1, j2⟩ := g2
    by_cases h1 : yLo env F a b = true
    · rw [h1, cond_true]
      have := yLo_ok h hF ga gb h1
      exact yTight_ok (i := (i.1 + 1, j.2)) (yTight_ok (i := (i.1, j.2 - 1)) h ga ⟨i1, by show x.toInt ≤ j.2 - 1; omega⟩) gb ⟨by show i.1 + 1 ≤ y.toInt; omega, j2⟩
    · rw [show yLo env F a b = false by simpa using h1, cond_false]
      by_cases h2 : yLo env F b a = true
      · rw [h2, cond_true]
        have := yLo_ok h hF gb ga h2
        exact yTight_ok (i := (j.1 + 1, i.2)) (yTight_ok (i := (j.1, i.2 - 1)) h gb ⟨j1, by show y.toInt ≤ i.2 - 1; omega⟩) ga ⟨by show j.1 + 1 ≤ x.toInt; omega, i2⟩
      · rw [show yLo env F b a = false by simpa using h2, cond_false]
        exact h
  · exact h
def yIn (M : xMi) (cons : List xCd) (fin : Bool) (rm : Nat × Nat × Nat × Nat) (nL : Nat) (chk : Option xV → xH → Nat → Nat → Nat → Bool) (F : List yFa) (rec : List xI → xRec) (env : List xI) (pc : Nat) (ins : Instr) (len : Nat) (nxt : List xEn) (ls : List (Nat × xV)) (st : List xV) (hp : xH) (nx cs ss : Nat) : Bool := match ins with
  | .if_icmp k off => (match st, xTgt pc off with
    | b :: a :: st, some t => xIsI a && xIsI b && yTwo env k a b (fun e => rec (yFt e F k a b) t (xSeek t M.1) ls st hp nx cs ss) && yTwo env (yNg k) a b (fun e => rec (yFt e F (yNg k) a b) (pc + 3) nxt ls st hp nx cs ss)
    | _, _ => false)
  | .ifCond k off => (match st, xTgt pc off with
    | a :: st, some t => xIsI a && yTwo env k a (.inl (Int.ofNat 0, Int.ofNat 0)) (fun e => rec e t (xSeek t M.1) ls st hp nx cs ss) && yTwo env (yNg k) a (.inl (Int.ofNat 0, Int.ofNat 0)) (fun e => rec e (pc + 3) nxt ls st hp nx cs ss)
    | _, _ => false)
  | .iinc i n => (match xLg i ls with
    | some (.inr (.inr (.inr k))) => xInR n && decide (i < nL) && rec env (pc + 3) nxt (xS1 i (yAd env k n) ls) st hp nx cs ss
    | _ => yDo M cons fin rm nL chk (rec env) env pc (.iinc i n) len nxt ls st hp nx cs ss)
  | .iadd => (match st with
    | .inl j :: .inr (.inr (.inr k)) :: st' => bif xK j then rec env (pc + 1) nxt ls (yAd env k j.1 :: st') hp nx cs ss else yDo M cons fin rm nL chk (rec env) env pc .iadd len nxt ls st hp nx cs ss
    | .inr (.inr (.inr k)) :: .inl j :: st' => bif xK j then rec env (pc + 1) nxt ls (yAd env k j.1 :: st') hp nx cs ss else yDo M cons fin rm nL chk (rec env) env pc .iadd len nxt ls st hp nx cs ss
    | st => yDo M cons fin rm nL chk (rec env) env pc .iadd len nxt ls st hp nx cs ss)
  | .isub => (match st with
    | .inl j :: .inr (.inr (.inr k)) :: st' => bif xK j && xInR (-j.1) then rec env (pc + 1) nxt ls (yAd env k (-j.1) :: st') hp nx cs ss else yDo M cons fin rm nL chk (rec env) env pc .isub len nxt ls st hp nx cs ss
    | st => yDo M cons fin rm nL chk (rec env) env pc .isub len nxt ls st hp nx cs ss)
  | .lookupswitch d ps => yLsw M (rec env) env d ps pc ls st hp nx cs ss
  | .invokevirtual i => (match xAs i M.2.2.2.2.2 with
    | some k => xStC rm (rec env) k pc nxt ls st hp nx cs ss
    | none => yDo M cons fin rm nL chk (rec env) env pc (.invokevirtual i) len nxt ls st hp nx cs ss)
  | .invokestatic i => (match xAs i M.2.2.2.2.2, yCq env rm st hp with
    | some 3, some z => rec env (pc + 3) nxt ls z.2.2.1 ((z.1, z.2.1) :: z.2.2.2) nx cs ss
    | _, _ => yDo M cons fin rm nL chk (rec env) env pc (.invokestatic i) len nxt ls st hp nx cs ss)
  | ins => (match yZt M (rec env) ins pc len nxt ls st hp nx cs ss with
    | some b => b
    | none => (match yWk (rec env) env ins pc nxt ls st hp nx cs ss with
    | some b => b
    | none => (match yPu ins (yWs 2 env st) with
      | some st' => rec env (pc + len) nxt ls st' hp nx cs ss
      | none => yDo M cons fin rm nL chk (rec env) env pc ins len nxt ls st hp nx cs ss)))
section YEX
variable {p : Program} {l : Launch} {e : Env} {R : Room} {s : State} {m : MethodId} {args : Array Value} {below : List Frame} {meth : Method} {c : Code} {Q : State → Prop}
variable {cc : ByteArray} {D : va_G} {cy : Nat → ClassId} {A : Nat → Prop} {own : String} {Ts : List Cond} {ad0 : Nat → Nat} {nx0 nL : Nat}
variable {M : xMi} {cons : List xCd} {fin : Bool} {rm : Nat × Nat × Nat × Nat} {chk : Option xV → xH → Nat → Nat → Nat → Bool} {σ : Nat → Int} {env : List xI}
theorem yWd_good (hE : yOkE σ env) {b1 b2 : Bool} {pc n : Nat} {ls : List (Nat × xV)} {st : List xV} {hp : xH} {nx cs ss : Nat} (hG : xGood p l e R s m args below meth c Q D cy (yη σ) A ad0 nx0 nL pc ls (bif b1 then st else yWs n env st) (bif b2 then hp else yWh env hp) nx cs ss) : xGood p l e R s m args below meth c Q D cy (yη σ) A ad0 nx0 nL pc ls st hp nx cs ss := by
  intro ad lsC lv stC H locs had hnx hl hla hs hR
  refine hG ad lsC lv stC H locs had hnx hl hla ?_ ?_
  · cases b1 with
    | true => exact hs
    | false => exact yWs_ok hE hs
  · cases b2 with
    | true => exact hR
    | false =>
      obtain ⟨ws, hw, h1, h2, h3⟩ := hR
      exact ⟨ws, yWh_ok hE hw, h1, h2, h3⟩
theorem yDo_ok {rec : xRec} (X : xCx p R s m args meth c cc D cy (yη σ) A own Ts ad0 nx0 nL M cons [] none fin rm) (I : xIH p l e R s m args below meth c Q D cy (yη σ) A ad0 nx0 nL M rec) (hret : xRetOk p l e R s m args below meth c Q cc D cy (yη σ) A ad0 nx0 chk) (hE : yOkE σ env) {ins : Instr} {pc len : Nat} {nxt : List xEn} (hn : ∀ q ∈ nxt, q ∈ M.1) (hdg : decode cc pc = .ok (ins, len)) (hlen : xLen ins = 0 ∨ xLen ins = len) {ls : List (Nat × xV)} {st : List xV} {hp : xH} {nx cs ss : Nat} (h : yDo M cons fin rm nL chk rec env pc ins len nxt ls st hp nx cs ss = true) : xGood p l e R s m args below meth c Q D cy (yη σ) A ad0 nx0 nL pc ls st hp nx cs ss :=
  yWd_good hE (xDo_ok X I hret hn hdg hlen h)
theorem yPutd {η : Nat → Int32} {ad : Nat → Nat} {N : Nat} {t n i : Nat} {d a : xV} {v : va_E} (hl : xLeV a d = true) (g : xEok η ad N cy (.inr (t, n, d, xPut d i a [])) v) : xEok η ad N cy (.inr (t, n, d, [])) v := by
  have key : ∀ (j : Nat) (w : Value), xOk η ad N (xAt d (xPut d i a []) j) w → xOk η ad N (xAt d [] j) w := by
    intro j w hw
    show xOk η ad N d w
    unfold xPut at hw
    by_cases ha : a = d
    · rw [decide_eq_true ha, cond_true] at hw
      exact hw
    · rw [decide_eq_false ha, cond_false] at hw
      unfold xAt at hw
      by_cases hj : (i == j) = true
      · dsimp only at hw
        rw [hj, cond_true] at hw
        exact xLeV_ok hl hw
      · dsimp only at hw
        rw [show (i == j) = false by simpa using hj, cond_false] at hw
        exact hw
  rcases v with ⟨cA, n', f⟩ | o
  · obtain ⟨h1, h2, h3, h4, h5, h6⟩ := g
    refine ⟨h1, h2, h3, fun e => ?_, fun e => ?_, fun e => ?_⟩
    · obtain ⟨f, e1, e2⟩ := h4 e
      exact ⟨f, e1, fun i hi => key _ _ (e2 i hi)⟩
    · obtain ⟨f, e1, e2⟩ := h5 e
      exact ⟨f, e1, fun i hi => key _ _ (e2 i hi)⟩
    · obtain ⟨f, e1, e2⟩ := h6 e
      exact ⟨f, e1, fun i hi => key _ _ (e2 i hi)⟩
  · exact g.elim
theorem yWk_ok {rec : xRec} (X : xCx p R s m args meth c cc D cy (yη σ) A own Ts ad0 nx0 nL M cons [] none fin rm) (I : xIH p l e R s m args below meth c Q D cy (yη σ) A ad0 nx0 nL M rec) (hE : yOkE σ env) {ins : Instr} {pc : Nat} {nxt : List xEn} {len : Nat} (hn : ∀ q ∈ nxt, q ∈ M.1) (hdg : decode cc pc = .ok (ins, len)) (hlen : xLen ins = 0 ∨ xLen ins = len) {ls : List (Nat × xV)} {st : List xV} {hp : xH} {nx cs ss : Nat} (h : yWk rec env ins pc nxt ls st hp nx cs ss = some true) : xGood p l e R s m args below meth c Q D cy (yη σ) A ad0 nx0 nL pc ls st hp nx cs ss := by
  obtain ⟨⟨hx, hb, hml, hts, hbig, hown, hK, hA, hSS⟩, -⟩ := X
  unfold yWk at h
  split at h
  · rename_i a i k st'
    split at h
    · rename_i iv t n d ov hp' hiv htk
      by_cases hc : (!(xK iv) && ov.isEmpty && xAst ins t && decide (0 ≤ iv.1) && decide (iv.2 < n) && xAfit t (yW env a) && xLeV (yW env a) d) = true
      · rw [hc, cond_true] at h
        simp only [Bool.and_eq_true, decide_eq_true_eq] at hc
        obtain ⟨⟨⟨⟨⟨⟨-, h2⟩, h3⟩, h4⟩, h5⟩, h6⟩, h7⟩ := hc
        have hov : ov = [] := by
          cases ov with
          | nil => rfl
          | cons a b => simp at h2
        subst hov
        have h := Option.some.inj h
        have hl1 : len = 1 := by
          unfold xAst at h3
          split at h3 <;> first | exact xl_of hlen (by simp [xLen]) | cases h3
        subst hl1
        intro ad lsC lv stC H locs had hnx hl hla hs hR
        obtain ⟨v, w, tC, rfl, ga, gi, gt⟩ := xSt2 hs
        obtain ⟨r, tD, rfl, gr, gu⟩ := xSt1 gt
        obtain ⟨-, rfl⟩ := gr
        have gi := yW_ok hE gi
        rw [hiv] at gi
        obtain ⟨x, rfl, x1, x2⟩ := gi
        refine xAst_W (i := x.toInt) hx hb hK hR htk h3 (by omega) (by omega) rfl (yW_ok hE ga) h6 hdg (fun H1 locs1 hR1 => ?_)
        refine I _ _ _ _ _ _ _ _ hn h ad lsC lv _ H1 locs1 had hnx hl hla gu ?_
        obtain ⟨ws, hw, hP, hD, hS⟩ := hR1
        match ws, hw with
        | [], hw => exact hw.elim
        | w :: ws, hw => exact ⟨w :: ws, ⟨⟨hw.1.1, hw.1.2.1, yPutd h7 hw.1.2.2⟩, hw.2⟩, hP, hD, hS⟩
      · rw [show (!(xK iv) && ov.isEmpty && xAst ins t && decide (0 ≤ iv.1) && decide (iv.2 < n) && xAfit t (yW env a) && xLeV (yW env a) d) = false by simpa using hc, cond_false] at h
        cases h
    · cases h
  · cases h
theorem yHasS2 {lsC : Array Slot} {lv : List (Nat × Value)} {i : Nat} {v : Value} (h : lv_has lsC nL lv) (hi : (i, v) ∈ lv) : lv_has lsC nL ((i, v) :: lv.filter (fun q => !(q.1 == i) && (!(q.1 == i + 1) && !(q.1 + 1 == i && q.2.category == 2)))) := yHasSub h fun q hq => by
  rcases List.mem_cons.mp hq with rfl | hq
  · exact hi
  · exact (List.mem_filter.mp hq).1
theorem yZt_ok {rec : xRec} (X : xCx p R s m args meth c cc D cy (yη σ) A own Ts ad0 nx0 nL M cons [] none fin rm) (I : xIH p l e R s m args below meth c Q D cy (yη σ) A ad0 nx0 nL M rec) {ins : Instr} {pc len : Nat} {nxt : List xEn} (hn : ∀ q ∈ nxt, q ∈ M.1) (hdg : decode cc pc = .ok (ins, len)) (hlen : xLen ins = 0 ∨ xLen ins = len) {ls : List (Nat × xV)} {st : List xV} {hp : xH} {nx cs ss : Nat} (h : yZt M rec ins pc len nxt ls st hp nx cs ss = some true) : xGood p l e R s m args below meth c Q D cy (yη σ) A ad0 nx0 nL pc ls st hp nx cs ss := by
  obtain ⟨⟨hx, hb, hml, hts, hbig, hown, hK, hA, hSS⟩, hM, -⟩ := X
  unfold yZt at h
  split at h
  · rename_i j q1 q2 q3 nxt' hld
    split at h
    · rename_i k off v hq3 hv
      by_cases hc : (decide (q1.2.1 = .lconst 0) && decide (q2.2.1 = .lcmp) && (q1.1 == pc + len && (q2.1 == pc + len + 1 && q3.1 == pc + len + 1 + 1)) && !(xK v)) = true
      · rw [hc, cond_true] at h
        simp only [Bool.and_eq_true, decide_eq_true_eq, beq_iff_eq] at hc
        obtain ⟨⟨⟨c1, c2⟩, c3, c4, c5⟩, -⟩ := hc
        obtain ⟨d1, l1, -⟩ := hM.1 q1 (hn q1 List.mem_cons_self)
        obtain ⟨d2, l2, -⟩ := hM.1 q2 (hn q2 (List.mem_cons_of_mem _ List.mem_cons_self))
        obtain ⟨d3, l3, -⟩ := hM.1 q3 (hn q3 (List.mem_cons_of_mem _ (List.mem_cons_of_mem _ List.mem_cons_self)))
        have hn' : ∀ q ∈ nxt', q ∈ M.1 := fun q hq => hn q (List.mem_cons_of_mem _ (List.mem_cons_of_mem _ (List.mem_cons_of_mem _ hq)))
        rw [c1] at l1
        rw [c2] at l2
        rw [hq3] at l3
        rw [c1, c3, xl_of l1 (by simp [xLen])] at d1
        rw [c2, c4, xl_of l2 (by simp [xLen])] at d2
        rw [hq3, c5, xl_of l3 (by simp [xLen])] at d3
        have d1 : decode cc (pc + len) = .ok (.lconst 0, 1) := d1
        have d2 : decode cc (pc + len + 1) = .ok (.lcmp, 1) := d2
        have d3 : decode cc (pc + len + 1 + 1) = .ok (.ifCond k off, 3) := d3
        intro ad lsC lv stC H locs had hnx hl hla hs hR
        obtain ⟨k1, v1, g1, g2⟩ := xLg_ok hla hv
        obtain ⟨x, rfl, gx⟩ := g2
        have zero : x = 0 → ∀ {t : Nat} {cur : List xEn}, (∀ q ∈ cur, q ∈ M.1) → rec t cur (xS2 j (.inr (.inl (Int.ofNat 0, Int.ofNat 0))) ls) st hp nx cs ss = true → W p l e R s m args below meth c H locs cs ss Q (F0 m t lsC stC) := fun e t cur hcur hrec => by
          subst e
          exact I _ _ _ _ _ _ _ _ hcur hrec ad lsC _ _ H locs had hnx (yHasS2 hl (List.mem_of_getElem? g1)) (xS2_ok hla ⟨0, rfl, xInL_of ⟨Int.le_refl _, Int.le_refl _⟩⟩) hs hR
        have some' : ¬ x = 0 → ∀ {t : Nat} {cur : List xEn}, (∀ q ∈ cur, q ∈ M.1) → rec t cur (xS2 j (.inr (.inl (Int.ofNat 5000, Int.ofNat 0))) ls) st hp nx cs ss = true → W p l e R s m args below meth c H locs cs ss Q (F0 m t lsC stC) := fun e t cur hcur hrec => by
          refine I _ _ _ _ _ _ _ _ hcur hrec ad lsC _ _ H locs had hnx (yHasS2 hl (List.mem_of_getElem? g1)) (xS2_ok hla ⟨x, rfl, ?_⟩) hs hR
          unfold xInL
          rw [if_neg (by decide), if_pos (by decide)]
          exact e
        refine xLd_W hx hb hld hdg hlen (lv_at hl k1 g1) (Or.inr (Or.inl ⟨rfl, x, rfl⟩)) ?_
        refine lv_lconst (v := 0) hx hb d1 rfl ?_
        refine W.lcmp hx hb d2 ?_
        cases htg : xTgt (pc + len + 1 + 1) off with
        | none =>
          rw [htg] at h
          cases k <;> cases h
        | some t =>
          rw [htg] at h
          cases k with
          | eq =>
            have h := Option.some.inj h
            rw [Bool.and_eq_true] at h
            exact xIf_W hx hb d3 (xTgt_ok htg) (fun hy => zero ((yCmp0 x).mp hy) xSeek_in h.1) (fun hy => some' (fun e => hy ((yCmp0 x).mpr e)) hn' h.2)
          | ne =>
            have h := Option.some.inj h
            rw [Bool.and_eq_true] at h
            exact xIf_W hx hb d3 (xTgt_ok htg) (fun hy => some' (fun e => hy ((yCmp0 x).mpr e)) xSeek_in h.1) (fun hy => zero ((yCmp0 x).mp (Classical.byContradiction fun z => hy z)) hn' h.2)
          | lt => cases h
          | ge => cases h
          | gt => cases h
          | le => cases h
      · rw [show (decide (q1.2.1 = .lconst 0) && decide (q2.2.1 = .lcmp) && (q1.1 == pc + len && (q2.1 == pc + len + 1 && q3.1 == pc + len + 1 + 1)) && !(xK v)) = false by simpa using hc, cond_false] at h
        cases h
    · cases h
  · cases h
theorem yLsw_ok {rec : xRec} (X : xCx p R s m args meth c cc D cy (yη σ) A own Ts ad0 nx0 nL M cons [] none fin rm) (I : xIH p l e R s m args below meth c Q D cy (yη σ) A ad0 nx0 nL M rec) (hE : yOkE σ env) {d : Int} {ps : Array (Int × Int)} {pc len : Nat} (hdg : decode cc pc = .ok (.lookupswitch d ps, len)) {ls : List (Nat × xV)} {st : List xV} {hp : xH} {nx cs ss : Nat} (h : yLsw M rec env d ps pc ls st hp nx cs ss = true) : xGood p l e R s m args below meth c Q D cy (yη σ) A ad0 nx0 nL pc ls st hp nx cs ss := by
  obtain ⟨⟨hx, hb, hml, hts, hbig, hown, hK, hA, hSS⟩, -⟩ := X
  unfold yLsw at h
  split at h
  · rename_i a st'
    split at h
    · rename_i i hi
      rw [Bool.and_eq_true] at h
      obtain ⟨h1, h2⟩ := h
      intro ad lsC lv stC H locs had hnx hl hla hs hR
      obtain ⟨v, tC, rfl, ga, gt⟩ := xSt1 hs
      have ga := yW_ok hE ga
      rw [hi] at ga
      obtain ⟨x, rfl, gx⟩ := ga
      by_cases hk : xK i = true
      · rw [hk, cond_true] at h2
        split at h2
        · rename_i t htg
          have e := xZI hk gx
          exact lv_lookup hx hb hdg h1 (by rw [e]) (xTgt_ok htg) (I _ _ _ _ _ _ _ _ xSeek_in h2 ad lsC lv _ H locs had hnx hl hla gt hR)
        · cases h2
      · rw [show xK i = false by simpa using hk, cond_false, Bool.and_eq_true] at h2
        obtain ⟨h3, h2⟩ := h2
        split at h2
        · rename_i t htg
          exact lv_lookup hx hb hdg h1 (yLk_ok gx h3) (xTgt_ok htg) (I _ _ _ _ _ _ _ _ xSeek_in h2 ad lsC lv _ H locs had hnx hl hla gt hR)
        · cases h2
    · cases h
  · cases h
theorem yCq_ok {rec : xRec} (X : xCx p R s m args meth c cc D cy (yη σ) A own Ts ad0 nx0 nL M cons [] none fin rm) (I : xIH p l e R s m args below meth c Q D cy (yη σ) A ad0 nx0 nL M rec) (hE : yOkE σ env) {i pc : Nat} {nxt : List xEn} (hk : (i, 3) ∈ M.2.2.2.2.2) (hn : ∀ q ∈ nxt, q ∈ M.1) (hdg : decode cc pc = .ok (.invokestatic i, 3)) {ls : List (Nat × xV)} {st : List xV} {hp : xH} {nx cs ss : Nat} {z : Nat × xE × List xV × xH} (hz : yCq env rm st hp = some z) (h : rec (pc + 3) nxt ls z.2.2.1 ((z.1, z.2.1) :: z.2.2.2) nx cs ss = true) : xGood p l e R s m args below meth c Q D cy (yη σ) A ad0 nx0 nL pc ls st hp nx cs ss := by
  obtain ⟨⟨hx, hb, hml, hts, hbig, hown, hK, hA, hSS⟩, hM, hC, ht, hsc, hfin, hR1, hR2, hR3, hR4⟩ := X
  intro ad lsC lv stC H locs had hnx hl hla hs hR
  have word : ∀ {w : Cond}, w ∈ xBig → w.before args s = true := fun h => hts _ (hbig _ h)
  have hsl := hM.2.2.2.2.2 _ hk
  have hml' : c.maxLocals = lsC.size := by rw [hml, hl.1]
  unfold yCq at hz
  split at hz
  · rename_i n dp kd sp ks st'
    split at hz
    · rename_i iv t n1 d1 ov1 hp' hiv htk
      split at hz
      · rename_i t' n0 d0 ov0 hg
        by_cases hc : (!(xK iv) && xZ dp && xZ sp && decide (1 ≤ rm.1) && decide (xSum st' + 18 ≤ rm.2.1) && (t == 1 && t' == 1) && decide (0 ≤ iv.1) && (decide (iv.2 ≤ n0) && decide (iv.2 ≤ n1)) && (ov1.isEmpty && ov0.isEmpty) && xLeV d0 d1) = true
        · rw [hc, cond_true] at hz
          cases hz
          simp only [Bool.and_eq_true, decide_eq_true_eq, beq_iff_eq, List.isEmpty_iff] at hc
          obtain ⟨⟨⟨⟨⟨⟨⟨⟨⟨-, q1⟩, q2⟩, q3⟩, q4⟩, ⟨rfl, rfl⟩⟩, q5⟩, ⟨q6, q7⟩⟩, ⟨rfl, rfl⟩⟩, q8⟩ := hc
          obtain ⟨vn, vdp, t1, rfl, gn, gdp, g⟩ := xSt2 hs
          obtain ⟨vd, vsp, t2, rfl, gd, gsp, g⟩ := xSt2 g
          obtain ⟨vs, t3, rfl, gs, gt⟩ := xSt1 g
          have gw := yW_ok hE gn
          rw [hiv] at gw
          obtain ⟨n', rfl, gv⟩ := gw
          obtain ⟨dp', rfl, gdp⟩ := gdp
          obtain ⟨sp', rfl, gsp⟩ := gsp
          obtain ⟨-, rfl⟩ := gd
          obtain ⟨-, rfl⟩ := gs
          obtain ⟨w1, w2, w3, w4⟩ := hsl.2.2.2.1 rfl
          have ed := xZ_ok q1 gdp
          have es := xZ_ok q2 gsp
          subst ed; subst es
          have h2' := xSumR (B := R.locals) (k := 18) (by omega) gt
          obtain ⟨ws, hw, hP, hD, hS⟩ := hR
          obtain ⟨y, ws', e1, e0, e2, e10⟩ := xTake_ok hw htk
          have hP := xP_perm hP e1
          have hD := xD_perm hD e1
          obtain ⟨j, z, f1, f2⟩ := xGet_ok e10 hg
          rcases y with ⟨cA, n1', y⟩ | y
          rotate_left
          · exact e2.elim
          rcases z with ⟨cB, n0', z⟩ | z
          rotate_left
          · exact f2.elim
          obtain ⟨rfl, rfl, e5, e6, e7, e8⟩ := e2
          obtain ⟨rfl, rfl, f5, f6, f7, f8⟩ := f2
          obtain ⟨gn1, gn2⟩ := gv
          have hn0 : ¬ n' < 0 := by
            rw [Int32.lt_iff_toInt_lt]
            have e0 : (0 : Int32).toInt = 0 := rfl
            omega
          have hz0 : (0 : Int32).toNatClampNeg = 0 := rfl
          have hcl : n'.toNatClampNeg = n'.toInt.toNat := rfl
          obtain ⟨g, rfl, e9⟩ := e7 (by omega)
          obtain ⟨f, rfl, f9⟩ := f7 (by omega)
          refine va_copyi (D := D) hx hb hml' hown (word w1) (word w2) (word w3) (word w4) hK.1 hP hD hS (j + 1) 0 1 1 (by rw [List.getElem?_cons_succ]; exact f1) rfl rfl rfl rfl (by decide) (by decide) hn0 (by rw [hz0]; omega) (by rw [hz0]; omega) (fun _ _ => rfl) (by omega) h2' hdg (fun H1 locs1 hP hD hS => ?_)
          refine I _ _ _ _ _ _ _ _ hn h ad lsC lv _ H1 locs1 had hnx hl hla gt (xRel_cons hP hD hS e0 ⟨rfl, rfl, e5, (fun h => by omega), (fun _ => ⟨_, rfl, fun i hi => ?_⟩), (fun h => by omega)⟩ e10)
          unfold va_cpy
          rw [hz0]
          by_cases hq : 0 ≤ i ∧ i < 0 + n'.toNatClampNeg
          · rw [if_pos hq, show 0 + (i - 0) = i by omega]
            exact xLeV_ok q8 (f9 i (by omega))
          · rw [if_neg hq]
            exact e9 i hi
        · rw [show (!(xK iv) && xZ dp && xZ sp && decide (1 ≤ rm.1) && decide (xSum st' + 18 ≤ rm.2.1) && (t == 1 && t' == 1) && decide (0 ≤ iv.1) && (decide (iv.2 ≤ n0) && decide (iv.2 ≤ n1)) && (ov1.isEmpty && ov0.isEmpty) && xLeV d0 d1) = false by simpa using hc, cond_false] at hz
          cases hz
      · cases hz
    · cases hz
  · cases hz
set_option maxHeartbeats 4000000 in
theorem yIn_ok {rec : List xI → xRec} (X : xCx p R s m args meth c cc D cy (yη σ) A own Ts ad0 nx0 nL M cons [] none fin rm) (I : ∀ env' : List xI, yOkE σ env' → env'.length = env.length → xIH p l e R s m args below meth c Q D cy (yη σ) A ad0 nx0 nL M (rec env')) (hret : xRetOk p l e R s m args below meth c Q cc D cy (yη σ) A ad0 nx0 chk) (hE : yOkE σ env) {F : List yFa} (hF : ∀ f ∈ F, yFs σ f ≤ 0) {ins : Instr} {pc len : Nat} {nxt : List xEn} (hn : ∀ q ∈ nxt, q ∈ M.1) (hdg : decode cc pc = .ok (ins, len)) (hlen : xLen ins = 0 ∨ xLen ins = len) {ls : List (Nat × xV)} {st : List xV} {hp : xH} {nx cs ss : Nat} (h : yIn M cons fin rm nL chk F rec env pc ins len nxt ls st hp nx cs ss = true) : xGood p l e R s m args below meth c Q D cy (yη σ) A ad0 nx0 nL pc ls st hp nx cs ss := by
  have I0 := I env hE rfl
  have hx := X.1.1
  have hb := X.1.2.1
  have two : ∀ {ad : Nat → Nat} {N : Nat} {a b : xV} {x y : Int32} {k : xCo} {f : List xI → Bool}, xOk (yη σ) ad N a (.int x) → xOk (yη σ) ad N b (.int y) → xPr k x y → yTwo env k a b f = true → ∃ e', yOkE σ e' ∧ e'.length = env.length ∧ f e' = true := by
    intro ad N a b x y k f ga gb hp hf
    obtain ⟨e', h1, h2⟩ := yBr_ok hE ga gb hp
    unfold yTwo at hf
    rw [h1] at hf
    exact ⟨e', h2, yBr_len h1, hf⟩
  unfold yIn at h
  split at h
  · split at h
    · rename_i k off b a st' t htg
      simp only [Bool.and_eq_true] at h
      obtain ⟨⟨⟨h1, h2⟩, h3⟩, h4⟩ := h
      obtain rfl := xl_of hlen (by simp [xLen])
      intro ad lsC lv stC H locs had hnx hl hla hs hR
      obtain ⟨w, v, tC, rfl, gb, ga, gt⟩ := xSt2 hs
      obtain ⟨x, rfl⟩ := xIsI_ok h1 ga
      obtain ⟨y, rfl⟩ := xIsI_ok h2 gb
      refine xIcmp_W hx hb hdg (xTgt_ok htg) (fun hy => ?_) (fun hy => ?_)
      · obtain ⟨e', e1, e2, e3⟩ := two ga gb hy h3
        exact I _ (yFt_ok e1 hF ga gb hy) (yFt_len.trans e2) _ _ _ _ _ _ _ _ xSeek_in e3 ad lsC lv _ H locs had hnx hl hla gt hR
      · obtain ⟨e', e1, e2, e3⟩ := two ga gb (yNg_ok hy) h4
        exact I _ (yFt_ok e1 hF ga gb (yNg_ok hy)) (yFt_len.trans e2) _ _ _ _ _ _ _ _ hn e3 ad lsC lv _ H locs had hnx hl hla gt hR
    · cases h
  · split at h
    · rename_i k off a st' t htg
      simp only [Bool.and_eq_true] at h
      obtain ⟨⟨h1, h3⟩, h4⟩ := h
      obtain rfl := xl_of hlen (by simp [xLen])
      intro ad lsC lv stC H locs had hnx hl hla hs hR
      obtain ⟨v, tC, rfl, ga, gt⟩ := xSt1 hs
      obtain ⟨x, rfl⟩ := xIsI_ok h1 ga
      have gb : xOk (yη σ) ad nx (.inl (Int.ofNat 0, Int.ofNat 0)) (.int 0) := ⟨0, rfl, Int.le_refl _, Int.le_refl _⟩
      refine xIf_W hx hb hdg (xTgt_ok htg) (fun hy => ?_) (fun hy => ?_)
      · obtain ⟨e', e1, e2, e3⟩ := two ga gb hy h3
        exact I e' e1 e2 _ _ _ _ _ _ _ _ xSeek_in e3 ad lsC lv _ H locs had hnx hl hla gt hR
      · obtain ⟨e', e1, e2, e3⟩ := two ga gb (yNg_ok hy) h4
        exact I e' e1 e2 _ _ _ _ _ _ _ _ hn e3 ad lsC lv _ H locs had hnx hl hla gt hR
    · cases h
  · rename_i i n
    split at h
    · rename_i k hk
      simp only [Bool.and_eq_true, decide_eq_true_eq] at h
      obtain ⟨⟨h1, h2⟩, h3⟩ := h
      obtain rfl := xl_of hlen (by simp [xLen])
      intro ad lsC lv stC H locs had hnx hl hla hs hR
      obtain ⟨k1, v1, g1, g2⟩ := xLg_ok hla hk
      have g2 : v1 = .int (yη σ k) := g2
      subst g2
      have hr := xInR_ok h1
      refine lv_iinc hx hb hdg hl g1 rfl h2 rfl (fun ls' hl' => I0 _ _ _ _ _ _ _ _ hn h3 ad ls' _ _ H locs had hnx hl' (xS1_ok hla (yAd_ok hE ?_)) hs hR)
      rw [Int32.toInt_ofInt, xbm hr.1 hr.2]
    · exact yDo_ok X I0 hret hE hn hdg hlen h
  · split at h
    · rename_i j k st'
      by_cases hk : xK j = true
      · rw [hk, cond_true] at h
        obtain rfl := xl_of hlen (by simp [xLen])
        intro ad lsC lv stC H locs had hnx hl hla hs hR
        obtain ⟨w, v, tC, rfl, gb, ga, gt⟩ := xSt2 hs
        obtain ⟨y, rfl, gy⟩ := gb
        have ga : v = .int (yη σ k) := ga
        subst ga
        exact lv_iadd hx hb hdg (I0 _ _ _ _ _ _ _ _ hn h ad lsC lv _ H locs had hnx hl hla ⟨yAd_ok hE (xZI hk gy), gt⟩ hR)
      · rw [show xK j = false by simpa using hk, cond_false] at h
        exact yDo_ok X I0 hret hE hn hdg hlen h
    · rename_i k j st'
      by_cases hk : xK j = true
      · rw [hk, cond_true] at h
        obtain rfl := xl_of hlen (by simp [xLen])
        intro ad lsC lv stC H locs had hnx hl hla hs hR
        obtain ⟨w, v, tC, rfl, gb, ga, gt⟩ := xSt2 hs
        obtain ⟨y, rfl, gy⟩ := ga
        have gb : w = .int (yη σ k) := gb
        subst gb
        refine lv_iadd hx hb hdg ?_
        rw [Int32.add_comm]
        exact I0 _ _ _ _ _ _ _ _ hn h ad lsC lv _ H locs had hnx hl hla ⟨yAd_ok hE (xZI hk gy), gt⟩ hR
      · rw [show xK j = false by simpa using hk, cond_false] at h
        exact yDo_ok X I0 hret hE hn hdg hlen h
    · exact yDo_ok X I0 hret hE hn hdg hlen h
  · split at h
    · rename_i j k st'
      by_cases hk : (xK j && xInR (-j.1)) = true
      · rw [hk, cond_true] at h
        rw [Bool.and_eq_true] at hk
        have hr := xInR_ok hk.2
        obtain rfl := xl_of hlen (by simp [xLen])
        intro ad lsC lv stC H locs had hnx hl hla hs hR
        obtain ⟨w, v, tC, rfl, gb, ga, gt⟩ := xSt2 hs
        obtain ⟨y, rfl, gy⟩ := gb
        have ga : v = .int (yη σ k) := ga
        subst ga
        have hy := xZI hk.1 gy
        refine lv_isub hx hb hdg ?_
        have e1 : yη σ k - y = yη σ k + -y := Int32.sub_eq_add_neg _ _
        rw [e1]
        refine I0 _ _ _ _ _ _ _ _ hn h ad lsC lv _ H locs had hnx hl hla ⟨yAd_ok hE ?_, gt⟩ hR
        rw [Int32.toInt_neg, hy, xbm hr.1 hr.2]
      · rw [show (xK j && xInR (-j.1)) = false by simpa using hk, cond_false] at h
        exact yDo_ok X I0 hret hE hn hdg hlen h
    · exact yDo_ok X I0 hret hE hn hdg hlen h
  · exact yLsw_ok X I0 hE hdg h
  · split at h
    · rename_i k hk
      obtain rfl := xl_of hlen (by simp [xLen])
      exact xStC_ok X I0 (xAs_ok hk) hn hdg h
    · exact yDo_ok X I0 hret hE hn hdg hlen h
  · split at h
    · rename_i z hk hz
      obtain rfl := xl_of hlen (by simp [xLen])
      exact yCq_ok X I0 hE (xAs_ok hk) hn hdg hz h
    · exact yDo_ok X I0 hret hE hn hdg hlen h
  · split at h
    · rename_i b hb'
      subst h
      exact yZt_ok X I0 hn hdg hlen hb'
    split at h
    · rename_i b hb'
      subst h
      exact yWk_ok X I0 hE hn hdg hlen hb'
    · split at h
      · rename_i st' hst
        intro ad lsC lv stC H locs had hnx hl hla hs hR
        exact yPu_ok hx hb hdg hlen hst (yWs_ok hE hs) (fun sC' g => I0 _ _ _ _ _ _ _ _ hn h ad lsC lv sC' H locs had hnx hl hla g hR)
      · exact yDo_ok X I0 hret hE hn hdg hlen h
end YEX

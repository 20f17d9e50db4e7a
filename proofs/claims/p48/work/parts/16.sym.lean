/-! named ints with an offset, what is known of them, what a comparison tells -/
def yN (k : Nat) : Nat := k / 65536
def yO (k : Nat) : Int := ((k % 65536 : Nat) : Int) - 32768
def yC (j : Nat) (o : Int) : Nat := j * 65536 + (o + 32768).toNat
def yη (σ : Nat → Int) (k : Nat) : Int32 := Int32.ofInt (σ (yN k) + yO k)
theorem yC_N {j : Nat} {o : Int} (h1 : -32768 ≤ o) (h2 : o < 32768) : yN (yC j o) = j := by unfold yN yC; omega
theorem yC_O {j : Nat} {o : Int} (h1 : -32768 ≤ o) (h2 : o < 32768) : yO (yC j o) = o := by unfold yO yC; omega
def yOkE (σ : Nat → Int) (env : List xI) : Prop := ∀ (j : Nat) (i : xI), env[j]? = some i → xIn i (σ j)
def yIv (env : List xI) (k : Nat) : Option xI := match env[yN k]? with
  | some i => bif xInR (i.1 + yO k) && xInR (i.2 + yO k) then some (i.1 + yO k, i.2 + yO k) else none
  | none => none
theorem yIv_ok {σ : Nat → Int} {env : List xI} (h : yOkE σ env) {k : Nat} {i : xI} (g : yIv env k = some i) : (yη σ k).toInt = σ (yN k) + yO k ∧ xIn i (yη σ k).toInt ∧ ∃ e, env[yN k]? = some e ∧ i = (e.1 + yO k, e.2 + yO k) := by
  unfold yIv at g
  split at g
  · rename_i e he
    by_cases hr : (xInR (e.1 + yO k) && xInR (e.2 + yO k)) = true
    · rw [hr, cond_true] at g
      cases g
      rw [Bool.and_eq_true] at hr
      have r1 := xInR_ok hr.1
      have r2 := xInR_ok hr.2
      obtain ⟨b1, b2⟩ := h _ _ he
      have e1 : (yη σ k).toInt = σ (yN k) + yO k := by
        unfold yη
        rw [Int32.toInt_ofInt, xbm (by omega) (by omega)]
      refine ⟨e1, ?_, e, he, rfl⟩
      rw [e1]
      constructor <;> dsimp only <;> omega
    · rw [show (xInR (e.1 + yO k) && xInR (e.2 + yO k)) = false by simpa using hr, cond_false] at g
      cases g
  · cases g
def yW (env : List xI) : xV → xV
  | .inr (.inr (.inr k)) => (match yIv env k with
    | some i => .inl i
    | none => .inl xTop)
  | v => v
theorem yW_ok {σ : Nat → Int} {env : List xI} (h : yOkE σ env) {ad : Nat → Nat} {N : Nat} {a : xV} {v : Value} (g : xOk (yη σ) ad N a v) : xOk (yη σ) ad N (yW env a) v := by
  unfold yW
  split
  · rename_i k
    have g : v = .int (yη σ k) := g
    subst g
    split
    · rename_i i hi
      exact ⟨_, rfl, (yIv_ok h hi).2.1⟩
    · exact ⟨_, rfl, xTop_ok _⟩
  · exact g
/-- a number that is known, and a name of which only it is left -/
def ySg (env : List xI) : xV → xV → Bool
  | .inl i, .inr (.inr (.inr k)) => xK i && (match yIv env k with
    | some j => xK j && decide (j.1 = i.1)
    | none => false)
  | _, _ => false
theorem ySg_ok {σ : Nat → Int} {env : List xI} (h : yOkE σ env) {ad : Nat → Nat} {N : Nat} {a b : xV} {v : Value} (hl : ySg env a b = true) (g : xOk (yη σ) ad N a v) : xOk (yη σ) ad N b v := by
  unfold ySg at hl
  split at hl
  · rename_i i k
    rw [Bool.and_eq_true] at hl
    obtain ⟨h1, h2⟩ := hl
    split at h2
    · rename_i j hj
      rw [Bool.and_eq_true, decide_eq_true_eq] at h2
      obtain ⟨x, rfl, x1, x2⟩ := g
      obtain ⟨-, ⟨b1, b2⟩, -⟩ := yIv_ok h hj
      have e1 : i.1 = i.2 := by simpa [xK] using h1
      have e2 : j.1 = j.2 := by simpa [xK] using h2.1
      show Value.int x = .int (yη σ k)
      congr 1
      apply Int32.toInt_inj.mp
      omega
    · cases h2
  · cases hl
def yLeV (env : List xI) (a b : xV) : Bool := xLeV a b || (xLeV (yW env a) b || ySg env (yW env a) b)
theorem yLeV_ok {σ : Nat → Int} {env : List xI} (h : yOkE σ env) {ad : Nat → Nat} {N : Nat} {a b : xV} {v : Value} (hl : yLeV env a b = true) (g : xOk (yη σ) ad N a v) : xOk (yη σ) ad N b v := by
  unfold yLeV at hl
  rcases Bool.or_eq_true _ _ ▸ hl with hl | hl
  · exact xLeV_ok hl g
  · rcases Bool.or_eq_true _ _ ▸ hl with hl | hl
    · exact xLeV_ok hl (yW_ok h g)
    · exact ySg_ok h hl (yW_ok h g)
/-! an interval made narrower -/
def yMeet (a b : xI) : xI := (max a.1 b.1, min a.2 b.2)
theorem yMeet_ok {a b : xI} {x : Int} (h1 : xIn a x) (h2 : xIn b x) : xIn (yMeet a b) x := by
  obtain ⟨a1, a2⟩ := h1
  obtain ⟨b1, b2⟩ := h2
  constructor
  · show max a.1 b.1 ≤ x; omega
  · show x ≤ min a.2 b.2; omega
def yTight (env : List xI) (a : xV) (i : xI) : List xI := match a with
  | .inr (.inr (.inr k)) => (match yIv env k with
    | some j => env.set (yN k) (yMeet (j.1 - yO k, j.2 - yO k) (i.1 - yO k, i.2 - yO k))
    | none => env)
  | _ => env
theorem yTight_ok {σ : Nat → Int} {env : List xI} (h : yOkE σ env) {ad : Nat → Nat} {N : Nat} {a : xV} {x : Int32} (g : xOk (yη σ) ad N a (.int x)) {i : xI} (hi : xIn i x.toInt) : yOkE σ (yTight env a i) := by
  unfold yTight
  split
  · rename_i k
    have g : Value.int x = .int (yη σ k) := g
    cases g
    split
    · rename_i j hj
      obtain ⟨e1, e2, -⟩ := yIv_ok h hj
      intro q r hq
      by_cases hqk : yN k = q
      · subst hqk
        rw [List.getElem?_set] at hq
        rw [if_pos rfl] at hq
        split at hq
        · cases hq
          rw [e1] at e2 hi
          obtain ⟨b1, b2⟩ := e2
          obtain ⟨c1, c2⟩ := hi
          refine yMeet_ok ⟨?_, ?_⟩ ⟨?_, ?_⟩
          · show j.1 - yO k ≤ σ (yN k); omega
          · show σ (yN k) ≤ j.2 - yO k; omega
          · show i.1 - yO k ≤ σ (yN k); omega
          · show σ (yN k) ≤ i.2 - yO k; omega
        · cases hq
      · rw [List.getElem?_set, if_neg hqk] at hq
        exact h q r hq
    · exact h
  · exact h
def yNe (a b : xI) : xI := bif xK b then ((bif decide (a.1 = b.1) then a.1 + 1 else a.1), (bif decide (a.2 = b.1) then a.2 - 1 else a.2)) else a
theorem yNe_ok {a b : xI} {x y : Int32} (hx : xIn a x.toInt) (hy : xIn b y.toInt) (h : ¬ x = y) : xIn (yNe a b) x.toInt := by
  unfold yNe
  by_cases hk : xK b = true
  · rw [hk, cond_true]
    have hb : b.1 = b.2 := by simpa [xK] using hk
    obtain ⟨x1, x2⟩ := hx
    obtain ⟨y1, y2⟩ := hy
    have hne : x.toInt ≠ y.toInt := fun e => h (Int32.toInt_inj.mp e)
    constructor
    · show (bif decide (a.1 = b.1) then a.1 + 1 else a.1) ≤ x.toInt
      by_cases h1 : a.1 = b.1
      · rw [decide_eq_true h1, cond_true]; omega
      · rw [decide_eq_false h1, cond_false]; exact x1
    · show x.toInt ≤ (bif decide (a.2 = b.1) then a.2 - 1 else a.2)
      by_cases h1 : a.2 = b.1
      · rw [decide_eq_true h1, cond_true]; omega
      · rw [decide_eq_false h1, cond_false]; exact x2
  · rw [show xK b = false by simpa using hk, cond_false]; exact hx
def yCo : xCo → xI → xI → xI × xI
  | .lt, a, b => ((a.1, min a.2 (b.2 - 1)), (max b.1 (a.1 + 1), b.2))
  | .ge, a, b => ((max a.1 b.1, a.2), (b.1, min b.2 a.2))
  | .gt, a, b => ((max a.1 (b.1 + 1), a.2), (b.1, min b.2 (a.2 - 1)))
  | .le, a, b => ((a.1, min a.2 b.2), (max b.1 a.1, b.2))
  | .eq, a, b => (yMeet a b, yMeet a b)
  | .ne, a, b => (yNe a b, yNe b a)
theorem yCo_ok {k : xCo} {a b : xI} {x y : Int32} (hx : xIn a x.toInt) (hy : xIn b y.toInt) (h : xPr k x y) : xIn (yCo k a b).1 x.toInt ∧ xIn (yCo k a b).2 y.toInt := by
  cases k with
  | eq =>
    have h : x = y := h
    subst h
    exact ⟨yMeet_ok hx hy, yMeet_ok hx hy⟩
  | ne => exact ⟨yNe_ok hx hy h, yNe_ok hy hx (fun e => h e.symm)⟩
  | lt =>
    have h : x < y := h
    rw [Int32.lt_iff_toInt_lt] at h
    obtain ⟨x1, x2⟩ := hx
    obtain ⟨y1, y2⟩ := hy
    refine ⟨⟨x1, ?_⟩, ?_, y2⟩
    · show x.toInt ≤ min a.2 (b.2 - 1); omega
    · show max b.1 (a.1 + 1) ≤ y.toInt; omega
  | ge =>
    have h : y ≤ x := h
    rw [Int32.le_iff_toInt_le] at h
    obtain ⟨x1, x2⟩ := hx
    obtain ⟨y1, y2⟩ := hy
    refine ⟨⟨?_, x2⟩, y1, ?_⟩
    · show max a.1 b.1 ≤ x.toInt; omega
    · show y.toInt ≤ min b.2 a.2; omega
  | gt =>
    have h : y < x := h
    rw [Int32.lt_iff_toInt_lt] at h
    obtain ⟨x1, x2⟩ := hx
    obtain ⟨y1, y2⟩ := hy
    refine ⟨⟨?_, x2⟩, y1, ?_⟩
    · show max a.1 (b.1 + 1) ≤ x.toInt; omega
    · show y.toInt ≤ min b.2 (a.2 - 1); omega
  | le =>
    have h : x ≤ y := h
    rw [Int32.le_iff_toInt_le] at h
    obtain ⟨x1, x2⟩ := hx
    obtain ⟨y1, y2⟩ := hy
    refine ⟨⟨x1, ?_⟩, ?_, y2⟩
    · show x.toInt ≤ min a.2 b.2; omega
    · show max b.1 a.1 ≤ y.toInt; omega
def yNg : xCo → xCo
  | .eq => .ne
  | .ne => .eq
  | .lt => .ge
  | .ge => .lt
  | .gt => .le
  | .le => .gt
theorem yNg_ok {k : xCo} {x y : Int32} (h : ¬ xPr k x y) : xPr (yNg k) x y := by
  cases k with
  | eq => exact h
  | ne => exact Classical.byContradiction fun z => h z
  | lt =>
    have h : ¬ x < y := h
    show y ≤ x
    rw [Int32.lt_iff_toInt_lt] at h
    rw [Int32.le_iff_toInt_le]; omega
  | ge =>
    have h : ¬ y ≤ x := h
    show x < y
    rw [Int32.le_iff_toInt_le] at h
    rw [Int32.lt_iff_toInt_lt]; omega
  | gt =>
    have h : ¬ y < x := h
    show x ≤ y
    rw [Int32.lt_iff_toInt_lt] at h
    rw [Int32.le_iff_toInt_le]; omega
  | le =>
    have h : ¬ x ≤ y := h
    show y < x
    rw [Int32.le_iff_toInt_le] at h
    rw [Int32.lt_iff_toInt_lt]; omega
/-- two offsets of one name -/
def yCs : xCo → Int → Int → Bool
  | .eq, a, b => decide (a = b)
  | .ne, a, b => !(decide (a = b))
  | .lt, a, b => decide (a < b)
  | .ge, a, b => decide (b ≤ a)
  | .gt, a, b => decide (b < a)
  | .le, a, b => decide (a ≤ b)
theorem yCs_ok {k : xCo} {x y : Int32} {c a b : Int} (hx : x.toInt = c + a) (hy : y.toInt = c + b) (h : xPr k x y) : yCs k a b = true := by
  cases k with
  | eq =>
    have h : x = y := h
    subst h
    exact decide_eq_true (by omega)
  | ne =>
    have h : ¬ x = y := h
    show (!(decide (a = b))) = true
    rw [decide_eq_false (fun e => h (Int32.toInt_inj.mp (by omega)))]
    rfl
  | lt =>
    have h : x < y := h
    rw [Int32.lt_iff_toInt_lt] at h
    exact decide_eq_true (by omega)
  | ge =>
    have h : y ≤ x := h
    rw [Int32.le_iff_toInt_le] at h
    exact decide_eq_true (by omega)
  | gt =>
    have h : y < x := h
    rw [Int32.lt_iff_toInt_lt] at h
    exact decide_eq_true (by omega)
  | le =>
    have h : x ≤ y := h
    rw [Int32.le_iff_toInt_le] at h
    exact decide_eq_true (by omega)
def yNo (env : List xI) (k : xCo) : xV → xV → Bool
  | .inr (.inr (.inr i)), .inr (.inr (.inr j)) => yN i == yN j && ((yIv env i).isSome && (yIv env j).isSome) && !(yCs k (yO i) (yO j))
  | _, _ => false
theorem yNo_ok {σ : Nat → Int} {env : List xI} (h : yOkE σ env) {ad : Nat → Nat} {N : Nat} {a b : xV} {x y : Int32} (ga : xOk (yη σ) ad N a (.int x)) (gb : xOk (yη σ) ad N b (.int y)) {k : xCo} (hp : xPr k x y) : yNo env k a b = false := by
  unfold yNo
  split
  · rename_i i j
    have ga : Value.int x = .int (yη σ i) := ga
    have gb : Value.int y = .int (yη σ j) := gb
    cases ga
    cases gb
    cases hi : yIv env i with
    | none => rw [Option.isSome_none, Bool.false_and, Bool.and_false, Bool.false_and]
    | some u =>
      cases hj : yIv env j with
      | none => rw [Option.isSome_none, Bool.and_false, Bool.and_false, Bool.false_and]
      | some w =>
        by_cases hn : yN i = yN j
        · have e1 := (yIv_ok h hi).1
          have e2 := (yIv_ok h hj).1
          rw [← hn] at e2
          rw [yCs_ok e1 e2 hp, Bool.not_true, Bool.and_false]
        · rw [show (yN i == yN j) = false by simpa using hn, Bool.false_and, Bool.false_and]
  · rfl
/-- what is known where the comparison holds; none: it can't hold -/
def yBr (env : List xI) (k : xCo) (a b : xV) : Option (List xI) := bif yNo env k a b then none else (match yW env a, yW env b with
  | .inl i, .inl j => bif decide ((yCo k i j).1.1 ≤ (yCo k i j).1.2) && decide ((yCo k i j).2.1 ≤ (yCo k i j).2.2) then some (yTight (yTight env a (yCo k i j).1) b (yCo k i j).2) else none
  | _, _ => some env)
theorem yBr_ok {σ : Nat → Int} {env : List xI} (h : yOkE σ env) {ad : Nat → Nat} {N : Nat} {a b : xV} {x y : Int32} (ga : xOk (yη σ) ad N a (.int x)) (gb : xOk (yη σ) ad N b (.int y)) {k : xCo} (hp : xPr k x y) : ∃ env', yBr env k a b = some env' ∧ yOkE σ env' := by
  have wa := yW_ok h ga
  have wb := yW_ok h gb
  unfold yBr
  rw [yNo_ok h ga gb hp, cond_false]
  split
  · rename_i i j hi hj
    rw [hi] at wa
    rw [hj] at wb
    obtain ⟨x', e1, g1⟩ := wa
    cases e1
    obtain ⟨y', e2, g2⟩ := wb
    cases e2
    obtain ⟨r1, r2⟩ := yCo_ok g1 g2 hp
    rw [decide_eq_true (Int.le_trans r1.1 r1.2), decide_eq_true (Int.le_trans r2.1 r2.2)]
    exact ⟨_, rfl, yTight_ok (yTight_ok h ga r1) gb r2⟩
  · exact ⟨env, rfl, h⟩
/-! states that speak of the first n names alone -/
def yB (n : Nat) : xV → Bool
  | .inr (.inr (.inr k)) => decide (yN k < n)
  | _ => true
theorem yB_ok {σ σ' : Nat → Int} {n : Nat} (hs : ∀ j, j < n → σ' j = σ j) {ad : Nat → Nat} {N : Nat} {a : xV} {v : Value} (hb : yB n a = true) (g : xOk (yη σ) ad N a v) : xOk (yη σ') ad N a v := by
  unfold yB at hb
  split at hb
  · rename_i k
    have hk : yN k < n := by simpa using hb
    have g : v = .int (yη σ k) := g
    show v = .int (yη σ' k)
    rw [g]
    unfold yη
    rw [hs _ hk]
  · rename_i hne
    rcases a with i | i | o | k
    · exact g
    · exact g
    · cases o with
      | none => exact g
      | some o => exact g
    · exact absurd rfl (hne k)
theorem yB_all {σ σ' : Nat → Int} {n : Nat} (hs : ∀ j, j < n → σ' j = σ j) {ad : Nat → Nat} {N : Nat} : ∀ {as : List xV} {vs : List Value}, as.all (yB n) = true → xAll (xOk (yη σ) ad N) as vs → xAll (xOk (yη σ') ad N) as vs
  | [], [], _, _ => trivial
  | a :: as, v :: vs, h, g => by
    simp only [List.all_cons, Bool.and_eq_true] at h
    exact ⟨yB_ok hs h.1 g.1, yB_all hs h.2 g.2⟩
  | [], _ :: _, _, g => g.elim
  | _ :: _, [], _, g => g.elim
theorem yB_ls {σ σ' : Nat → Int} {n : Nat} (hs : ∀ j, j < n → σ' j = σ j) {ad : Nat → Nat} {N : Nat} : ∀ {as : List (Nat × xV)} {vs : List (Nat × Value)}, as.all (fun q => yB n q.2) = true → xAll (xLok (yη σ) ad N) as vs → xAll (xLok (yη σ') ad N) as vs
  | [], [], _, _ => trivial
  | a :: as, v :: vs, h, g => by
    simp only [List.all_cons, Bool.and_eq_true] at h
    exact ⟨⟨g.1.1, yB_ok hs h.1 g.1.2⟩, yB_ls hs h.2 g.2⟩
  | [], _ :: _, _, g => g.elim
  | _ :: _, [], _, g => g.elim
def yBe (n : Nat) : xE → Bool
  | .inl o => o.2.all (yB n)
  | .inr (_, _, d, ov) => yB n d && ov.all (fun q => yB n q.2)
theorem yB_at {n : Nat} {d : xV} (hd : yB n d = true) : ∀ {ov : List (Nat × xV)} (i : Nat), ov.all (fun q => yB n q.2) = true → yB n (xAt d ov i) = true
  | [], _, _ => hd
  | q :: r, i, h => by
    simp only [List.all_cons, Bool.and_eq_true] at h
    unfold xAt
    by_cases hq : (q.1 == i) = true
    · rw [hq, cond_true]; exact h.1
    · rw [show (q.1 == i) = false by simpa using hq, cond_false]; exact yB_at hd i h.2
theorem yBe_ok {σ σ' : Nat → Int} {n : Nat} (hs : ∀ j, j < n → σ' j = σ j) {ad : Nat → Nat} {N : Nat} {cy : Nat → ClassId} : ∀ {a : xE} {v : va_E}, yBe n a = true → xEok (yη σ) ad N cy a v → xEok (yη σ') ad N cy a v
  | .inl o, .inr o', h, g => ⟨g.1, yB_all hs h g.2⟩
  | .inr (t, m, d, ov), .inl (cA, n', a), h, g => by
    simp only [yBe, Bool.and_eq_true] at h
    obtain ⟨h1, h2, h3, h4, h5, h6⟩ := g
    refine ⟨h1, h2, h3, fun e => ?_, fun e => ?_, fun e => ?_⟩
    · obtain ⟨f, e1, e2⟩ := h4 e
      exact ⟨f, e1, fun i hi => yB_ok hs (yB_at h.1 i h.2) (e2 i hi)⟩
    · obtain ⟨f, e1, e2⟩ := h5 e
      exact ⟨f, e1, fun i hi => yB_ok hs (yB_at h.1 i h.2) (e2 i hi)⟩
    · obtain ⟨f, e1, e2⟩ := h6 e
      exact ⟨f, e1, fun i hi => yB_ok hs (yB_at h.1 i h.2) (e2 i hi)⟩
  | .inl _, .inl _, _, g => g.elim
  | .inr _, .inr _, _, g => g.elim
def yBh (n : Nat) (hp : xH) : Bool := hp.all (fun q => yBe n q.2)
theorem yBh_ok {σ σ' : Nat → Int} {n : Nat} (hs : ∀ j, j < n → σ' j = σ j) {ad : Nat → Nat} {N : Nat} {cy : Nat → ClassId} : ∀ {hp : xH} {ws : va_W}, yBh n hp = true → xWok (yη σ) ad N cy hp ws → xWok (yη σ') ad N cy hp ws
  | [], [], _, _ => trivial
  | a :: as, v :: vs, h, g => by
    simp only [yBh, List.all_cons, Bool.and_eq_true] at h
    exact ⟨⟨g.1.1, g.1.2.1, yBe_ok hs h.1 g.1.2.2⟩, yBh_ok hs h.2 g.2⟩
  | [], _ :: _, _, g => g.elim
  | _ :: _, [], _, g => g.elim
/-! a state below another -/
def yLeL (env : List xI) : List xV → List xV → Bool
  | [], [] => true
  | a :: as, b :: bs => yLeV env a b && yLeL env as bs
  | _, _ => false
theorem yLeL_ok {σ : Nat → Int} {env : List xI} (h : yOkE σ env) {ad : Nat → Nat} {N : Nat} : ∀ {as bs : List xV} {vs : List Value}, yLeL env as bs = true → xAll (xOk (yη σ) ad N) as vs → xAll (xOk (yη σ) ad N) bs vs
  | [], [], _, _, g => g
  | a :: as, b :: bs, [], _, g => g.elim
  | a :: as, b :: bs, v :: vs, hl, g => by
    simp only [yLeL, Bool.and_eq_true] at hl
    exact ⟨yLeV_ok h hl.1 g.1, yLeL_ok h hl.2 g.2⟩
  | [], _ :: _, _, hl, _ => by simp [yLeL] at hl
  | _ :: _, [], _, hl, _ => by simp [yLeL] at hl
/-- an object's fields may hold named ints, an array's places are known by intervals alone -/
def yLeE (env : List xI) : xE → xE → Bool
  | .inl a, .inl b => a.1 == b.1 && yLeL env a.2 b.2
  | a, b => xLeE a b
theorem yLeE_ok {σ : Nat → Int} {env : List xI} (h : yOkE σ env) {ad : Nat → Nat} {N : Nat} {cy : Nat → ClassId} {a b : xE} {v : va_E} (hl : yLeE env a b = true) (g : xEok (yη σ) ad N cy a v) : xEok (yη σ) ad N cy b v := by
  unfold yLeE at hl
  split at hl
  · simp only [Bool.and_eq_true, beq_iff_eq] at hl
    rcases v with v | v
    · exact g.elim
    · exact ⟨by rw [← hl.1]; exact g.1, yLeL_ok h hl.2 g.2⟩
  · exact xLeE_ok hl g
def yTakeAll (env : List xI) : xH → xH → Option xH
  | [], hp => some hp
  | q :: qs, hp => match xTake q.1 hp with
    | some z => bif yLeE env z.1 q.2 then yTakeAll env qs z.2 else none
    | none => none
theorem yTakeAll_ok {σ : Nat → Int} {env : List xI} (h : yOkE σ env) {ad : Nat → Nat} {N : Nat} {cy : Nat → ClassId} : ∀ {pre hp : xH} {ws : va_W} {r : xH}, xWok (yη σ) ad N cy hp ws → yTakeAll env pre hp = some r → ∃ wc wr : va_W, ws.Perm (wc ++ wr) ∧ xWok (yη σ) ad N cy pre wc ∧ xWok (yη σ) ad N cy r wr
  | [], hp, ws, r, g, hl => by
    simp only [yTakeAll, Option.some.injEq] at hl
    subst hl
    exact ⟨[], ws, List.Perm.refl _, trivial, g⟩
  | q :: qs, hp, ws, r, g, hl => by
    unfold yTakeAll at hl
    cases hz : xTake q.1 hp with
    | none => rw [hz] at hl; simp at hl
    | some z =>
      rw [hz] at hl
      simp only at hl
      by_cases hc : yLeE env z.1 q.2 = true
      · rw [hc, cond_true] at hl
        obtain ⟨x, ws', h1, h2, h3, h4⟩ := xTake_ok g hz
        obtain ⟨wc, wr, g1, g2, g3⟩ := yTakeAll_ok h h4 hl
        exact ⟨(ad q.1, x) :: wc, wr, h1.trans (g1.cons _), ⟨⟨rfl, h2, yLeE_ok h hc h3⟩, g2⟩, g3⟩
      · rw [show yLeE env z.1 q.2 = false by simpa using hc, cond_false] at hl
        cases hl

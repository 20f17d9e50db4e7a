/-! instructions that change the stack alone -/
def xTop : xI := (Int.negSucc 2147483647, Int.ofNat 2147483647)
def xTopL : xI := (Int.negSucc 9223372036854775807, Int.ofNat 9223372036854775807)
def xInR (a : Int) : Bool := decide (-2147483648 ≤ a) && decide (a ≤ 2147483647)
def xAdd (a b : xI) : xI := bif xInR (a.1 + b.1) && xInR (a.2 + b.2) then (a.1 + b.1, a.2 + b.2) else xTop
def xSub (a b : xI) : xI := bif xInR (a.1 - b.2) && xInR (a.2 - b.1) then (a.1 - b.2, a.2 - b.1) else xTop
def xK (a : xI) : Bool := decide (a.1 = a.2)
def xC2 (f : Int32 → Int32 → Int32) (a b : xI) : xI := bif xK a && xK b then (fun r : Int => (r, r)) (f (Int32.ofInt a.1) (Int32.ofInt b.1)).toInt else xTop
def xC1 (f : Int32 → Int32) (a : xI) : xI := bif xK a then (fun r : Int => (r, r)) (f (Int32.ofInt a.1)).toInt else xTop
def xZ (a : xI) : Bool := decide (a.1 = 0) && decide (a.2 = 0)
theorem xTop_ok (x : Int32) : xIn xTop x.toInt := xI32 x
theorem xK_ok {a : xI} {x : Int32} (h : xK a = true) (g : xIn a x.toInt) : x = Int32.ofInt a.1 := by
  have h' : a.1 = a.2 := by simpa [xK] using h
  obtain ⟨g1, g2⟩ := g
  have : x.toInt = a.1 := by omega
  rw [← this, Int32.ofInt_toInt]
theorem xC2_ok {f : Int32 → Int32 → Int32} {a b : xI} {x y : Int32} (hx : xIn a x.toInt) (hy : xIn b y.toInt) : xIn (xC2 f a b) (f x y).toInt := by
  unfold xC2
  by_cases h : (xK a && xK b) = true
  · rw [h, cond_true]
    rw [Bool.and_eq_true] at h
    rw [xK_ok h.1 hx, xK_ok h.2 hy]
    exact ⟨Int.le_refl _, Int.le_refl _⟩
  · rw [show (xK a && xK b) = false by simpa using h, cond_false]
    exact xTop_ok _
theorem xC1_ok {f : Int32 → Int32} {a : xI} {x : Int32} (hx : xIn a x.toInt) : xIn (xC1 f a) (f x).toInt := by
  unfold xC1
  by_cases h : xK a = true
  · rw [h, cond_true, xK_ok h hx]
    exact ⟨Int.le_refl _, Int.le_refl _⟩
  · rw [show xK a = false by simpa using h, cond_false]
    exact xTop_ok _
theorem xInR_ok {a : Int} (h : xInR a = true) : -2147483648 ≤ a ∧ a ≤ 2147483647 := by
  simpa [xInR] using h
theorem xbm {a : Int} (h1 : -2147483648 ≤ a) (h2 : a ≤ 2147483647) : a.bmod (2 ^ 32) = a := by
  apply Int.bmod_eq_of_le
  · show -(4294967296 / 2) ≤ a; omega
  · show a < (4294967296 + 1) / 2; omega
theorem xAdd_ok {a b : xI} {x y : Int32} (hx : xIn a x.toInt) (hy : xIn b y.toInt) : xIn (xAdd a b) (x + y).toInt := by
  unfold xAdd
  by_cases h : (xInR (a.1 + b.1) && xInR (a.2 + b.2)) = true
  · rw [h, cond_true]
    rw [Bool.and_eq_true] at h
    have h1 := xInR_ok h.1
    have h2 := xInR_ok h.2
    obtain ⟨x1, x2⟩ := hx
    obtain ⟨y1, y2⟩ := hy
    rw [Int32.toInt_add, xbm (by omega) (by omega)]
    constructor <;> dsimp only <;> omega
  · rw [show (xInR (a.1 + b.1) && xInR (a.2 + b.2)) = false by simpa using h, cond_false]
    exact xTop_ok _
theorem xSub_ok {a b : xI} {x y : Int32} (hx : xIn a x.toInt) (hy : xIn b y.toInt) : xIn (xSub a b) (x - y).toInt := by
  unfold xSub
  by_cases h : (xInR (a.1 - b.2) && xInR (a.2 - b.1)) = true
  · rw [h, cond_true]
    rw [Bool.and_eq_true] at h
    have h1 := xInR_ok h.1
    have h2 := xInR_ok h.2
    obtain ⟨x1, x2⟩ := hx
    obtain ⟨y1, y2⟩ := hy
    rw [Int32.toInt_sub, xbm (by omega) (by omega)]
    constructor <;> dsimp only <;> omega
  · rw [show (xInR (a.1 - b.2) && xInR (a.2 - b.1)) = false by simpa using h, cond_false]
    exact xTop_ok _
theorem xZ_ok {a : xI} {x : Int32} (h : xZ a = true) (g : xIn a x.toInt) : x = 0 := by
  simp only [xZ, Bool.and_eq_true, decide_eq_true_eq] at h
  obtain ⟨g1, g2⟩ := g
  have : x.toInt = 0 := by omega
  exact Int32.toInt_inj.mp (by rw [this]; rfl)
def xMul (a b : xI) : xI := bif xZ a || xZ b then (Int.ofNat 0, Int.ofNat 0) else xC2 (fun x y => x * y) a b
theorem xMul_ok {a b : xI} {x y : Int32} (hx : xIn a x.toInt) (hy : xIn b y.toInt) : xIn (xMul a b) (x * y).toInt := by
  unfold xMul
  by_cases h : (xZ a || xZ b) = true
  · rw [h, cond_true]
    rw [Bool.or_eq_true] at h
    have : x * y = 0 := by
      rcases h with h | h
      · rw [xZ_ok h hx, Int32.zero_mul]
      · rw [xZ_ok h hy, Int32.mul_zero]
    rw [this]
    exact ⟨Int.le_refl _, Int.le_refl _⟩
  · rw [show (xZ a || xZ b) = false by simpa using h, cond_false]
    exact xC2_ok hx hy
/-- the operation of an instruction on two ints -/
def xBF : Instr → Option (Int32 → Int32 → Int32)
  | .iadd => some (fun x y => x + y)
  | .isub => some (fun x y => x - y)
  | .imul => some (fun x y => x * y)
  | .iand => some (fun x y => x &&& y)
  | .ior => some (fun x y => x ||| y)
  | .ixor => some (fun x y => x ^^^ y)
  | .ishl => some (fun x y => x <<< (y &&& 31))
  | .ishr => some (fun x y => x >>> (y &&& 31))
  | .iushr => some (fun x y => (x.toUInt32 >>> (y.toUInt32 &&& Int32.toUInt32 31)).toInt32)
  | _ => none
def xBA (ins : Instr) (f : Int32 → Int32 → Int32) (a b : xI) : xI := match ins with
  | .iadd => xAdd a b
  | .isub => xSub a b
  | .imul => xMul a b
  | _ => xC2 f a b
theorem xBA_ok {ins : Instr} {f : Int32 → Int32 → Int32} (h : xBF ins = some f) {a b : xI} {x y : Int32} (hx : xIn a x.toInt) (hy : xIn b y.toInt) : xIn (xBA ins f a b) (f x y).toInt := by
  unfold xBF at h
  split at h <;> cases h
  · exact xAdd_ok hx hy
  · exact xSub_ok hx hy
  · exact xMul_ok hx hy
  all_goals exact xC2_ok hx hy
def xCL (f : Int64 → Int64 → Int64) (a b : xI) : xI := bif xK a && xK b then (fun r : Int => (r, r)) (f (Int64.ofInt a.1) (Int64.ofInt b.1)).toInt else xTopL
theorem xTopL_ok (x : Int64) : xIn xTopL x.toInt := by
  have h1 := Int64.minValue_le_toInt x
  have h2 := Int64.toInt_le x
  have e1 : Int64.minValue.toInt = -9223372036854775808 := by decide
  have e2 : Int64.maxValue.toInt = 9223372036854775807 := by decide
  constructor
  · show (-9223372036854775808 : Int) ≤ _; omega
  · show _ ≤ (9223372036854775807 : Int); omega
theorem xKL_ok {a : xI} {x : Int64} (h : xK a = true) (g : xIn a x.toInt) : x = Int64.ofInt a.1 := by
  have h' : a.1 = a.2 := by simpa [xK] using h
  obtain ⟨g1, g2⟩ := g
  have : x.toInt = a.1 := by omega
  rw [← this, Int64.ofInt_toInt]
theorem xCL_ok {f : Int64 → Int64 → Int64} {a b : xI} {x y : Int64} (hx : xIn a x.toInt) (hy : xIn b y.toInt) : xIn (xCL f a b) (f x y).toInt := by
  unfold xCL
  by_cases h : (xK a && xK b) = true
  · rw [h, cond_true]
    rw [Bool.and_eq_true] at h
    rw [xKL_ok h.1 hx, xKL_ok h.2 hy]
    exact ⟨Int.le_refl _, Int.le_refl _⟩
  · rw [show (xK a && xK b) = false by simpa using h, cond_false]
    exact xTopL_ok _
/-- the operation of an instruction on two longs -/
def xLF : Instr → Option (Int64 → Int64 → Int64)
  | .ladd => some (fun x y => x + y)
  | .lsub => some (fun x y => x - y)
  | .lmul => some (fun x y => x * y)
  | .land => some (fun x y => x &&& y)
  | .lor => some (fun x y => x ||| y)
  | .lxor => some (fun x y => x ^^^ y)
  | _ => none
/-- .. on a long and an int -/
def xLS : Instr → Option (Int64 → Int32 → Int64)
  | .lshl => some (fun x y => x <<< (y.toInt64 &&& 63))
  | .lshr => some (fun x y => x >>> (y.toInt64 &&& 63))
  | .lushr => some (fun x y => (x.toUInt64 >>> (y.toInt64.toUInt64 &&& Int64.toUInt64 63)).toInt64)
  | _ => none
def xCS (f : Int64 → Int32 → Int64) (a b : xI) : xI := bif xK a && xK b then (fun r : Int => (r, r)) (f (Int64.ofInt a.1) (Int32.ofInt b.1)).toInt else xTopL
theorem xCS_ok {f : Int64 → Int32 → Int64} {a b : xI} {x : Int64} {y : Int32} (hx : xIn a x.toInt) (hy : xIn b y.toInt) : xIn (xCS f a b) (f x y).toInt := by
  unfold xCS
  by_cases h : (xK a && xK b) = true
  · rw [h, cond_true]
    rw [Bool.and_eq_true] at h
    rw [xKL_ok h.1 hx, xK_ok h.2 hy]
    exact ⟨Int.le_refl _, Int.le_refl _⟩
  · rw [show (xK a && xK b) = false by simpa using h, cond_false]
    exact xTopL_ok _
def xCmpL (a b : xI) : xI := bif decide (b.2 < a.1) then (Int.ofNat 1, Int.ofNat 1) else bif decide (a.2 < b.1) then (Int.negSucc 0, Int.negSucc 0) else bif xK a && xK b then (Int.ofNat 0, Int.ofNat 0) else (Int.negSucc 0, Int.ofNat 1)
theorem xCmpL_ok {a b : xI} {x y : Int64} (hx : xIn a x.toInt) (hy : xIn b y.toInt) : xIn (xCmpL a b) (lg_cmp x y).toInt := by
  obtain ⟨x1, x2⟩ := hx
  obtain ⟨y1, y2⟩ := hy
  have key : (lg_cmp x y).toInt = if y.toInt < x.toInt then 1 else if x.toInt = y.toInt then 0 else -1 := by
    unfold lg_cmp
    simp only [gt_iff_lt, Int64.lt_iff_toInt_lt, ← Int64.toInt_inj]
    split
    · rfl
    · split <;> rfl
  rw [key]
  unfold xCmpL
  by_cases h1 : b.2 < a.1
  · rw [decide_eq_true h1, cond_true, if_pos (by omega)]
    exact ⟨Int.le_refl _, Int.le_refl _⟩
  · rw [decide_eq_false h1, cond_false]
    by_cases h2 : a.2 < b.1
    · rw [decide_eq_true h2, cond_true, if_neg (by omega), if_neg (by omega)]
      exact ⟨Int.le_refl _, Int.le_refl _⟩
    · rw [decide_eq_false h2, cond_false]
      by_cases h3 : (xK a && xK b) = true
      · rw [h3, cond_true]
        simp only [xK, Bool.and_eq_true, decide_eq_true_eq] at h3
        rw [if_neg (by omega), if_pos (by omega)]
        exact ⟨Int.le_refl _, Int.le_refl _⟩
      · rw [show (xK a && xK b) = false by simpa using h3, cond_false]
        split
        · exact ⟨by decide, by decide⟩
        · split
          · exact ⟨by decide, by decide⟩
          · exact ⟨by decide, by decide⟩
/-- what is told of named ints: an operation, what it is asked of, what it gives -/
abbrev xT : Type := Nat × xV × xV × xV
def xOpN : Nat → Int32 → Int32 → Int32
  | 0 => fun x y => x + y
  | 1 => fun x y => x >>> (y &&& 31)
  | 2 => fun x y => (x.toUInt32 >>> (y.toUInt32 &&& Int32.toUInt32 31)).toInt32
  | 3 => fun x y => x &&& y
  | 4 => fun x y => if x < y then y else x
  | 5 => fun x y => if y < x then y else x
  | 6 => fun x _ => x.toInt8.toInt32
  | 7 => fun x _ => x.toInt16.toInt32
  | 9 => fun x y => x - y
  | _ => fun x _ => x
def xTok (η : Nat → Int32) (ts : List xT) : Prop := ∀ t ∈ ts, ∀ (ad : Nat → Nat) (N : Nat) (x y : Int32), xOk η ad N t.2.1 (.int x) → xOk η ad N t.2.2.1 (.int y) → xOk η ad N t.2.2.2 (.int (xOpN t.1 x y))
def xTf (o : Nat) (a b : xV) : List xT → Option xV
  | [] => none
  | t :: ts => bif t.1 == o && decide (t.2.1 = a) && decide (t.2.2.1 = b) then some t.2.2.2 else xTf o a b ts
theorem xTf_ok {o : Nat} {a b r : xV} : ∀ {ts : List xT}, xTf o a b ts = some r → (o, a, b, r) ∈ ts
  | [], h => by simp [xTf] at h
  | t :: ts, h => by
    unfold xTf at h
    by_cases hq : (t.1 == o && decide (t.2.1 = a) && decide (t.2.2.1 = b)) = true
    · rw [hq, cond_true] at h
      simp only [Bool.and_eq_true, beq_iff_eq, decide_eq_true_eq] at hq
      obtain ⟨⟨h1, h2⟩, h3⟩ := hq
      cases h
      obtain ⟨t1, t2, t3, t4⟩ := t
      dsimp only at h1 h2 h3
      subst h1; subst h2; subst h3
      exact List.mem_cons_self
    · rw [show (t.1 == o && decide (t.2.1 = a) && decide (t.2.2.1 = b)) = false by simpa using hq, cond_false] at h
      exact List.mem_cons_of_mem _ (xTf_ok h)
def xOpT : Instr → Nat
  | .iadd => 0
  | .ishr => 1
  | .iushr => 2
  | .iand => 3
  | .isub => 9
  | _ => 99
theorem xOpT_ok {ins : Instr} {f : Int32 → Int32 → Int32} (h : xBF ins = some f) (g : xOpT ins < 99) : f = xOpN (xOpT ins) := by
  unfold xBF at h
  split at h <;> cases h <;> first | rfl | (exact absurd g (by decide))
/-- int arithmetic on what is known: intervals, else the told table -/
def xB (ts : List xT) (ins : Instr) (f : Int32 → Int32 → Int32) (a b : xV) : Option xV := match a, b with
  | .inl i, .inl j => some (.inl (xBA ins f i j))
  | a, b => bif decide (xOpT ins < 99) then xTf (xOpT ins) a b ts else none
theorem xB_ok {η : Nat → Int32} {ad : Nat → Nat} {N : Nat} {ts : List xT} (ht : xTok η ts) {ins : Instr} {f : Int32 → Int32 → Int32} (h : xBF ins = some f) {a b r : xV} (hr : xB ts ins f a b = some r) {x y : Int32} (hx : xOk η ad N a (.int x)) (hy : xOk η ad N b (.int y)) : xOk η ad N r (.int (f x y)) := by
  have old : ∀ {a b : xV}, (bif decide (xOpT ins < 99) then xTf (xOpT ins) a b ts else none) = some r → xOk η ad N a (.int x) → xOk η ad N b (.int y) → xOk η ad N r (.int (f x y)) := by
    intro a b hr hx hy
    by_cases hl : xOpT ins < 99
    · rw [decide_eq_true hl, cond_true] at hr
      have := ht _ (xTf_ok hr) ad N x y hx hy
      rw [xOpT_ok h hl]
      exact this
    · rw [decide_eq_false hl, cond_false] at hr
      cases hr
  unfold xB at hr
  split at hr
  · cases hr
    obtain ⟨x', e1, g1⟩ := hx
    obtain ⟨y', e2, g2⟩ := hy
    cases e1; cases e2
    exact ⟨_, rfl, xBA_ok h g1 g2⟩
  · exact old hr hx hy
def xMinA (a b : xI) : xI := (bif decide (a.1 ≤ b.1) then a.1 else b.1, bif decide (a.2 ≤ b.2) then a.2 else b.2)
def xMaxA (a b : xI) : xI := (bif decide (a.1 ≤ b.1) then b.1 else a.1, bif decide (a.2 ≤ b.2) then b.2 else a.2)
theorem xMinA_ok {a b : xI} {x y : Int32} (hx : xIn a x.toInt) (hy : xIn b y.toInt) : xIn (xMinA a b) (if y < x then y else x).toInt := by
  obtain ⟨x1, x2⟩ := hx
  obtain ⟨y1, y2⟩ := hy
  have e : (if y < x then y else x).toInt = if y.toInt < x.toInt then y.toInt else x.toInt := by
    by_cases h : y.toInt < x.toInt
    · rw [if_pos (Int32.lt_iff_toInt_lt.mpr h), if_pos h]
    · rw [if_neg (fun z => h (Int32.lt_iff_toInt_lt.mp z)), if_neg h]
  rw [e]
  unfold xMinA xIn
  by_cases h1 : a.1 ≤ b.1 <;> by_cases h2 : a.2 ≤ b.2 <;> simp only [h1, h2, decide_true, decide_false, cond_true, cond_false] <;> split <;> constructor <;> omega
theorem xMaxA_ok {a b : xI} {x y : Int32} (hx : xIn a x.toInt) (hy : xIn b y.toInt) : xIn (xMaxA a b) (if x < y then y else x).toInt := by
  obtain ⟨x1, x2⟩ := hx
  obtain ⟨y1, y2⟩ := hy
  have e : (if x < y then y else x).toInt = if x.toInt < y.toInt then y.toInt else x.toInt := by
    by_cases h : x.toInt < y.toInt
    · rw [if_pos (Int32.lt_iff_toInt_lt.mpr h), if_pos h]
    · rw [if_neg (fun z => h (Int32.lt_iff_toInt_lt.mp z)), if_neg h]
  rw [e]
  unfold xMaxA xIn
  by_cases h1 : a.1 ≤ b.1 <;> by_cases h2 : a.2 ≤ b.2 <;> simp only [h1, h2, decide_true, decide_false, cond_true, cond_false] <;> split <;> constructor <;> omega

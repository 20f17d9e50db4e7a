/-! arithmetic over intervals that aren't single numbers -/
def yNn (a : xI) : Bool := decide (0 ≤ a.1)
def yMu (a b : xI) : Option xI := bif yNn a && yNn b && xInR (a.2 * b.2) then some (a.1 * b.1, a.2 * b.2) else none
def yDv (a b : xI) : Option xI := bif yNn a && decide (0 < b.1) then some (Int.ofNat 0, a.2) else none
def yRm (a b : xI) : Option xI := bif yNn a && decide (0 < b.1) then some (Int.ofNat 0, min a.2 (b.2 - 1)) else none
def yLa (a b : xI) : Option xI := bif yNn b then some (Int.ofNat 0, b.2) else bif yNn a then some (Int.ofNat 0, a.2) else none
theorem yMu_ok {a b r : xI} {x y : Int32} (h : yMu a b = some r) (hx : xIn a x.toInt) (hy : xIn b y.toInt) : xIn r (x * y).toInt := by
  unfold yMu at h
  by_cases hc : (yNn a && yNn b && xInR (a.2 * b.2)) = true
  · rw [hc, cond_true] at h
    cases h
    simp only [yNn, Bool.and_eq_true, decide_eq_true_eq] at hc
    obtain ⟨⟨h1, h2⟩, h3⟩ := hc
    have r2 := xInR_ok h3
    obtain ⟨x1, x2⟩ := hx
    obtain ⟨y1, y2⟩ := hy
    have l1 : a.1 * b.1 ≤ x.toInt * y.toInt := Int.mul_le_mul x1 y1 h2 (by omega)
    have l2 : x.toInt * y.toInt ≤ a.2 * b.2 := Int.mul_le_mul x2 y2 (by omega) (by omega)
    have l3 : 0 ≤ a.1 * b.1 := Int.mul_nonneg h1 h2
    rw [Int32.toInt_mul, xbm (by omega) (by omega)]
    exact ⟨l1, l2⟩
  · rw [show (yNn a && yNn b && xInR (a.2 * b.2)) = false by simpa using hc, cond_false] at h
    cases h
theorem yDivE {x y : Int32} (hx : 0 ≤ x.toInt) (hy : 0 < y.toInt) : (x / y).toInt = x.toInt / y.toInt := by
  have hr := xI32 x
  have e1 : x.toInt.tdiv y.toInt = x.toInt / y.toInt := Int.tdiv_eq_ediv_of_nonneg hx
  have e2 : 0 ≤ x.toInt / y.toInt := Int.ediv_nonneg hx (by omega)
  have e3 : x.toInt / y.toInt ≤ x.toInt := Int.ediv_le_self _ hx
  rw [Int32.toInt_div, e1, xbm (by omega) (by omega)]
theorem yDv_ok {a b r : xI} {x y : Int32} (h : yDv a b = some r) (hx : xIn a x.toInt) (hy : xIn b y.toInt) : xIn r (x / y).toInt := by
  unfold yDv at h
  by_cases hc : (yNn a && decide (0 < b.1)) = true
  · rw [hc, cond_true] at h
    cases h
    simp only [yNn, Bool.and_eq_true, decide_eq_true_eq] at hc
    obtain ⟨x1, x2⟩ := hx
    obtain ⟨y1, y2⟩ := hy
    have h0 : 0 ≤ x.toInt := by omega
    rw [yDivE h0 (by omega)]
    have e3 : x.toInt / y.toInt ≤ x.toInt := Int.ediv_le_self _ h0
    exact ⟨Int.ediv_nonneg h0 (by omega), by show x.toInt / y.toInt ≤ a.2; omega⟩
  · rw [show (yNn a && decide (0 < b.1)) = false by simpa using hc, cond_false] at h
    cases h
theorem yRm_ok {a b r : xI} {x y : Int32} (h : yRm a b = some r) (hx : xIn a x.toInt) (hy : xIn b y.toInt) : xIn r (x - x / y * y).toInt := by
  unfold yRm at h
  by_cases hc : (yNn a && decide (0 < b.1)) = true
  · rw [hc, cond_true] at h
    cases h
    simp only [yNn, Bool.and_eq_true, decide_eq_true_eq] at hc
    obtain ⟨x1, x2⟩ := hx
    obtain ⟨y1, y2⟩ := hy
    have hr := xI32 x
    have h0 : 0 ≤ x.toInt := by omega
    have hy0 : 0 < y.toInt := by omega
    have e2 : 0 ≤ x.toInt / y.toInt := Int.ediv_nonneg h0 (by omega)
    have e4 : x.toInt / y.toInt * y.toInt ≤ x.toInt := Int.ediv_mul_le _ (by omega)
    have e5 : 0 ≤ x.toInt / y.toInt * y.toInt := Int.mul_nonneg e2 (by omega)
    have m1 : (x / y * y).toInt = x.toInt / y.toInt * y.toInt := by
      rw [Int32.toInt_mul, yDivE h0 hy0, xbm (by omega) (by omega)]
    have e6 := Int.emod_def x.toInt y.toInt
    have e7 : y.toInt * (x.toInt / y.toInt) = x.toInt / y.toInt * y.toInt := Int.mul_comm _ _
    have e8 : 0 ≤ x.toInt % y.toInt := Int.emod_nonneg _ (by omega)
    have e9 : x.toInt % y.toInt < y.toInt := Int.emod_lt_of_pos _ hy0
    rw [Int32.toInt_sub, m1, xbm (by omega) (by omega)]
    constructor
    · show (0 : Int) ≤ _; omega
    · show _ ≤ min a.2 (b.2 - 1); omega
  · rw [show (yNn a && decide (0 < b.1)) = false by simpa using hc, cond_false] at h
    cases h
theorem yBvAnd (x y : BitVec 32) (hy : 0 ≤ y.toInt) : 0 ≤ (x &&& y).toInt ∧ (x &&& y).toInt ≤ y.toInt := by
  have h1 : (x &&& y).toNat ≤ y.toNat := by
    rw [BitVec.toNat_and]
    exact Nat.and_le_right
  have hy1 : 2 * y.toNat < 2 ^ 32 := by
    rw [BitVec.toInt_eq_toNat_cond] at hy
    by_cases hc : 2 * y.toNat < 2 ^ 32
    · exact hc
    · rw [if_neg hc] at hy
      have := y.isLt
      omega
  have e1 : y.toInt = (y.toNat : Int) := by rw [BitVec.toInt_eq_toNat_cond, if_pos hy1]
  have e2 : (x &&& y).toInt = ((x &&& y).toNat : Int) := by rw [BitVec.toInt_eq_toNat_cond, if_pos (by omega)]
  omega
theorem yLa_ok {a b r : xI} {x y : Int32} (h : yLa a b = some r) (hx : xIn a x.toInt) (hy : xIn b y.toInt) : xIn r (x &&& y).toInt := by
  unfold yLa at h
  obtain ⟨x1, x2⟩ := hx
  obtain ⟨y1, y2⟩ := hy
  by_cases hc : yNn b = true
  · rw [hc, cond_true] at h
    cases h
    simp only [yNn, decide_eq_true_eq] at hc
    obtain ⟨g1, g2⟩ := yBvAnd x.toBitVec y.toBitVec (show 0 ≤ y.toInt by omega)
    exact ⟨g1, Int.le_trans g2 y2⟩
  · rw [show yNn b = false by simpa using hc, cond_false] at h
    by_cases hd : yNn a = true
    · rw [hd, cond_true] at h
      cases h
      simp only [yNn, decide_eq_true_eq] at hd
      obtain ⟨g1, g2⟩ := yBvAnd y.toBitVec x.toBitVec (show 0 ≤ x.toInt by omega)
      have e : (x &&& y) = (y &&& x) := Int32.and_comm _ _
      rw [e]
      exact ⟨g1, Int.le_trans g2 x2⟩
    · rw [show yNn a = false by simpa using hd, cond_false] at h
      cases h
/-! rows of bits -/
def yRg (a : xI) : Bool := decide (a.2 < a.1) && decide (a.1 < 5000)
def yRj (a b : xI) : Option xI := bif yRg a && yRg b then some (max a.1 b.1, min a.2 b.2) else bif yRg a && (decide (b.1 = 0) && decide (b.2 = 0)) then some a else bif yRg b && (decide (a.1 = 0) && decide (a.2 = 0)) then some b else none
theorem yRg_lt {a : xI} (h : yRg a = true) : a.2 < a.1 ∧ a.1 < 5000 := by
  unfold yRg at h
  rw [Bool.and_eq_true, decide_eq_true_eq, decide_eq_true_eq] at h
  exact h
theorem yRg_ok {a : xI} {x : Int64} (h : yRg a = true) (g : xInL a x) : xBits a.2 (a.1 - 1000) x := by
  have h := yRg_lt h
  unfold xInL at g
  rw [if_neg (by omega), if_neg (by omega)] at g
  exact g
theorem yBits_in {a : xI} {x : Int64} (h : a.2 < a.1) (h5 : a.1 < 5000) (g : xBits a.2 (a.1 - 1000) x) : xInL a x := by
  unfold xInL
  rw [if_neg (by omega), if_neg (by omega)]
  exact g
theorem yBits_or {a b c d : Int} {x y : Int64} (h1 : xBits a b x) (h2 : xBits c d y) : xBits (min a c) (max b d) (x ||| y) := by
  intro k hk hb
  have e : (x ||| y).toBitVec = x.toBitVec ||| y.toBitVec := Int64.toBitVec_or x y
  rw [e, BitVec.getLsbD_or, Bool.or_eq_true] at hb
  rcases hb with hb | hb
  · obtain ⟨q1, q2⟩ := h1 k hk hb
    constructor <;> omega
  · obtain ⟨q1, q2⟩ := h2 k hk hb
    constructor <;> omega
theorem yZero64 {x : Int64} {a : xI} (h1 : a.1 = 0) (h2 : a.2 = 0) (g : xInL a x) : x = 0 := by
  unfold xInL at g
  rw [if_pos (by omega)] at g
  obtain ⟨g1, g2⟩ := g
  apply Int64.toInt_inj.mp
  have : (0 : Int64).toInt = 0 := rfl
  omega
theorem yRj_ok {a b r : xI} {x y : Int64} (h : yRj a b = some r) (hx : xInL a x) (hy : xInL b y) : xInL r (x ||| y) := by
  unfold yRj at h
  by_cases h1 : (yRg a && yRg b) = true
  · rw [h1, cond_true] at h
    cases h
    rw [Bool.and_eq_true] at h1
    have q1 := yRg_lt h1.1
    have q2 := yRg_lt h1.2
    have := yBits_or (yRg_ok h1.1 hx) (yRg_ok h1.2 hy)
    refine yBits_in (show min a.2 b.2 < max a.1 b.1 by omega) (show max a.1 b.1 < 5000 by omega) ?_
    intro k hk hb
    obtain ⟨z1, z2⟩ := this k hk hb
    show min a.2 b.2 ≤ (k : Int) ∧ (k : Int) ≤ max a.1 b.1 - 1000
    constructor <;> omega
  · rw [show (yRg a && yRg b) = false by simpa using h1, cond_false] at h
    by_cases h2 : (yRg a && (decide (b.1 = 0) && decide (b.2 = 0))) = true
    · rw [h2, cond_true] at h
      cases h
      simp only [Bool.and_eq_true, decide_eq_true_eq] at h2
      have e := yZero64 h2.2.1 h2.2.2 hy
      subst e
      rw [show x ||| 0 = x from Int64.or_zero]
      exact hx
    · rw [show (yRg a && (decide (b.1 = 0) && decide (b.2 = 0))) = false by simpa using h2, cond_false] at h
      by_cases h3 : (yRg b && (decide (a.1 = 0) && decide (a.2 = 0))) = true
      · rw [h3, cond_true] at h
        cases h
        simp only [Bool.and_eq_true, decide_eq_true_eq] at h3
        have e := yZero64 h3.2.1 h3.2.2 hx
        subst e
        rw [show 0 ||| y = y from Int64.zero_or]
        exact hy
      · rw [show (yRg b && (decide (a.1 = 0) && decide (a.2 = 0))) = false by simpa using h3, cond_false] at h
        cases h
theorem yOfK {y : Int32} (h0 : 0 ≤ y.toInt) (h1 : y.toInt ≤ 63) : ∃ k : Fin 64, y = Int32.ofNat k.val ∧ y.toInt = (k.val : Int) := by
  refine ⟨⟨y.toInt.toNat, by omega⟩, ?_, by show y.toInt = (y.toInt.toNat : Int); omega⟩
  apply Int32.toInt_inj.mp
  rw [xOfN (by show y.toInt.toNat < 1000; omega)]
  show y.toInt = (y.toInt.toNat : Int)
  omega
theorem yOne {y : Int32} {lo hi : Int} (h0 : 0 ≤ lo) (h1 : hi ≤ 63) (hy : xIn (lo, hi) y.toInt) : xBits lo hi ((1 : Int64) <<< (y.toInt64 &&& 63)) := by
  obtain ⟨y1, y2⟩ := hy
  dsimp only at y1 y2
  obtain ⟨k, rfl, e⟩ := yOfK (y := y) (by omega) (by omega)
  have key : ∀ k j : Fin 64, ((1 : Int64) <<< ((Int32.ofNat k.val).toInt64 &&& 63)).toBitVec.getLsbD j.val = true → j.val = k.val := by decide +kernel
  intro j hj hb
  have := key k ⟨j, hj⟩ hb
  dsimp only at this
  constructor <;> omega
def yPu (ins : Instr) (st : List xV) : Option (List xV) := match ins, st with
  | .imul, .inl b :: .inl a :: st => (match yMu a b with
    | some r => some (.inl r :: st)
    | none => none)
  | .idiv, .inl b :: .inl a :: st => bif xK a && xK b then none else (match yDv a b with
    | some r => some (.inl r :: st)
    | none => none)
  | .irem, .inl b :: .inl a :: st => bif xK a && xK b then none else (match yRm a b with
    | some r => some (.inl r :: st)
    | none => none)
  | .iand, .inl b :: .inl a :: st => bif xK a && xK b then none else (match yLa a b with
    | some r => some (.inl r :: st)
    | none => none)
  | .lor, .inr (.inl b) :: .inr (.inl a) :: st => (match yRj a b with
    | some r => some (.inr (.inl r) :: st)
    | none => none)
  | .lshl, .inl b :: .inr (.inl a) :: st => bif (decide (a.1 = 1) && decide (a.2 = 1)) && ((decide (0 ≤ b.1) && decide (b.1 ≤ b.2)) && decide (b.2 ≤ 63)) then some (.inr (.inl (b.2 + 1000, b.1)) :: st) else none
  | .ldiv, .inr (.inl b) :: .inr (.inl _) :: st => bif decide (b.1 = 5000) && decide (b.2 < b.1) then some (.inr (.inl xTopL) :: st) else none
  | .lrem, .inr (.inl b) :: .inr (.inl _) :: st => bif decide (b.1 = 5000) && decide (b.2 < b.1) then some (.inr (.inl xTopL) :: st) else none
  | .i2c, .inl a :: st => some (.inl (bif xK a && (decide (0 ≤ a.1) && decide (a.1 ≤ 65535)) then a else (Int.ofNat 0, Int.ofNat 65535)) :: st)
  | _, _ => none
theorem yTopL (x : Int64) : xInL xTopL x := xInL_of (xTopL_ok x)
theorem yNz {b : xI} {y : Int64} (h1 : b.1 = 5000) (h2 : b.2 < b.1) (g : xInL b y) : ¬ y = 0 := by
  unfold xInL at g
  rw [if_neg (by omega), if_pos h1] at g
  exact g
theorem yChr (x : Int32) : 0 ≤ (x.toUInt32 % 65536).toInt32.toInt ∧ (x.toUInt32 % 65536).toInt32.toInt ≤ 65535 ∧ (0 ≤ x.toInt → x.toInt ≤ 65535 → (x.toUInt32 % 65536).toInt32 = x) := by
  have h1 : (x.toUInt32 % 65536).toNat = x.toUInt32.toNat % 65536 := by rw [UInt32.toNat_mod]; rfl
  have h2 : (x.toUInt32 % 65536).toInt32.toInt = ((x.toUInt32.toNat % 65536 : Nat) : Int) := by
    have e : (x.toUInt32 % 65536).toInt32.toInt = (x.toUInt32 % 65536).toBitVec.toInt := rfl
    rw [e, BitVec.toInt_eq_toNat_of_lt]
    · show (((x.toUInt32 % 65536).toNat : Nat) : Int) = _
      rw [h1]
    · show 2 * (x.toUInt32 % 65536).toNat < 2 ^ 32
      rw [h1]
      omega
  refine ⟨by rw [h2]; omega, by rw [h2]; omega, fun h3 h4 => ?_⟩
  apply Int32.toInt_inj.mp
  rw [h2]
  have e : x.toInt = x.toUInt32.toBitVec.toInt := rfl
  have e2 : x.toUInt32.toBitVec.toNat = x.toUInt32.toNat := rfl
  rw [e] at h3 h4 ⊢
  rw [BitVec.toInt_eq_toNat_cond] at h3 h4 ⊢
  rw [e2] at h3 h4 ⊢
  have h5 := x.toUInt32.toNat_lt
  split at h3 <;> split at h4 <;> omega
section YAR
variable {p : Program} {l : Launch} {e : Env} {R : Room} {s : State} {m : MethodId} {args : Array Value} {below : List Frame} {meth : Method} {c : Code} {H : Heap} {locs : List Loc} {cells slots : Nat} {Q : State → Prop}
variable {cc : ByteArray} {pc : Nat} {ls : Array Slot}
theorem yPosNz {b : xI} {y : Int32} (hb : 0 < b.1) (hy : xIn b y.toInt) : ¬ y = 0 := by
  rintro rfl
  have e : (0 : Int32).toInt = 0 := rfl
  obtain ⟨g1, g2⟩ := hy
  omega
theorem yDv_pos {a b r : xI} (h : yDv a b = some r) : 0 < b.1 := by
  unfold yDv at h
  by_cases hc : (yNn a && decide (0 < b.1)) = true
  · simp only [Bool.and_eq_true, decide_eq_true_eq] at hc
    exact hc.2
  · rw [show (yNn a && decide (0 < b.1)) = false by simpa using hc, cond_false] at h
    cases h
theorem yRm_pos {a b r : xI} (h : yRm a b = some r) : 0 < b.1 := by
  unfold yRm at h
  by_cases hc : (yNn a && decide (0 < b.1)) = true
  · simp only [Bool.and_eq_true, decide_eq_true_eq] at hc
    exact hc.2
  · rw [show (yNn a && decide (0 < b.1)) = false by simpa using hc, cond_false] at h
    cases h
theorem yPu_ok {η : Nat → Int32} {ad : Nat → Nat} {N : Nat} (hx : p.tables.exec = Jvm.exec) (hb : c.code = cc) {ins : Instr} {len : Nat} (hdg : decode cc pc = .ok (ins, len)) (hlen : xLen ins = 0 ∨ xLen ins = len) {st st' : List xV} {sC : List Value} (h : yPu ins st = some st') (hs : xAll (xOk η ad N) st sC) (k : ∀ sC', xAll (xOk η ad N) st' sC' → W p l e R s m args below meth c H locs cells slots Q (F0 m (pc + len) ls sC')) : W p l e R s m args below meth c H locs cells slots Q (F0 m pc ls sC) := by
  unfold yPu at h
  split at h
  · rename_i b a t
    obtain rfl := xl_of hlen (by simp [xLen])
    obtain ⟨w, v, tC, rfl, gb, ga, gt⟩ := xSt2 hs
    obtain ⟨y, rfl, gy⟩ := gb
    obtain ⟨x, rfl, gx⟩ := ga
    split at h
    · rename_i r hr
      cases h
      exact lv_imul hx hb hdg (k _ ⟨⟨_, rfl, yMu_ok hr gx gy⟩, gt⟩)
    · cases h
  · rename_i b a t
    obtain rfl := xl_of hlen (by simp [xLen])
    obtain ⟨w, v, tC, rfl, gb, ga, gt⟩ := xSt2 hs
    obtain ⟨y, rfl, gy⟩ := gb
    obtain ⟨x, rfl, gx⟩ := ga
    by_cases hk : (xK a && xK b) = true
    · rw [hk, cond_true] at h; cases h
    rw [show (xK a && xK b) = false by simpa using hk, cond_false] at h
    split at h
    · rename_i r hr
      cases h
      exact lv_idiv hx hb hdg (yPosNz (yDv_pos hr) gy) (k _ ⟨⟨_, rfl, yDv_ok hr gx gy⟩, gt⟩)
    · cases h
  · rename_i b a t
    obtain rfl := xl_of hlen (by simp [xLen])
    obtain ⟨w, v, tC, rfl, gb, ga, gt⟩ := xSt2 hs
    obtain ⟨y, rfl, gy⟩ := gb
    obtain ⟨x, rfl, gx⟩ := ga
    by_cases hk : (xK a && xK b) = true
    · rw [hk, cond_true] at h; cases h
    rw [show (xK a && xK b) = false by simpa using hk, cond_false] at h
    split at h
    · rename_i r hr
      cases h
      exact lv_irem hx hb hdg (yPosNz (yRm_pos hr) gy) (k _ ⟨⟨_, rfl, yRm_ok hr gx gy⟩, gt⟩)
    · cases h
  · rename_i b a t
    obtain rfl := xl_of hlen (by simp [xLen])
    obtain ⟨w, v, tC, rfl, gb, ga, gt⟩ := xSt2 hs
    obtain ⟨y, rfl, gy⟩ := gb
    obtain ⟨x, rfl, gx⟩ := ga
    by_cases hk : (xK a && xK b) = true
    · rw [hk, cond_true] at h; cases h
    rw [show (xK a && xK b) = false by simpa using hk, cond_false] at h
    split at h
    · rename_i r hr
      cases h
      exact lv_iand hx hb hdg (k _ ⟨⟨_, rfl, yLa_ok hr gx gy⟩, gt⟩)
    · cases h
  · rename_i b a t
    obtain rfl := xl_of hlen (by simp [xLen])
    obtain ⟨w, v, tC, rfl, gb, ga, gt⟩ := xSt2 hs
    obtain ⟨y, rfl, gy⟩ := gb
    obtain ⟨x, rfl, gx⟩ := ga
    split at h
    · rename_i r hr
      cases h
      exact lv_lor hx hb hdg (k _ ⟨⟨_, rfl, yRj_ok hr gx gy⟩, gt⟩)
    · cases h
  · rename_i b a t
    obtain rfl := xl_of hlen (by simp [xLen])
    obtain ⟨w, v, tC, rfl, gb, ga, gt⟩ := xSt2 hs
    obtain ⟨y, rfl, gy⟩ := gb
    obtain ⟨x, rfl, gx⟩ := ga
    by_cases hc : ((decide (a.1 = 1) && decide (a.2 = 1)) && ((decide (0 ≤ b.1) && decide (b.1 ≤ b.2)) && decide (b.2 ≤ 63))) = true
    · rw [hc, cond_true] at h
      cases h
      simp only [Bool.and_eq_true, decide_eq_true_eq] at hc
      obtain ⟨⟨q1, q2⟩, ⟨q3, q4⟩, q5⟩ := hc
      have e : x = 1 := by
        unfold xInL at gx
        rw [if_pos (by omega)] at gx
        obtain ⟨g1, g2⟩ := gx
        apply Int64.toInt_inj.mp
        have : (1 : Int64).toInt = 1 := rfl
        omega
      subst e
      refine lv_lshl hx hb hdg rfl (k _ ⟨⟨_, rfl, yBits_in (by show b.1 < b.2 + 1000; omega) (by show b.2 + 1000 < 5000; omega) ?_⟩, gt⟩)
      show xBits b.1 (b.2 + 1000 - 1000) _
      rw [show b.2 + 1000 - 1000 = b.2 by omega]
      exact yOne q3 q5 gy
    · rw [show ((decide (a.1 = 1) && decide (a.2 = 1)) && ((decide (0 ≤ b.1) && decide (b.1 ≤ b.2)) && decide (b.2 ≤ 63))) = false by simpa using hc, cond_false] at h
      cases h
  · rename_i b a t
    obtain rfl := xl_of hlen (by simp [xLen])
    obtain ⟨w, v, tC, rfl, gb, ga, gt⟩ := xSt2 hs
    obtain ⟨y, rfl, gy⟩ := gb
    obtain ⟨x, rfl, gx⟩ := ga
    by_cases hc : (decide (b.1 = 5000) && decide (b.2 < b.1)) = true
    · rw [hc, cond_true] at h
      cases h
      rw [Bool.and_eq_true, decide_eq_true_eq, decide_eq_true_eq] at hc
      exact lv_ldiv hx hb hdg (yNz hc.1 hc.2 gy) (k _ ⟨⟨_, rfl, yTopL _⟩, gt⟩)
    · rw [show (decide (b.1 = 5000) && decide (b.2 < b.1)) = false by simpa using hc, cond_false] at h
      cases h
  · rename_i b a t
    obtain rfl := xl_of hlen (by simp [xLen])
    obtain ⟨w, v, tC, rfl, gb, ga, gt⟩ := xSt2 hs
    obtain ⟨y, rfl, gy⟩ := gb
    obtain ⟨x, rfl, gx⟩ := ga
    by_cases hc : (decide (b.1 = 5000) && decide (b.2 < b.1)) = true
    · rw [hc, cond_true] at h
      cases h
      rw [Bool.and_eq_true, decide_eq_true_eq, decide_eq_true_eq] at hc
      exact lv_lrem hx hb hdg (yNz hc.1 hc.2 gy) (k _ ⟨⟨_, rfl, yTopL _⟩, gt⟩)
    · rw [show (decide (b.1 = 5000) && decide (b.2 < b.1)) = false by simpa using hc, cond_false] at h
      cases h
  · rename_i a t
    obtain rfl := xl_of hlen (by simp [xLen])
    obtain ⟨v, tC, rfl, ga, gt⟩ := xSt1 hs
    obtain ⟨x, rfl, gx⟩ := ga
    cases h
    obtain ⟨c1, c2, c3⟩ := yChr x
    refine lv_i2c hx hb hdg rfl (k _ ⟨⟨_, rfl, ?_⟩, gt⟩)
    by_cases hc : (xK a && (decide (0 ≤ a.1) && decide (a.1 ≤ 65535))) = true
    · rw [hc, cond_true]
      simp only [Bool.and_eq_true, decide_eq_true_eq] at hc
      have e1 : a.1 = a.2 := by simpa [xK] using hc.1
      obtain ⟨g1, g2⟩ := gx
      rw [c3 (by omega) (by omega)]
      exact ⟨g1, g2⟩
    · rw [show (xK a && (decide (0 ≤ a.1) && decide (a.1 ≤ 65535))) = false by simpa using hc, cond_false]
      exact ⟨c1, c2⟩
  · cases h
end YAR

/-! the stack alone -/
def xIsI : xV → Bool
  | .inl _ => true
  | .inr (.inr (.inr _)) => true
  | _ => false
theorem xIsI_ok {η : Nat → Int32} {ad : Nat → Nat} {N : Nat} {a : xV} {v : Value} (h : xIsI a = true) (g : xOk η ad N a v) : ∃ x : Int32, v = .int x := by
  unfold xIsI at h
  split at h
  · obtain ⟨x, rfl, -⟩ := g; exact ⟨x, rfl⟩
  · exact ⟨_, g⟩
  · cases h
def xLen : Instr → Nat
  | .bipush _ => 2
  | .sipush _ => 3
  | .iload _ => 2
  | .lload _ => 2
  | .aload _ => 2
  | .istore _ => 2
  | .lstore _ => 2
  | .astore _ => 2
  | .iinc _ _ => 3
  | .if_icmp _ _ => 3
  | .ifCond _ _ => 3
  | .ifnull _ => 3
  | .ifnonnull _ => 3
  | .goto _ => 3
  | .getfield _ => 3
  | .putfield _ => 3
  | .invokevirtual _ => 3
  | .invokestatic _ => 3
  | .invokespecial _ => 3
  | .new _ => 3
  | .newarray _ => 2
  | .anewarray _ => 3
  | .ldc _ => 2
  | .ldc_w _ => 3
  | .ldc2_w _ => 3
  | .tableswitch _ _ _ _ => 0
  | .lookupswitch _ _ => 0
  | _ => 1
def xP2 (g : xV → xV → Option xV) : List xV → Option (List xV)
  | b :: a :: st => match g a b with
    | some r => some (r :: st)
    | none => none
  | _ => none
def xP1 (g : xV → Option xV) : List xV → Option (List xV)
  | a :: st => match g a with
    | some r => some (r :: st)
    | none => none
  | _ => none
theorem xP2_ok {η : Nat → Int32} {ad : Nat → Nat} {N : Nat} {g : xV → xV → Option xV} {st st' : List xV} {sC : List Value} (h : xP2 g st = some st') (hs : xAll (xOk η ad N) st sC) : ∃ (a b r : xV) (x y : Value) (t : List xV) (tC : List Value), sC = y :: x :: tC ∧ st' = r :: t ∧ g a b = some r ∧ xOk η ad N a x ∧ xOk η ad N b y ∧ xAll (xOk η ad N) t tC := by
  unfold xP2 at h
  split at h
  · rename_i b a t
    match sC, hs with
    | [], q => exact q.elim
    | [_], q => exact q.2.elim
    | y :: x :: tC, q =>
      split at h
      · rename_i r hr
        cases h
        exact ⟨a, b, r, x, y, t, tC, rfl, rfl, hr, q.2.1, q.1, q.2.2⟩
      · cases h
  · cases h
theorem xP1_ok {η : Nat → Int32} {ad : Nat → Nat} {N : Nat} {g : xV → Option xV} {st st' : List xV} {sC : List Value} (h : xP1 g st = some st') (hs : xAll (xOk η ad N) st sC) : ∃ (a r : xV) (x : Value) (t : List xV) (tC : List Value), sC = x :: tC ∧ st' = r :: t ∧ g a = some r ∧ xOk η ad N a x ∧ xAll (xOk η ad N) t tC := by
  unfold xP1 at h
  split at h
  · rename_i a t
    match sC, hs with
    | [], q => exact q.elim
    | x :: tC, q =>
      split at h
      · rename_i r hr
        cases h
        exact ⟨a, r, x, t, tC, rfl, rfl, hr, q.1, q.2⟩
      · cases h
  · cases h
def xGI (f : xI → xI → Option xI) (a b : xV) : Option xV := match a, b with
  | .inl i, .inl j => match f i j with
    | some r => some (.inl r)
    | none => none
  | _, _ => none
def xGL (f : xI → xI → Option xI) (a b : xV) : Option xV := match a, b with
  | .inr (.inl i), .inr (.inl j) => match f (xNL i) (xNL j) with
    | some r => some (.inr (.inl r))
    | none => none
  | _, _ => none
def xGS (f : xI → xI → xI) (a b : xV) : Option xV := match a, b with
  | .inr (.inl i), .inl j => some (.inr (.inl (f (xNL i) j)))
  | _, _ => none
def xNz (a : xI) : Bool := decide (0 < a.1) || decide (a.2 < 0)
def xPure (ts : List xT) (ins : Instr) (st : List xV) : Option (List xV) := match ins with
  | .iconst n => bif xInR n then some (.inl (n, n) :: st) else none
  | .bipush n => bif decide (-128 ≤ n) && decide (n ≤ 127) then some (.inl (n, n) :: st) else none
  | .sipush n => bif decide (-32768 ≤ n) && decide (n ≤ 32767) then some (.inl (n, n) :: st) else none
  | .lconst k => some (.inr (.inl (Int.ofNat k.val, Int.ofNat k.val)) :: st)
  | .aconst_null => some (.inr (.inr (.inl none)) :: st)
  | .idiv => xP2 (xGI (fun a b => bif xNz b then some (xC2 (fun x y => x / y) a b) else none)) st
  | .irem => xP2 (xGI (fun a b => bif xNz b then some (xC2 (fun x y => x - x / y * y) a b) else none)) st
  | .ldiv => xP2 (xGL (fun a b => bif xNz b then some (xCL (fun x y => x / y) a b) else none)) st
  | .lrem => xP2 (xGL (fun a b => bif xNz b then some (xCL (fun x y => x - x / y * y) a b) else none)) st
  | .ineg => xP1 (fun a => match a with | .inl i => some (.inl (xC1 (fun x => -x) i)) | _ => none) st
  | .i2l => xP1 (fun a => match a with | .inl i => some (.inr (.inl i)) | _ => none) st
  | .l2i => xP1 (fun a => match a with | .inr (.inl i) => some (.inl (bif xK (xNL i) then (fun r : Int => (r, r)) (Int64.ofInt (xNL i).1).toInt32.toInt else xTop)) | _ => none) st
  | .i2b => xP1 (fun a => match a with | .inl i => some (.inl (bif xK i then xC1 (fun x => x.toInt8.toInt32) i else (Int.negSucc 127, Int.ofNat 127))) | a => bif xIsI a then xTf 6 a (.inl (Int.ofNat 0, Int.ofNat 0)) ts else none) st
  | .i2s => xP1 (fun a => match a with | .inl i => some (.inl (bif xK i then xC1 (fun x => x.toInt16.toInt32) i else (Int.negSucc 32767, Int.ofNat 32767))) | a => bif xIsI a then xTf 7 a (.inl (Int.ofNat 0, Int.ofNat 0)) ts else none) st
  | .lcmp => xP2 (fun a b => match a, b with | .inr (.inl i), .inr (.inl j) => some (.inl (xCmpL (xNL i) (xNL j))) | _, _ => none) st
  | .dup => match st with
    | a :: st => bif xcat a == 1 then some (a :: a :: st) else none
    | _ => none
  | .pop => match st with
    | a :: st => bif xcat a == 1 then some st else none
    | _ => none
  | .dup_x1 => match st with
    | a :: b :: st => bif xcat a == 1 && xcat b == 1 then some (a :: b :: a :: st) else none
    | _ => none
  | .dup2 => match st with
    | a :: st => bif xcat a == 2 then some (a :: a :: st) else match st with
      | b :: st => bif xcat a == 1 && xcat b == 1 then some (a :: b :: a :: b :: st) else none
      | _ => none
    | _ => none
  | ins => match xBF ins with
    | some f => xP2 (fun a b => bif xIsI a && xIsI b then xB ts ins f a b else none) st
    | none => match xLF ins with
      | some f => xP2 (xGL (fun a b => some (xCL f a b))) st
      | none => match xLS ins with
        | some f => xP2 (xGS (xCS f)) st
        | none => none
theorem xNz_ok {a : xI} {x : Int32} (h : xNz a = true) (g : xIn a x.toInt) : ¬ x = 0 := by
  rintro rfl
  have e : (0 : Int32).toInt = 0 := rfl
  simp only [xNz, Bool.or_eq_true, decide_eq_true_eq] at h
  obtain ⟨g1, g2⟩ := g
  omega
theorem xNzL_ok {a : xI} {x : Int64} (h : xNz a = true) (g : xIn a x.toInt) : ¬ x = 0 := by
  rintro rfl
  have e : (0 : Int64).toInt = 0 := rfl
  simp only [xNz, Bool.or_eq_true, decide_eq_true_eq] at h
  obtain ⟨g1, g2⟩ := g
  omega
theorem xGI_ok {η : Nat → Int32} {ad : Nat → Nat} {N : Nat} {f : xI → xI → Option xI} {a b r : xV} {v w : Value} (h : xGI f a b = some r) (ha : xOk η ad N a v) (hb : xOk η ad N b w) : ∃ (i j k : xI) (x y : Int32), v = .int x ∧ w = .int y ∧ xIn i x.toInt ∧ xIn j y.toInt ∧ f i j = some k ∧ r = .inl k := by
  unfold xGI at h
  split at h
  · split at h
    · rename_i k hk
      cases h
      obtain ⟨x, rfl, gx⟩ := ha
      obtain ⟨y, rfl, gy⟩ := hb
      exact ⟨_, _, k, x, y, rfl, rfl, gx, gy, hk, rfl⟩
    · cases h
  · cases h
theorem xGL_ok {η : Nat → Int32} {ad : Nat → Nat} {N : Nat} {f : xI → xI → Option xI} {a b r : xV} {v w : Value} (h : xGL f a b = some r) (ha : xOk η ad N a v) (hb : xOk η ad N b w) : ∃ (i j k : xI) (x y : Int64), v = .long x ∧ w = .long y ∧ xIn i x.toInt ∧ xIn j y.toInt ∧ f i j = some k ∧ r = .inr (.inl k) := by
  unfold xGL at h
  split at h
  · split at h
    · rename_i k hk
      cases h
      obtain ⟨x, rfl, gx⟩ := ha
      obtain ⟨y, rfl, gy⟩ := hb
      exact ⟨_, _, k, x, y, rfl, rfl, xNL_ok gx, xNL_ok gy, hk, rfl⟩
    · cases h
  · cases h
theorem xbm8 {a : Int} (h1 : -128 ≤ a) (h2 : a ≤ 127) : a.bmod (2 ^ 8) = a := by
  apply Int.bmod_eq_of_le
  · show -(256 / 2) ≤ a; omega
  · show a < (256 + 1) / 2; omega
theorem xbm16 {a : Int} (h1 : -32768 ≤ a) (h2 : a ≤ 32767) : a.bmod (2 ^ 16) = a := by
  apply Int.bmod_eq_of_le
  · show -(65536 / 2) ≤ a; omega
  · show a < (65536 + 1) / 2; omega
theorem xI8 (x : Int8) : -128 ≤ x.toInt ∧ x.toInt ≤ 127 := by
  have h1 := Int8.minValue_le_toInt x
  have h2 := Int8.toInt_le x
  have e1 : Int8.minValue.toInt = -128 := by decide
  have e2 : Int8.maxValue.toInt = 127 := by decide
  constructor <;> omega
theorem xI16 (x : Int16) : -32768 ≤ x.toInt ∧ x.toInt ≤ 32767 := by
  have h1 := Int16.minValue_le_toInt x
  have h2 := Int16.toInt_le x
  have e1 : Int16.minValue.toInt = -32768 := by decide
  have e2 : Int16.maxValue.toInt = 32767 := by decide
  constructor <;> omega
section XST
variable {p : Program} {l : Launch} {e : Env} {R : Room} {s : State} {m : MethodId} {args : Array Value} {below : List Frame} {meth : Method} {c : Code} {H : Heap} {locs : List Loc} {cells slots : Nat} {Q : State → Prop}
variable {cc : ByteArray} {pc : Nat} {ls : Array Slot} {rest : List Value}
theorem xBF_W (hx : p.tables.exec = Jvm.exec) (hb : c.code = cc) {ins : Instr} {f : Int32 → Int32 → Int32} (h : xBF ins = some f) {x y : Int32} (hdg : decode cc pc = .ok (ins, 1)) (k : W p l e R s m args below meth c H locs cells slots Q (F0 m (pc + 1) ls (.int (f x y) :: rest))) : W p l e R s m args below meth c H locs cells slots Q (F0 m pc ls (.int y :: .int x :: rest)) := by
  unfold xBF at h
  split at h <;> cases h
  · exact lv_iadd hx hb hdg k
  · exact lv_isub hx hb hdg k
  · exact lv_imul hx hb hdg k
  · exact lv_iand hx hb hdg k
  · exact lv_ior hx hb hdg k
  · exact lv_ixor hx hb hdg k
  · exact lv_ishl hx hb hdg k
  · exact lv_ishr hx hb hdg k
  · exact lv_iushr hx hb hdg rfl k
theorem xLF_W (hx : p.tables.exec = Jvm.exec) (hb : c.code = cc) {ins : Instr} {f : Int64 → Int64 → Int64} (h : xLF ins = some f) {x y : Int64} (hdg : decode cc pc = .ok (ins, 1)) (k : W p l e R s m args below meth c H locs cells slots Q (F0 m (pc + 1) ls (.long (f x y) :: rest))) : W p l e R s m args below meth c H locs cells slots Q (F0 m pc ls (.long y :: .long x :: rest)) := by
  unfold xLF at h
  split at h <;> cases h
  · exact lv_ladd hx hb hdg k
  · exact lv_lsub hx hb hdg k
  · exact lv_lmul hx hb hdg k
  · exact lv_land hx hb hdg k
  · exact lv_lor hx hb hdg k
  · exact lv_lxor hx hb hdg k
theorem xLS_W (hx : p.tables.exec = Jvm.exec) (hb : c.code = cc) {ins : Instr} {f : Int64 → Int32 → Int64} (h : xLS ins = some f) {x : Int64} {y : Int32} (hdg : decode cc pc = .ok (ins, 1)) (k : W p l e R s m args below meth c H locs cells slots Q (F0 m (pc + 1) ls (.long (f x y) :: rest))) : W p l e R s m args below meth c H locs cells slots Q (F0 m pc ls (.int y :: .long x :: rest)) := by
  unfold xLS at h
  split at h <;> cases h
  · exact lv_lshl hx hb hdg rfl k
  · exact lv_lshr hx hb hdg rfl k
  · exact lv_lushr hx hb hdg rfl k
theorem xBF_len {ins : Instr} {f : Int32 → Int32 → Int32} (h : xBF ins = some f) : xLen ins = 1 := by
  unfold xBF at h
  split at h <;> first | rfl | cases h
theorem xLF_len {ins : Instr} {f : Int64 → Int64 → Int64} (h : xLF ins = some f) : xLen ins = 1 := by
  unfold xLF at h
  split at h <;> first | rfl | cases h
theorem xLS_len {ins : Instr} {f : Int64 → Int32 → Int64} (h : xLS ins = some f) : xLen ins = 1 := by
  unfold xLS at h
  split at h <;> first | rfl | cases h
theorem xl_of {n len : Nat} (h : n = 0 ∨ n = len) (g : ¬ n = 0) : len = n := h.elim (fun z => absurd z g) Eq.symm
set_option maxHeartbeats 4000000 in
theorem xPure_ok {η : Nat → Int32} {ad : Nat → Nat} {N : Nat} {ts : List xT} (ht : xTok η ts) (hx : p.tables.exec = Jvm.exec) (hb : c.code = cc) {ins : Instr} {len : Nat} (hdg : decode cc pc = .ok (ins, len)) (hlen : xLen ins = 0 ∨ xLen ins = len) {st st' : List xV} {sC : List Value} (h : xPure ts ins st = some st') (hs : xAll (xOk η ad N) st sC) (k : ∀ sC', xAll (xOk η ad N) st' sC' → W p l e R s m args below meth c H locs cells slots Q (F0 m (pc + len) ls sC')) : W p l e R s m args below meth c H locs cells slots Q (F0 m pc ls sC) := by
  unfold xPure at h
  split at h
  · rename_i n
    obtain rfl := xl_of hlen (by simp [xLen])
    by_cases hn : xInR n = true
    · rw [hn, cond_true] at h; cases h
      have := xInR_ok hn
      exact lv_iconst hx hb hdg rfl (k _ ⟨⟨_, rfl, by rw [Int32.toInt_ofInt, xbm this.1 this.2]; exact ⟨Int.le_refl _, Int.le_refl _⟩⟩, hs⟩)
    · rw [show xInR n = false by simpa using hn, cond_false] at h; cases h
  · rename_i n
    obtain rfl := xl_of hlen (by simp [xLen])
    by_cases hn : (decide (-128 ≤ n) && decide (n ≤ 127)) = true
    · rw [hn, cond_true] at h; cases h
      simp only [Bool.and_eq_true, decide_eq_true_eq] at hn
      exact lv_bipush hx hb hdg rfl (k _ ⟨⟨_, rfl, by rw [Int8.toInt_toInt32, Int8.toInt_ofInt, xbm8 hn.1 hn.2]; exact ⟨Int.le_refl _, Int.le_refl _⟩⟩, hs⟩)
    · rw [show (decide (-128 ≤ n) && decide (n ≤ 127)) = false by simpa using hn, cond_false] at h; cases h
  · rename_i n
    obtain rfl := xl_of hlen (by simp [xLen])
    by_cases hn : (decide (-32768 ≤ n) && decide (n ≤ 32767)) = true
    · rw [hn, cond_true] at h; cases h
      simp only [Bool.and_eq_true, decide_eq_true_eq] at hn
      exact lv_sipush hx hb hdg rfl (k _ ⟨⟨_, rfl, by rw [Int16.toInt_toInt32, Int16.toInt_ofInt, xbm16 hn.1 hn.2]; exact ⟨Int.le_refl _, Int.le_refl _⟩⟩, hs⟩)
    · rw [show (decide (-32768 ≤ n) && decide (n ≤ 32767)) = false by simpa using hn, cond_false] at h; cases h
  · rename_i n
    obtain rfl := xl_of hlen (by simp [xLen])
    cases h
    refine lv_lconst hx hb hdg rfl (k _ ⟨⟨_, rfl, ?_⟩, hs⟩)
    have : (Int64.ofNat (n : Nat)).toInt = Int.ofNat n.val := by
      rcases n with ⟨n, hn⟩
      match n, hn with
      | 0, _ => rfl
      | 1, _ => rfl
    apply xInL_of
    rw [this]
    exact ⟨Int.le_refl _, Int.le_refl _⟩
  · obtain rfl := xl_of hlen (by simp [xLen])
    cases h
    exact lv_null hx hb hdg (k _ ⟨rfl, hs⟩)
  · obtain rfl := xl_of hlen (by simp [xLen])
    obtain ⟨a, b, r, x, y, t, tC, rfl, rfl, hg, ha, hb', hr⟩ := xP2_ok h hs
    obtain ⟨i, j, q, x, y, rfl, rfl, gx, gy, hf, rfl⟩ := xGI_ok hg ha hb'
    by_cases hz : xNz j = true
    · rw [hz, cond_true] at hf; cases hf
      exact lv_idiv hx hb hdg (xNz_ok hz gy) (k _ ⟨⟨_, rfl, xC2_ok (f := fun x y => x / y) gx gy⟩, hr⟩)
    · rw [show xNz j = false by simpa using hz, cond_false] at hf; cases hf
  · obtain rfl := xl_of hlen (by simp [xLen])
    obtain ⟨a, b, r, x, y, t, tC, rfl, rfl, hg, ha, hb', hr⟩ := xP2_ok h hs
    obtain ⟨i, j, q, x, y, rfl, rfl, gx, gy, hf, rfl⟩ := xGI_ok hg ha hb'
    by_cases hz : xNz j = true
    · rw [hz, cond_true] at hf; cases hf
      exact lv_irem hx hb hdg (xNz_ok hz gy) (k _ ⟨⟨_, rfl, xC2_ok (f := fun x y => x - x / y * y) gx gy⟩, hr⟩)
    · rw [show xNz j = false by simpa using hz, cond_false] at hf; cases hf
  · obtain rfl := xl_of hlen (by simp [xLen])
    obtain ⟨a, b, r, x, y, t, tC, rfl, rfl, hg, ha, hb', hr⟩ := xP2_ok h hs
    obtain ⟨i, j, q, x, y, rfl, rfl, gx, gy, hf, rfl⟩ := xGL_ok hg ha hb'
    by_cases hz : xNz j = true
    · rw [hz, cond_true] at hf; cases hf
      exact lv_ldiv hx hb hdg (xNzL_ok hz gy) (k _ ⟨⟨_, rfl, xInL_of (xCL_ok (f := fun x y => x / y) gx gy)⟩, hr⟩)
    · rw [show xNz j = false by simpa using hz, cond_false] at hf; cases hf
  · obtain rfl := xl_of hlen (by simp [xLen])
    obtain ⟨a, b, r, x, y, t, tC, rfl, rfl, hg, ha, hb', hr⟩ := xP2_ok h hs
    obtain ⟨i, j, q, x, y, rfl, rfl, gx, gy, hf, rfl⟩ := xGL_ok hg ha hb'
    by_cases hz : xNz j = true
    · rw [hz, cond_true] at hf; cases hf
      exact lv_lrem hx hb hdg (xNzL_ok hz gy) (k _ ⟨⟨_, rfl, xInL_of (xCL_ok (f := fun x y => x - x / y * y) gx gy)⟩, hr⟩)
    · rw [show xNz j = false by simpa using hz, cond_false] at hf; cases hf
  · obtain rfl := xl_of hlen (by simp [xLen])
    obtain ⟨a, r, x, t, tC, rfl, rfl, hg, ha, hr⟩ := xP1_ok h hs
    split at hg
    · cases hg
      obtain ⟨x, rfl, gx⟩ := ha
      exact lv_ineg hx hb hdg (k _ ⟨⟨_, rfl, xC1_ok (f := fun x => -x) gx⟩, hr⟩)
    · cases hg
  · obtain rfl := xl_of hlen (by simp [xLen])
    obtain ⟨a, r, x, t, tC, rfl, rfl, hg, ha, hr⟩ := xP1_ok h hs
    split at hg
    · cases hg
      obtain ⟨x, rfl, gx⟩ := ha
      exact lv_i2l hx hb hdg rfl (k _ ⟨⟨_, rfl, xInL_of (by rw [Int32.toInt_toInt64]; exact gx)⟩, hr⟩)
    · cases hg
  · obtain rfl := xl_of hlen (by simp [xLen])
    obtain ⟨a, r, x, t, tC, rfl, rfl, hg, ha, hr⟩ := xP1_ok h hs
    split at hg
    · cases hg
      obtain ⟨x, rfl, gx⟩ := ha
      refine lv_l2i hx hb hdg rfl (k _ ⟨⟨_, rfl, ?_⟩, hr⟩)
      rename_i i
      have gx := xNL_ok gx
      by_cases hk : xK (xNL i) = true
      · rw [hk, cond_true, xKL_ok hk gx]; exact ⟨Int.le_refl _, Int.le_refl _⟩
      · rw [show xK (xNL i) = false by simpa using hk, cond_false]; exact xTop_ok _
    · cases hg
  · obtain rfl := xl_of hlen (by simp [xLen])
    obtain ⟨a, r, x, t, tC, rfl, rfl, hg, ha, hr⟩ := xP1_ok h hs
    split at hg
    · cases hg
      obtain ⟨x, rfl, gx⟩ := ha
      refine lv_i2b hx hb hdg rfl (k _ ⟨⟨_, rfl, ?_⟩, hr⟩)
      rename_i i
      by_cases hk : xK i = true
      · rw [hk, cond_true]; exact xC1_ok (f := fun x => x.toInt8.toInt32) gx
      · rw [show xK i = false by simpa using hk, cond_false, Int8.toInt_toInt32]; exact xI8 _
    · by_cases hi : xIsI a = true
      · rw [hi, cond_true] at hg
        obtain ⟨x, rfl⟩ := xIsI_ok hi ha
        exact lv_i2b hx hb hdg rfl (k _ ⟨ht _ (xTf_ok hg) ad N x 0 ha ⟨0, rfl, Int.le_refl _, Int.le_refl _⟩, hr⟩)
      · rw [show xIsI a = false by simpa using hi, cond_false] at hg; cases hg
  · obtain rfl := xl_of hlen (by simp [xLen])
    obtain ⟨a, r, x, t, tC, rfl, rfl, hg, ha, hr⟩ := xP1_ok h hs
    split at hg
    · cases hg
      obtain ⟨x, rfl, gx⟩ := ha
      refine lv_i2s hx hb hdg rfl (k _ ⟨⟨_, rfl, ?_⟩, hr⟩)
      rename_i i
      by_cases hk : xK i = true
      · rw [hk, cond_true]; exact xC1_ok (f := fun x => x.toInt16.toInt32) gx
      · rw [show xK i = false by simpa using hk, cond_false, Int16.toInt_toInt32]; exact xI16 _
    · by_cases hi : xIsI a = true
      · rw [hi, cond_true] at hg
        obtain ⟨x, rfl⟩ := xIsI_ok hi ha
        exact lv_i2s hx hb hdg rfl (k _ ⟨ht _ (xTf_ok hg) ad N x 0 ha ⟨0, rfl, Int.le_refl _, Int.le_refl _⟩, hr⟩)
      · rw [show xIsI a = false by simpa using hi, cond_false] at hg; cases hg
  · obtain rfl := xl_of hlen (by simp [xLen])
    obtain ⟨a, b, r, x, y, t, tC, rfl, rfl, hg, ha, hb', hr⟩ := xP2_ok h hs
    split at hg
    · cases hg
      obtain ⟨x, rfl, gx⟩ := ha
      obtain ⟨y, rfl, gy⟩ := hb'
      exact W.lcmp hx hb hdg (k _ ⟨⟨_, rfl, xCmpL_ok (xNL_ok gx) (xNL_ok gy)⟩, hr⟩)
    · cases hg
  · obtain rfl := xl_of hlen (by simp [xLen])
    split at h
    · rename_i a t
      match sC, hs with
      | [], q => exact q.elim
      | v :: tC, q =>
        by_cases hk : (xcat a == 1) = true
        · rw [hk, cond_true] at h; cases h
          exact lv_dup hx hb hdg ((xOk_cat q.1).trans (eq_of_beq hk)) (k _ ⟨q.1, q.1, q.2⟩)
        · rw [show (xcat a == 1) = false by simpa using hk, cond_false] at h; cases h
    · cases h
  · obtain rfl := xl_of hlen (by simp [xLen])
    split at h
    · rename_i a t
      match sC, hs with
      | [], q => exact q.elim
      | v :: tC, q =>
        by_cases hk : (xcat a == 1) = true
        · rw [hk, cond_true] at h; cases h
          exact lv_pop hx hb hdg ((xOk_cat q.1).trans (eq_of_beq hk)) (k _ q.2)
        · rw [show (xcat a == 1) = false by simpa using hk, cond_false] at h; cases h
    · cases h
  · obtain rfl := xl_of hlen (by simp [xLen])
    split at h
    · rename_i a b t
      match sC, hs with
      | [], q => exact q.elim
      | [_], q => exact q.2.elim
      | v :: w :: tC, q =>
        by_cases hk : (xcat a == 1 && xcat b == 1) = true
        · rw [hk, cond_true] at h; cases h
          simp only [Bool.and_eq_true, beq_iff_eq] at hk
          exact lv_dup_x1 hx hb hdg ((xOk_cat q.1).trans hk.1) ((xOk_cat q.2.1).trans hk.2) (k _ ⟨q.1, q.2.1, q.1, q.2.2⟩)
        · rw [show (xcat a == 1 && xcat b == 1) = false by simpa using hk, cond_false] at h; cases h
    · cases h
  · obtain rfl := xl_of hlen (by simp [xLen])
    split at h
    · rename_i a t
      match sC, hs with
      | [], q => exact q.elim
      | v :: tC, q =>
        by_cases hk : (xcat a == 2) = true
        · rw [hk, cond_true] at h; cases h
          exact lv_dup2_2 hx hb hdg ((xOk_cat q.1).trans (eq_of_beq hk)) (k _ ⟨q.1, q.1, q.2⟩)
        · rw [show (xcat a == 2) = false by simpa using hk, cond_false] at h
          split at h
          · rename_i b t
            match tC, q with
            | [], q => exact q.2.elim
            | w :: tC, q =>
              by_cases hk : (xcat a == 1 && xcat b == 1) = true
              · rw [hk, cond_true] at h; cases h
                simp only [Bool.and_eq_true, beq_iff_eq] at hk
                exact lv_dup2_11 hx hb hdg ((xOk_cat q.1).trans hk.1) ((xOk_cat q.2.1).trans hk.2) (k _ ⟨q.1, q.2.1, q.1, q.2.1, q.2.2⟩)
              · rw [show (xcat a == 1 && xcat b == 1) = false by simpa using hk, cond_false] at h; cases h
          · cases h
    · cases h
  · split at h
    · rename_i f hf
      rw [xBF_len hf] at hlen
      obtain rfl := xl_of hlen (by decide)
      obtain ⟨a, b, r, x, y, t, tC, rfl, rfl, hg, ha, hb', hr⟩ := xP2_ok h hs
      by_cases hi : (xIsI a && xIsI b) = true
      · rw [hi, cond_true] at hg
        rw [Bool.and_eq_true] at hi
        obtain ⟨x, rfl⟩ := xIsI_ok hi.1 ha
        obtain ⟨y, rfl⟩ := xIsI_ok hi.2 hb'
        exact xBF_W hx hb hf hdg (k _ ⟨xB_ok ht hf hg ha hb', hr⟩)
      · rw [show (xIsI a && xIsI b) = false by simpa using hi, cond_false] at hg; cases hg
    · split at h
      · rename_i f hf
        rw [xLF_len hf] at hlen
        obtain rfl := xl_of hlen (by decide)
        obtain ⟨a, b, r, x, y, t, tC, rfl, rfl, hg, ha, hb', hr⟩ := xP2_ok h hs
        obtain ⟨i, j, q, x, y, rfl, rfl, gx, gy, hq, rfl⟩ := xGL_ok hg ha hb'
        cases hq
        exact xLF_W hx hb hf hdg (k _ ⟨⟨_, rfl, xInL_of (xCL_ok gx gy)⟩, hr⟩)
      · split at h
        · rename_i f hf
          rw [xLS_len hf] at hlen
          obtain rfl := xl_of hlen (by decide)
          obtain ⟨a, b, r, x, y, t, tC, rfl, rfl, hg, ha, hb', hr⟩ := xP2_ok h hs
          unfold xGS at hg
          split at hg
          · cases hg
            obtain ⟨x, rfl, gx⟩ := ha
            obtain ⟨y, rfl, gy⟩ := hb'
            exact xLS_W hx hb hf hdg (k _ ⟨⟨_, rfl, xInL_of (xCS_ok (xNL_ok gx) gy)⟩, hr⟩)
          · cases hg
        · cases h
end XST

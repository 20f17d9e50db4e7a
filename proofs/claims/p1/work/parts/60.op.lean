theorem xf5 (xs : Nat → Int32) : ∀ (j : Nat) (i : xI), [(Int.negSucc 2147483647, Int.ofNat 2147483647), (Int.negSucc 2147483647, Int.ofNat 2147483647), (Int.negSucc 2147483647, Int.ofNat 2147483647), (Int.negSucc 2147483647, Int.ofNat 2147483647), (Int.negSucc 2147483647, Int.ofNat 2147483647)][j]? = some i → xIn i (xg0 xs (j + 1)).toInt
  | 0, _, h => by cases h; exact xFull _
  | 1, _, h => by cases h; exact xFull _
  | 2, _, h => by cases h; exact xFull _
  | 3, _, h => by cases h; exact xFull _
  | 4, _, h => by cases h; exact xFull _
  | _ + 5, _, h => by cases h
theorem x63 (x : Int32) : xIn (Int.ofNat 0, Int.ofNat 63) (x &&& 63).toInt := by
  have : ∀ x : BitVec 32, (0 : Int) ≤ (x &&& 63#32).toInt ∧ (x &&& 63#32).toInt ≤ 63 := by
    intro x
    have h1 : (x &&& 63#32).toNat < 64 := by
      rw [BitVec.toNat_and]
      exact Nat.lt_of_le_of_lt Nat.and_le_right (by decide)
    have h2 : (x &&& 63#32).toInt = ((x &&& 63#32).toNat : Int) := by
      rw [BitVec.toInt_eq_toNat_cond, if_pos (by omega)]
    omega
  exact this x.toBitVec
theorem xf9 (xs : Nat → Int32) : ∀ (j : Nat) (i : xI), [(Int.negSucc 2147483647, Int.ofNat 2147483647), (Int.negSucc 2147483647, Int.ofNat 2147483647), (Int.negSucc 2147483647, Int.ofNat 2147483647), (Int.negSucc 2147483647, Int.ofNat 2147483647), (Int.negSucc 2147483647, Int.ofNat 2147483647), (Int.ofNat 0, Int.ofNat 63), (Int.ofNat 0, Int.ofNat 63), (Int.ofNat 0, Int.ofNat 63), (Int.ofNat 0, Int.ofNat 63)][j]? = some i → xIn i (g37 xs (j + 1)).toInt
  | 0, _, h => by cases h; exact xFull _
  | 1, _, h => by cases h; exact xFull _
  | 2, _, h => by cases h; exact xFull _
  | 3, _, h => by cases h; exact xFull _
  | 4, _, h => by cases h; exact xFull _
  | 5, _, h => by cases h; exact x63 _
  | 6, _, h => by cases h; exact x63 _
  | 7, _, h => by cases h; exact x63 _
  | 8, _, h => by cases h; exact x63 _
  | _ + 9, _, h => by cases h
theorem xOp {p : Program} {e : Env} {s : State} {m : MethodId} {below : List Frame} {meth : Method} {c : Code} {b : Nat} {xs : Nat → Int32} (l : Launch) (hl : l.stackTraces = false) (C0 : lw_At p s m meth c b 6 xs) : ∀ op : Nat, op < 64 → (xs 0 &&& 63).toInt = op → W p l e room_1 s m #[Value.ref b] below meth c s.heap [] 0 0 (lw_Z below #[Value.ref b] s) (entryFrame m ([Value.ref b] : List Value).toArray 8)
  | 0, _, h => o0 p l e s m below meth c b xs C0 h (xf5 xs)
  | 1, _, h => o1 p l e s m below meth c b xs C0 h (xf5 xs)
  | 2, _, h => o2 p l e s m below meth c b xs C0 h (xf5 xs)
  | 3, _, h => o3 p l e s m below meth c b xs C0 h (xf5 xs)
  | 4, _, h => o4 p l e s m below meth c b xs C0 h (xf5 xs)
  | 5, _, h => o5 p l e s m below meth c b xs C0 h (xf5 xs)
  | 6, _, h => o6 p l e s m below meth c b xs C0 h (xf5 xs)
  | 7, _, h => o7 p l e s m below meth c b xs C0 h (xf5 xs)
  | 8, _, h => o8 p l e s m below meth c b xs C0 h (xf5 xs)
  | 9, _, h => o9 p l e s m below meth c b xs C0 h (xf5 xs)
  | 10, _, h => o10 p l e s m below meth c b xs C0 h (xf5 xs)
  | 11, _, h => o11 p l e s m below meth c b xs C0 h (xf5 xs)
  | 12, _, h => o12 p l e s m below meth c b xs C0 h (xf5 xs)
  | 13, _, h => o13 p l e s m below meth c b xs C0 h (xf5 xs)
  | 14, _, h => o14 p l e s m below meth c b xs C0 h (xf5 xs)
  | 15, _, h => o15 p l e s m below meth c b xs C0 h (xf5 xs)
  | 16, _, h => o16 p l e s m below meth c b xs C0 h (xf5 xs)
  | 17, _, h => o17 p l e s m below meth c b xs C0 h (xf5 xs)
  | 18, _, h => o18 p l e s m below meth c b xs C0 h (xf5 xs)
  | 19, _, h => o19 p l e s m below meth c b xs C0 h (xf5 xs)
  | 20, _, h => o20 p l e s m below meth c b xs C0 h (xf5 xs)
  | 21, _, h => o21 p l e s m below meth c b xs C0 h (xf5 xs)
  | 22, _, h => o22 p l e s m below meth c b xs C0 h (xf5 xs)
  | 23, _, h => o23 p l e s m below meth c b xs C0 h (xf5 xs)
  | 24, _, h => o24 p l e s m below meth c b xs C0 h (xf5 xs)
  | 25, _, h => o25 p l e s m below meth c b xs C0 h (xf5 xs)
  | 26, _, h => o26 p l e s m below meth c b xs C0 h (xf5 xs)
  | 27, _, h => o27 p l e s m below meth c b xs C0 h (xf5 xs)
  | 28, _, h => o28 p l e s m below meth c b xs C0 h (xf5 xs)
  | 29, _, h => o29 p l e s m below meth c b xs C0 h (xf5 xs)
  | 30, _, h => o30 p l e s m below meth c b xs C0 h (xf5 xs)
  | 31, _, h => o31 p l e s m below meth c b xs C0 h (xf5 xs)
  | 32, _, h => o32 p l e s m below meth c b xs C0 h (xf5 xs)
  | 33, _, h => o33 p l e s m below meth c b xs C0 h (xf5 xs)
  | 34, _, h => o34 p l e s m below meth c b xs C0 h (xf5 xs)
  | 35, _, h => o35 p l e s m below meth c b xs C0 h (xf5 xs)
  | 36, _, h => o36 p l e s m below meth c b xs C0 h (xf5 xs)
  | 37, _, h => o37 p l e s m below meth c b xs C0 h (xf9 xs)
  | 38, _, h => o38 p l e s m below meth c b xs C0 h (xf5 xs)
  | 39, _, h => o39 p l e s m below meth c b xs C0 h (xf5 xs)
  | 40, _, h => o40 p l e s m below meth c b xs C0 h (xf5 xs)
  | 41, _, h => o41 p l e s m below meth c b xs C0 h (xf5 xs)
  | 42, _, h => o42 p l e s m below meth c b xs C0 h (xf5 xs)
  | 43, _, h => o43 p l e s m below meth c b xs C0 h (xf5 xs)
  | 44, _, h => o44 p l e s m below meth c b xs C0 h (xf5 xs)
  | 45, _, h => o45 p l e s m below meth c b xs C0 h (xf5 xs)
  | 46, _, h => o46 p l e s m below meth c b xs C0 h (xf5 xs)
  | 47, _, h => o47 p l e s m below meth c b xs C0 h (xf5 xs)
  | 48, _, h => o48 p l e s m below meth c b xs C0 h (xf5 xs)
  | 49, _, h => o49 p l hl e s m below meth c b xs C0 h
  | 50, _, h => o50 p l e s m below meth c b xs C0 h (xf5 xs)
  | 51, _, h => o51 p l e s m below meth c b xs C0 h (xf5 xs)
  | 52, _, h => o52 p l e s m below meth c b xs C0 h (xf5 xs)
  | 53, _, h => o53 p l e s m below meth c b xs C0 h (xf5 xs)
  | 54, _, h => o54 p l e s m below meth c b xs C0 h (xf5 xs)
  | 55, _, h => o55 p l e s m below meth c b xs C0 h (xf5 xs)
  | 56, _, h => o56 p l e s m below meth c b xs C0 h (xf5 xs)
  | 57, _, h => o57 p l e s m below meth c b xs C0 h (xf5 xs)
  | 58, _, h => o58 p l e s m below meth c b xs C0 h (xf5 xs)
  | 59, _, h => o59 p l e s m below meth c b xs C0 h (xf5 xs)
  | 60, _, h => o60 p l e s m below meth c b xs C0 h (xf5 xs)
  | 61, _, h => o61 p l e s m below meth c b xs C0 h (xf5 xs)
  | 62, _, h => o62 p l e s m below meth c b xs C0 h (xf5 xs)
  | 63, _, h => o63 p l e s m below meth c b xs C0 h (xf5 xs)
  | _ + 64, h, _ => by omega
theorem whole_start {p : Program} {e : Env} {s : State} {m : MethodId} {below : List Frame} {meth : Method} {c : Code} (l : Launch) (hl : l.stackTraces = false) {b L : Nat} {xs : Nat → Int32} (hL : L ≤ 6) (C0 : lw_At p s m meth c b L xs) : W p l e room_1 s m #[Value.ref b] below meth c s.heap [] 0 0 (lw_Z below #[Value.ref b] s) (entryFrame m ([Value.ref b] : List Value).toArray 8) := by
  match L, hL, C0 with
  | 0, _, C0 => exact sh0 p l e s m below meth c b xs C0
  | 1, _, C0 => exact sh1 p l e s m below meth c b xs C0
  | 2, _, C0 => exact sh2 p l e s m below meth c b xs C0
  | 3, _, C0 => exact sh3 p l e s m below meth c b xs C0
  | 4, _, C0 => exact sh4 p l e s m below meth c b xs C0
  | 5, _, C0 => exact sh5 p l e s m below meth c b xs C0
  | 6, _, C0 =>
    have h := x63 (xs 0)
    obtain ⟨h1, h2⟩ := h
    have h1 : (0 : Int) ≤ (xs 0 &&& 63).toInt := h1
    have h2 : (xs 0 &&& 63).toInt ≤ (63 : Int) := h2
    exact xOp l hl C0 (xs 0 &&& 63).toInt.toNat (by omega) (by omega)
  | _ + 7, h, _ => exact absurd h (by omega)
theorem lw_hl {l : Launch} (h : l.flags = flags0) : l.stackTraces = false := by
  unfold Launch.stackTraces
  rw [h]
  decide +kernel

/-! named ints of three cases: walk (the hour), tour (the list), sheet (f and step) -/
theorem xEqI {η : Nat → Int32} {ad : Nat → Nat} {N j : Nat} {x : Int32} (h : xOk η ad N (zs j) (.int x)) : x = η j := by
  have h : Value.int x = .int (η j) := h
  cases h
  rfl
theorem xEqC {η : Nat → Int32} {ad : Nat → Nat} {N n : Nat} {x : Int32} (h : xOk η ad N (zi (Int.ofNat n) (Int.ofNat n)) (.int x)) : x.toInt = n := by
  obtain ⟨y, e, y1, y2⟩ := h
  cases e
  have y1 : (n : Int) ≤ x.toInt := y1
  have y2 : x.toInt ≤ (n : Int) := y2
  omega
theorem xEq0 {η : Nat → Int32} {ad : Nat → Nat} {N : Nat} {x : Int32} (h : xOk η ad N z0 (.int x)) : x = 0 := Int32.toInt_inj.mp (xEqC (n := 0) h)
theorem xEqK {η : Nat → Int32} {ad : Nat → Nat} {N n : Nat} {x c : Int32} (hc : c.toInt = n) (h : xOk η ad N (zi (Int.ofNat n) (Int.ofNat n)) (.int x)) : x = c := Int32.toInt_inj.mp ((xEqC h).trans hc.symm)
theorem xTok_cons {η : Nat → Int32} {t : xT} {ts : List xT} (h1 : ∀ (ad : Nat → Nat) (N : Nat) (x y : Int32), xOk η ad N t.2.1 (.int x) → xOk η ad N t.2.2.1 (.int y) → xOk η ad N t.2.2.2 (.int (xOpN t.1 x y))) (h2 : xTok η ts) : xTok η (t :: ts) := fun t' ht => (List.mem_cons.mp ht).elim (fun e => by rw [e]; exact h1) (h2 t')
theorem xTok_nil {η : Nat → Int32} : xTok η [] := fun _ h => absurd h List.not_mem_nil
theorem xTok_app {η : Nat → Int32} {ts us : List xT} (h1 : xTok η ts) (h2 : xTok η us) : xTok η (ts ++ us) := fun t ht => (List.mem_append.mp ht).elim (h1 t) (h2 t)
theorem xTokB {η : Nat → Int32} {op : Int} (h : (η 0 &&& 63).toInt = op) : ∀ (ad : Nat → Nat) (N : Nat) (x y : Int32), xOk η ad N (zs 0) (.int x) → xOk η ad N (zi (Int.ofNat 63) (Int.ofNat 63)) (.int y) → xOk η ad N (zi op op) (.int (xOpN 3 x y)) := by
  intro ad N x y h1 h2
  rw [xEqI h1, xEqK (c := 63) rfl h2]
  exact ⟨_, rfl, by show op ≤ (η 0 &&& 63).toInt; omega, by show (η 0 &&& 63).toInt ≤ op; omega⟩
noncomputable def ts19 : List xT := [(3, zs 0, zi (Int.ofNat 63) (Int.ofNat 63), zi (Int.ofNat 19) (Int.ofNat 19)), (8, zs 3, zs 3, zi (Int.ofNat 0) (Int.ofNat 999)), (0, zs 3, z0, zs 3), (9, zs 3, zs 3, z0)]
theorem xBr19 {b1 b2 b4 b5 : xI} {cons : List xCd} (n : Nat) (hC : xConOk R_law cons) (hrun : xRun xI_law cons ts19 (some (0, [zs 0, .inl b1, .inl b2, zs 3, .inl b4, .inl b5])) false xRm1 8 xLck n 0 xI_law.1 [(0, .inr (.inr (.inl (some 0))))] [] [] 1 0 0 = true) : xBox 19 xg0 [b1, b2, (Int.ofNat 0, Int.ofNat 999), b4, b5] := by
  refine xBrG n (fun xs k => xs k) xK_law hC rfl (fun xs hop hbx => ⟨?_, ?_⟩) hrun
  · refine xTok_cons (xTokB hop) (xTok_cons ?_ (xTok_cons ?_ (xTok_cons ?_ xTok_nil)))
    · intro ad N x y h1 _
      have e := xEqI h1
      subst e
      exact ⟨_, rfl, hbx 2 _ rfl⟩
    · intro ad N x y h1 h2
      rw [xEqI h1, xEq0 h2]
      show Value.int (xs 3 + 0) = .int (xs 3)
      rw [Int32.add_zero]
    · intro ad N x y h1 h2
      rw [xEqI h1, xEqI h2]
      exact ⟨_, rfl, by show (0 : Int) ≤ (xs 3 - xs 3).toInt; rw [Int32.sub_self]; exact Int.le_refl _, by show (xs 3 - xs 3).toInt ≤ (0 : Int); rw [Int32.sub_self]; exact Int.le_refl _⟩
  · intro j a h ad N
    match j, h with
    | 0, h => cases h; rfl
    | 1, h => cases h; exact ⟨_, rfl, hbx 0 _ rfl⟩
    | 2, h => cases h; exact ⟨_, rfl, hbx 1 _ rfl⟩
    | 3, h => cases h; rfl
    | 4, h => cases h; exact ⟨_, rfl, hbx 3 _ rfl⟩
    | 5, h => cases h; exact ⟨_, rfl, hbx 4 _ rfl⟩
    | _ + 6, h => cases h
/-! the list of tour -/
def xSh (x : Int32) (k : Nat) : Int32 := x >>> (Int32.ofNat (6 * k) &&& 31)
def xUs (x : Int32) (k : Nat) : Int32 := (x.toUInt32 >>> ((Int32.ofNat (6 * k)).toUInt32 &&& Int32.toUInt32 31)).toInt32
def g37 (xs : Nat → Int32) (j : Nat) : Int32 := if j ≤ 5 then xs j else xSh (xs 5) (j - 6) &&& 63
def e37 (xs : Nat → Int32) (k : Nat) : Int32 := if k < 10 then xs k else if k < 20 then xSh (xs 5) (k - 10) else xUs (xs 5) (k - 20)
theorem xBv (x : BitVec 32) (n : Nat) (hn : n ≤ 18) : (x.sshiftRight n &&& 63#32) = (x >>> n &&& 63#32) := by
  apply BitVec.eq_of_getLsbD_eq
  intro i hi
  rw [BitVec.getLsbD_and, BitVec.getLsbD_and]
  by_cases h6 : i < 6
  · rw [BitVec.getLsbD_sshiftRight, BitVec.getLsbD_ushiftRight]
    have h1 : ¬ 32 ≤ i := by omega
    have h2 : n + i < 32 := by omega
    simp [h1, h2]
  · have : (63#32).getLsbD i = false := by
      have : ∀ i : Nat, i < 32 → ¬ i < 6 → (63#32).getLsbD i = false := by decide
      exact this i hi h6
    rw [this, Bool.and_false, Bool.and_false]
theorem xSame (x : Int32) : ∀ k : Nat, k < 4 → (xUs x k &&& 63) = (xSh x k &&& 63)
  | 0, _ => Int32.toBitVec_inj.mp (xBv x.toBitVec 0 (by decide)).symm
  | 1, _ => Int32.toBitVec_inj.mp (xBv x.toBitVec 6 (by decide)).symm
  | 2, _ => Int32.toBitVec_inj.mp (xBv x.toBitVec 12 (by decide)).symm
  | 3, _ => Int32.toBitVec_inj.mp (xBv x.toBitVec 18 (by decide)).symm
  | _ + 4, h => by omega
noncomputable def t37 (k : Nat) (b : xI) : List xT := [(1, zs 5, zi (Int.ofNat (6 * k)) (Int.ofNat (6 * k)), zs (10 + k)), (2, zs 5, zi (Int.ofNat (6 * k)) (Int.ofNat (6 * k)), zs (20 + k)), (3, zs (10 + k), zi (Int.ofNat 63) (Int.ofNat 63), .inl b), (3, zs (20 + k), zi (Int.ofNat 63) (Int.ofNat 63), .inl b)]
noncomputable def ts37 (b6 b7 b8 b9 : xI) : List xT := (3, zs 0, zi (Int.ofNat 63) (Int.ofNat 63), zi (Int.ofNat 37) (Int.ofNat 37)) :: (t37 0 b6 ++ (t37 1 b7 ++ (t37 2 b8 ++ t37 3 b9)))
theorem x37 {xs : Nat → Int32} {k : Nat} (hk : k < 4) {b : xI} (hb : xIn b (g37 xs (6 + k)).toInt) : xTok (e37 xs) (t37 k b) := by
  have g : g37 xs (6 + k) = (xSh (xs 5) k &&& 63) := by unfold g37; rw [if_neg (by omega), show 6 + k - 6 = k by omega]
  have e5 : e37 xs 5 = xs 5 := rfl
  have e1 : e37 xs (10 + k) = xSh (xs 5) k := by unfold e37; rw [if_neg (by omega), if_pos (by omega), show 10 + k - 10 = k by omega]
  have e2 : e37 xs (20 + k) = xUs (xs 5) k := by unfold e37; rw [if_neg (by omega), if_neg (by omega), show 20 + k - 20 = k by omega]
  have hc : (Int32.ofNat (6 * k)).toInt = ((6 * k : Nat) : Int) := by
    rw [Int32.toInt_ofNat', xbm (by omega) (by omega)]
  rw [g] at hb
  refine xTok_cons ?_ (xTok_cons ?_ (xTok_cons ?_ (xTok_cons ?_ xTok_nil)))
  · intro ad N x y h1 h2
    rw [xEqI h1, xEqK hc h2, e5]
    show Value.int (xSh (xs 5) k) = .int (e37 xs (10 + k))
    rw [e1]
  · intro ad N x y h1 h2
    rw [xEqI h1, xEqK hc h2, e5]
    show Value.int (xUs (xs 5) k) = .int (e37 xs (20 + k))
    rw [e2]
  · intro ad N x y h1 h2
    rw [xEqI h1, xEqK (c := 63) rfl h2, e1]
    exact ⟨_, rfl, hb⟩
  · intro ad N x y h1 h2
    rw [xEqI h1, xEqK (c := 63) rfl h2, e2]
    refine ⟨_, rfl, ?_⟩
    show xIn b (xUs (xs 5) k &&& 63).toInt
    rw [xSame _ k hk]
    exact hb
theorem xBr37 {b1 b2 b3 b4 b5 b6 b7 b8 b9 : xI} {cons : List xCd} (n : Nat) (hC : xConOk R_law cons) (hrun : xRun xI_law cons (ts37 b6 b7 b8 b9) (some (0, [zs 0, .inl b1, .inl b2, .inl b3, .inl b4, zs 5])) false xRm1 8 xLck n 0 xI_law.1 [(0, .inr (.inr (.inl (some 0))))] [] [] 1 0 0 = true) : xBox 37 g37 [b1, b2, b3, b4, b5, b6, b7, b8, b9] := by
  refine xBrG n e37 xK_law hC rfl (fun xs hop hbx => ⟨?_, ?_⟩) hrun
  · exact xTok_cons (xTokB hop) (xTok_app (x37 (by decide) (hbx 5 _ rfl)) (xTok_app (x37 (by decide) (hbx 6 _ rfl)) (xTok_app (x37 (by decide) (hbx 7 _ rfl)) (x37 (by decide) (hbx 8 _ rfl)))))
  · intro j a h ad N
    match j, h with
    | 0, h => cases h; rfl
    | 1, h => cases h; exact ⟨_, rfl, hbx 0 _ rfl⟩
    | 2, h => cases h; exact ⟨_, rfl, hbx 1 _ rfl⟩
    | 3, h => cases h; exact ⟨_, rfl, hbx 2 _ rfl⟩
    | 4, h => cases h; exact ⟨_, rfl, hbx 3 _ rfl⟩
    | 5, h => cases h; rfl
    | _ + 6, h => cases h
/-! sheet -/
def xE9 (f d : Int32) : Nat → Int32
  | 0 => f
  | k + 1 => xE9 f d k + d
def xB9 (kind : Nat) (x : Int32) : Int32 := match kind with
  | 0 => x.toInt8.toInt32
  | 1 => x.toInt16.toInt32
  | _ => x
def xM9 (x : Int32) : Int32 := if (9 : Int32) < x then 9 else x
def xC9 (x : Int32) : Int32 := if (0 : Int32) < x then x else 0
def xV9 (kind : Nat) (f d : Int32) (k : Nat) : Int32 := xC9 (xM9 (xB9 kind (xE9 f d k)))
def xS9 (kind : Nat) (f d : Int32) : Nat → Int32
  | 0 => 0
  | k + 1 => xS9 kind f d k + xV9 kind f d k
def e9 (kind : Nat) (xs : Nat → Int32) (i : Nat) : Int32 := if i < 99 then xs i else if i = 99 then xs 4 else if i < 200 then xE9 (xs 3) (xs 4) (i - 100) else if i < 300 then xB9 kind (xE9 (xs 3) (xs 4) (i - 200)) else if i < 400 then xM9 (xB9 kind (xE9 (xs 3) (xs 4) (i - 300))) else if i < 500 then xV9 kind (xs 3) (xs 4) (i - 400) else xS9 kind (xs 3) (xs 4) (i - 500)
noncomputable def b9 (kind k : Nat) : xV := if kind < 2 then zs (200 + k) else zs (100 + k)
noncomputable def s9 (k : Nat) : xV := if k = 0 then z0 else zs (500 + k)
noncomputable def t9 (kind k : Nat) : List xT := (if kind < 2 then [(6 + kind, zs (100 + k), z0, zs (200 + k))] else []) ++ [(5, b9 kind k, zi (Int.ofNat 9) (Int.ofNat 9), zs (300 + k)), (5, zi (Int.ofNat 9) (Int.ofNat 9), b9 kind k, zs (300 + k)), (4, z0, zs (300 + k), zs (400 + k)), (0, s9 k, zs (400 + k), zs (501 + k)), (0, zs (100 + k), zs 99, zs (101 + k))]
noncomputable def tt9 (kind : Nat) : Nat → Nat → List xT
  | _, 0 => []
  | k, n + 1 => t9 kind k ++ tt9 kind (k + 1) n
noncomputable def ts9 (kind n : Nat) : List xT := (3, zs 0, zi (Int.ofNat 63) (Int.ofNat 63), zi (Int.ofNat 9) (Int.ofNat 9)) :: tt9 kind 0 n
theorem xo9 : ∀ (kind : Nat), kind < 2 → ∀ x y : Int32, xOpN (6 + kind) x y = xB9 kind x
  | 0, _, _, _ => rfl
  | 1, _, _, _ => rfl
  | _ + 2, h, _, _ => by omega
theorem x9 {xs : Nat → Int32} {kind k : Nat} (hkd : kind < 3) (hk : k < 90) : xTok (e9 kind xs) (t9 kind k) := by
  have q1 : e9 kind xs 99 = xs 4 := rfl
  have q2 : e9 kind xs (100 + k) = xE9 (xs 3) (xs 4) k := by unfold e9; rw [if_neg (by omega), if_neg (by omega), if_pos (by omega), show 100 + k - 100 = k by omega]
  have q3 : e9 kind xs (101 + k) = xE9 (xs 3) (xs 4) (k + 1) := by unfold e9; rw [if_neg (by omega), if_neg (by omega), if_pos (by omega), show 101 + k - 100 = k + 1 by omega]
  have q4 : e9 kind xs (200 + k) = xB9 kind (xE9 (xs 3) (xs 4) k) := by unfold e9; rw [if_neg (by omega), if_neg (by omega), if_neg (by omega), if_pos (by omega), show 200 + k - 200 = k by omega]
  have q5 : e9 kind xs (300 + k) = xM9 (xB9 kind (xE9 (xs 3) (xs 4) k)) := by unfold e9; rw [if_neg (by omega), if_neg (by omega), if_neg (by omega), if_neg (by omega), if_pos (by omega), show 300 + k - 300 = k by omega]
  have q6 : e9 kind xs (400 + k) = xV9 kind (xs 3) (xs 4) k := by unfold e9; rw [if_neg (by omega), if_neg (by omega), if_neg (by omega), if_neg (by omega), if_neg (by omega), if_pos (by omega), show 400 + k - 400 = k by omega]
  have q7 : ∀ i, i < 95 → e9 kind xs (500 + i) = xS9 kind (xs 3) (xs 4) i := by intro i hi; unfold e9; rw [if_neg (by omega), if_neg (by omega), if_neg (by omega), if_neg (by omega), if_neg (by omega), if_neg (by omega), show 500 + i - 500 = i by omega]
  have hb : ∀ (ad : Nat → Nat) (N : Nat) (x : Int32), xOk (e9 kind xs) ad N (b9 kind k) (.int x) → x = xB9 kind (xE9 (xs 3) (xs 4) k) := by
    intro ad N x h
    unfold b9 at h
    by_cases h2 : kind < 2
    · rw [if_pos h2] at h
      rw [xEqI h, q4]
    · rw [if_neg h2] at h
      have : kind = 2 := by omega
      subst this
      rw [xEqI h, q2]
      rfl
  have hs : ∀ (ad : Nat → Nat) (N : Nat) (x : Int32), xOk (e9 kind xs) ad N (s9 k) (.int x) → x = xS9 kind (xs 3) (xs 4) k := by
    intro ad N x h
    unfold s9 at h
    by_cases h2 : k = 0
    · rw [if_pos h2] at h
      rw [xEq0 h, h2]
      rfl
    · rw [if_neg h2] at h
      rw [xEqI h, q7 k (by omega)]
  refine xTok_app ?_ (xTok_cons ?_ (xTok_cons ?_ (xTok_cons ?_ (xTok_cons ?_ (xTok_cons ?_ xTok_nil)))))
  · by_cases h2 : kind < 2
    · rw [if_pos h2]
      refine xTok_cons ?_ xTok_nil
      intro ad N x y h1 _
      rw [xEqI h1, q2]
      show Value.int (xOpN (6 + kind) _ y) = .int (e9 kind xs (200 + k))
      rw [q4, xo9 kind h2]
    · rw [if_neg h2]; exact xTok_nil
  · intro ad N x y h1 h2
    rw [hb ad N x h1, xEqK (c := 9) rfl h2]
    show Value.int (if (9 : Int32) < _ then 9 else _) = .int (e9 kind xs (300 + k))
    rw [q5]
    rfl
  · intro ad N x y h1 h2
    rw [hb ad N y h2, xEqK (c := 9) rfl h1]
    show Value.int (if _ < (9 : Int32) then _ else 9) = .int (e9 kind xs (300 + k))
    rw [q5]
    generalize xB9 kind (xE9 (xs 3) (xs 4) k) = v
    unfold xM9
    have e9 : (9 : Int32).toInt = 9 := rfl
    by_cases ha : v < 9
    · rw [if_pos ha, if_neg (fun h => by rw [Int32.lt_iff_toInt_lt] at ha h; omega)]
    · rw [if_neg ha]
      by_cases hc : (9 : Int32) < v
      · rw [if_pos hc]
      · rw [if_neg hc]
        have : v = 9 := Int32.toInt_inj.mp (by rw [Int32.lt_iff_toInt_lt] at ha hc; omega)
        rw [this]
  · intro ad N x y h1 h2
    rw [xEq0 h1, xEqI h2]
    show Value.int (if (0 : Int32) < e9 kind xs (300 + k) then e9 kind xs (300 + k) else 0) = .int (e9 kind xs (400 + k))
    rw [q5, q6]
    rfl
  · intro ad N x y h1 h2
    rw [hs ad N x h1, xEqI h2, q6]
    show Value.int (xS9 kind (xs 3) (xs 4) k + xV9 kind (xs 3) (xs 4) k) = .int (e9 kind xs (501 + k))
    rw [show 501 + k = 500 + (k + 1) by omega, q7 (k + 1) (by omega)]
    rfl
  · intro ad N x y h1 h2
    rw [xEqI h1, xEqI h2, q1, q2]
    show Value.int (xE9 (xs 3) (xs 4) k + xs 4) = .int (e9 kind xs (101 + k))
    rw [q3]
    rfl
theorem xx9 {xs : Nat → Int32} {kind : Nat} (hkd : kind < 3) : ∀ (n k : Nat), k + n ≤ 80 → xTok (e9 kind xs) (tt9 kind k n)
  | 0, _, _ => xTok_nil
  | n + 1, k, h => xTok_app (x9 hkd (by omega)) (xx9 hkd n (k + 1) (by omega))
theorem xBr9 {b1 b2 b3 b4 b5 : xI} {cons : List xCd} (kind m n : Nat) (hkd : kind < 3) (hm : m ≤ 24) (hC : xConOk R_law cons) (hrun : xRun xI_law cons (ts9 kind m) (some (0, [zs 0, .inl b1, .inl b2, zs 100, zs 99, .inl b5])) false xRm1 8 xLck n 0 xI_law.1 [(0, .inr (.inr (.inl (some 0))))] [] [] 1 0 0 = true) : xBox 9 xg0 [b1, b2, b3, b4, b5] := by
  refine xBrG n (e9 kind) xK_law hC rfl (fun xs hop hbx => ⟨?_, ?_⟩) hrun
  · exact xTok_cons (xTokB hop) (xx9 hkd m 0 (by omega))
  · intro j a h ad N
    match j, h with
    | 0, h => cases h; rfl
    | 1, h => cases h; exact ⟨_, rfl, hbx 0 _ rfl⟩
    | 2, h => cases h; exact ⟨_, rfl, hbx 1 _ rfl⟩
    | 3, h => cases h; rfl
    | 4, h => cases h; rfl
    | 5, h => cases h; exact ⟨_, rfl, hbx 4 _ rfl⟩
    | _ + 6, h => cases h

/-! fields, arrays, new cells -/
def xRel (D : va_G) (cy : Nat → ClassId) (η : Nat → Int32) (ad : Nat → Nat) (N : Nat) (A : Nat → Prop) (H0 : Heap) (hp : xH) (H : Heap) (locs : List Loc) : Prop := ∃ ws : va_W, xWok η ad N cy hp ws ∧ va_P D vwCl ws H ∧ va_D A ws ∧ va_S A H0 H locs
def xTag : FieldType → Nat
  | .int => 0
  | .boolean => 1
  | .long => 2
  | .object _ => 3
  | .array _ => 3
  | _ => 9
def xFit (t : Nat) (a : xV) : Bool := match t, a with
  | 0, a => xIsI a
  | 1, .inl i => decide (0 ≤ i.1) && decide (i.2 ≤ 1)
  | 2, .inr (.inl _) => true
  | 3, .inr (.inr (.inl _)) => true
  | _, _ => false
theorem x01 {x : Int32} (h1 : 0 ≤ x.toInt) (h2 : x.toInt ≤ 1) : x = 0 ∨ x = 1 := by
  have : x.toInt = 0 ∨ x.toInt = 1 := by omega
  rcases this with h | h
  · exact Or.inl (Int32.toInt_inj.mp (by rw [h]; rfl))
  · exact Or.inr (Int32.toInt_inj.mp (by rw [h]; rfl))
theorem xFit_ok {η : Nat → Int32} {ad : Nat → Nat} {N : Nat} {ty : FieldType} {a : xV} {v : Value} (h : xFit (xTag ty) a = true) (g : xOk η ad N a v) : narrow ty v = v ∧ fits ty v = true := by
  cases ty with
  | int =>
    obtain ⟨x, rfl⟩ := xIsI_ok h g
    exact ⟨rfl, rfl⟩
  | boolean =>
    rcases a with i | i | k | j
    · simp only [xTag, xFit, Bool.and_eq_true, decide_eq_true_eq] at h
      obtain ⟨x, rfl, g1, g2⟩ := g
      rcases x01 (x := x) (by omega) (by omega) with rfl | rfl
      · exact ⟨rfl, rfl⟩
      · exact ⟨rfl, rfl⟩
    · simp [xTag, xFit] at h
    · simp [xTag, xFit] at h
    · simp [xTag, xFit] at h
  | long =>
    rcases a with i | i | k | j
    · simp [xTag, xFit] at h
    · obtain ⟨x, rfl, -⟩ := g; exact ⟨rfl, rfl⟩
    · simp [xTag, xFit] at h
    · simp [xTag, xFit] at h
  | object C =>
    rcases a with i | i | k | j
    · simp [xTag, xFit] at h
    · simp [xTag, xFit] at h
    · cases k with
      | none => cases g; exact ⟨rfl, rfl⟩
      | some k => obtain ⟨-, rfl⟩ := g; exact ⟨rfl, rfl⟩
    · simp [xTag, xFit] at h
  | array t =>
    rcases a with i | i | k | j
    · simp [xTag, xFit] at h
    · simp [xTag, xFit] at h
    · cases k with
      | none => cases g; exact ⟨rfl, rfl⟩
      | some k => obtain ⟨-, rfl⟩ := g; exact ⟨rfl, rfl⟩
    · simp [xTag, xFit] at h
  | _ => simp [xTag, xFit] at h
/-- a field by its place in the pool: (index, class of the worlds, slot, kind, final) -/
abbrev xFl : Type := Nat × Nat × Nat × Nat × Bool
def xFok (own : String) (q : xFl) : Prop := ∃ r : vw_C, vwCl[q.2.1]? = some r ∧ q.2.2.1 < r.2.2 ∧ Cond.fieldLink own q.1 (r.2.1 q.2.2.1).1 (r.2.1 q.2.2.1).2.1 (r.2.1 q.2.2.1).2.2.1 ∈ xBig ∧ (q.2.2.2.1 = 9 ∨ ∃ ty : FieldType, (r.2.1 q.2.2.1).2.2.2 = q.2.2.2.2 ∧ parseFieldDescriptor (r.2.1 q.2.2.1).2.2.1 = some ty ∧ xTag ty = q.2.2.2.1 ∧ (q.2.2.2.2 = true → (r.2.1 q.2.2.1).1 = own))
def xFokB (own : String) (i : Nat) (q : xFl) : Bool := match vwCl[q.2.1]? with
  | some r => decide (q.2.2.1 < r.2.2) && xHas i (.fieldLink own q.1 (r.2.1 q.2.2.1).1 (r.2.1 q.2.2.1).2.1 (r.2.1 q.2.2.1).2.2.1) && (q.2.2.2.1 == 9 || (decide ((r.2.1 q.2.2.1).2.2.2 = q.2.2.2.2) && (match parseFieldDescriptor (r.2.1 q.2.2.1).2.2.1 with | some ty => xTag ty == q.2.2.2.1 | none => false) && (!q.2.2.2.2 || decide ((r.2.1 q.2.2.1).1 = own))))
  | none => false
theorem xFokB_ok {own : String} {i : Nat} {q : xFl} (h : xFokB own i q = true) : xFok own q := by
  unfold xFokB at h
  split at h
  · rename_i r hr
    simp only [Bool.and_eq_true, decide_eq_true_eq, Bool.or_eq_true, Bool.not_eq_true', beq_iff_eq] at h
    obtain ⟨⟨h1, h2⟩, h3⟩ := h
    refine ⟨r, hr, h1, xHas_ok h2, h3.imp id (fun h => ?_)⟩
    obtain ⟨⟨h3, h4⟩, h5⟩ := h
    split at h4
    · rename_i ty hty
      exact ⟨ty, h3, hty, eq_of_beq h4, fun z => h5.elim (fun z' => by rw [z] at z'; cases z') id⟩
    · cases h4
  · cases h
def xPut (d : xV) (i : Nat) (a : xV) (ov : List (Nat × xV)) : List (Nat × xV) := bif decide (a = d) then ov.filter (fun q => !(q.1 == i)) else (i, a) :: ov.filter (fun q => !(q.1 == i))
theorem xAt_filter (d : xV) (i j : Nat) : ∀ ov : List (Nat × xV), xAt d (ov.filter (fun q => !(q.1 == i))) j = if j = i then d else xAt d ov j
  | [] => by simp [xAt]
  | q :: ov => by
    have ih := xAt_filter d i j ov
    rw [List.filter_cons]
    by_cases hq : q.1 = i
    · rw [if_neg (by simp [hq]), ih]
      by_cases hj : j = i
      · rw [if_pos hj, if_pos hj]
      · rw [if_neg hj, if_neg hj]
        have : (q.1 == j) = false := by simp [hq, Ne.symm hj]
        simp only [xAt, this, cond_false]
    · rw [if_pos (by simpa using hq)]
      by_cases hqj : q.1 = j
      · have : (q.1 == j) = true := by simpa using hqj
        simp only [xAt, this, cond_true]
        rw [if_neg (by omega)]
      · have : (q.1 == j) = false := by simpa using hqj
        simp only [xAt, this, cond_false]
        exact ih
theorem xAt_put (d : xV) (i : Nat) (a : xV) (ov : List (Nat × xV)) (j : Nat) : xAt d (xPut d i a ov) j = if j = i then a else xAt d ov j := by
  unfold xPut
  by_cases ha : a = d
  · rw [decide_eq_true ha, cond_true, xAt_filter, ha]
  · rw [decide_eq_false ha, cond_false]
    by_cases hj : i = j
    · have : (i == j) = true := by simpa using hj
      simp only [xAt, this, cond_true]
      rw [if_pos hj.symm]
    · have : (i == j) = false := by simpa using hj
      simp only [xAt, this, cond_false]
      rw [xAt_filter, if_neg (by omega), if_neg (by omega)]
theorem xin_ok {x : Int32} {n : Nat} (h1 : 0 ≤ x.toInt) (h2 : x.toInt < n) : vp_in x n ∧ x.toNatClampNeg = x.toInt.toNat ∧ x.toNatClampNeg < n := by
  have e : x.toNatClampNeg = x.toInt.toNat := rfl
  refine ⟨?_, e, by rw [e]; omega⟩
  rintro (h | h)
  · rw [Int32.lt_iff_toInt_lt] at h
    have e0 : (0 : Int32).toInt = 0 := rfl
    omega
  · rw [e] at h; omega
/-- which kind of array an instruction loads from or stores into -/
def xAld : Instr → Nat → Bool
  | .iaload, t => t == 1
  | .baload, t => t == 0 || t == 3
  | .laload, t => t == 2
  | .aaload, t => t == 4 || t == 5
  | _, _ => false
def xAst : Instr → Nat → Bool
  | .iastore, t => t == 1
  | .bastore, t => t == 0 || t == 3
  | .lastore, t => t == 2
  | _, _ => false
def xAfit (t : Nat) (a : xV) : Bool := match t, a with
  | 1, a => xIsI a
  | 0, .inl i => decide (-128 ≤ i.1) && decide (i.2 ≤ 127)
  | 3, .inl i => decide (0 ≤ i.1) && decide (i.2 ≤ 1)
  | 2, .inr (.inl _) => true
  | _, _ => false
def xIdx (i : xI) (n : Nat) (d : xV) (ov : List (Nat × xV)) : Option xV := bif decide (0 ≤ i.1) && decide (i.2 < n) then (bif xK i then some (xAt d ov i.1.toNat) else (match ov with | [] => some d | _ => none)) else none
theorem xIdx_ok {i : xI} {n : Nat} {d r : xV} {ov : List (Nat × xV)} {x : Int32} (h : xIdx i n d ov = some r) (hx : xIn i x.toInt) : 0 ≤ x.toInt ∧ x.toInt < n ∧ r = xAt d ov x.toInt.toNat := by
  unfold xIdx at h
  obtain ⟨x1, x2⟩ := hx
  by_cases h1 : (decide (0 ≤ i.1) && decide (i.2 < n)) = true
  · rw [h1, cond_true] at h
    simp only [Bool.and_eq_true, decide_eq_true_eq] at h1
    refine ⟨by omega, by omega, ?_⟩
    by_cases h2 : xK i = true
    · rw [h2, cond_true] at h
      cases h
      have h2' : i.1 = i.2 := by simpa [xK] using h2
      rw [show x.toInt = i.1 by omega]
    · rw [show xK i = false by simpa using h2, cond_false] at h
      split at h
      · cases h; rfl
      · cases h
  · rw [show (decide (0 ≤ i.1) && decide (i.2 < n)) = false by simpa using h1, cond_false] at h; cases h
section XHE
variable {p : Program} {l : Launch} {e : Env} {R : Room} {s : State} {m : MethodId} {args : Array Value} {below : List Frame} {meth : Method} {c : Code} {H : Heap} {locs : List Loc} {cells slots : Nat} {Q : State → Prop}
variable {cc : ByteArray} {pc : Nat} {ls : Array Slot} {rest : List Value} {D : va_G} {cy : Nat → ClassId} {η : Nat → Int32} {ad : Nat → Nat} {N : Nat} {A : Nat → Prop} {H0 : Heap} {hp : xH} {own : String} {Ts : List Cond}
theorem xRel_cons {k : Nat} {e : xE} {x : va_E} {ws' : va_W} {hp' : xH} {H1 : Heap} {locs1 : List Loc} (hP : va_P D vwCl ((ad k, x) :: ws') H1) (hD : va_D A ((ad k, x) :: ws')) (hS : va_S A H0 H1 locs1) (h1 : k < N) (h2 : xEok η ad N cy e x) (h3 : xWok η ad N cy hp' ws') : xRel D cy η ad N A H0 ((k, e) :: hp') H1 locs1 := ⟨(ad k, x) :: ws', ⟨⟨rfl, h1, h2⟩, h3⟩, hP, hD, hS⟩
theorem xGetf_W (hx : p.tables.exec = Jvm.exec) (hb : c.code = cc) (hts : ∀ w ∈ Ts, w.before args s = true) (hbig : ∀ w ∈ xBig, w ∈ Ts) (hown : s.vm.findClass own = some m.cls) (hK : xKK D cy s) (hR : xRel D cy η ad N A H0 hp H locs) {q : xFl} (hq : xFok own q) {k : Nat} {avs : List xV} (hg : xGet k hp = some (.inl (q.2.1, avs))) {a : xV} (ha : avs[q.2.2.1]? = some a) (hdg : decode cc pc = .ok (.getfield q.1, 3)) (kk : ∀ v, xOk η ad N a v → W p l e R s m args below meth c H locs cells slots Q (F0 m (pc + 3) ls (v :: rest))) : W p l e R s m args below meth c H locs cells slots Q (F0 m pc ls (.ref (ad k) :: rest)) := by
  obtain ⟨ws, hw, hP, hD, hS⟩ := hR
  obtain ⟨⟨C, T, Nf⟩, h1, h2, h3, -⟩ := hq
  obtain ⟨i, x, e1, e2⟩ := xGet_ok hw hg
  rcases x with x | ⟨ci, vs⟩
  · exact e2.elim
  obtain ⟨e3, e4⟩ := e2
  dsimp only at e3 e4
  subst e3
  obtain ⟨v, e5, e6⟩ := xAll_get e4 _ _ ha
  exact va_get (D := D) hx hb hts (fun w h => hbig w ((xCls h1).1 w h)) hown hK.1 hP i e1 h1 q.2.2.1 h2 (hts _ (hbig _ h3)) (fun _ h9 => h9) e5 hdg (kk v e6)
theorem xPutf_W (hx : p.tables.exec = Jvm.exec) (hb : c.code = cc) (hts : ∀ w ∈ Ts, w.before args s = true) (hbig : ∀ w ∈ xBig, w ∈ Ts) (hown : s.vm.findClass own = some m.cls) (hK : xKK D cy s) (hR : xRel D cy η ad N A H0 hp H locs) {q : xFl} (hq : xFok own q) (hfin : q.2.2.2.2 = true → meth.name = "<init>") {k : Nat} {avs : List xV} {hp' : xH} (hg : xTake k hp = some (.inl (q.2.1, avs), hp')) {a : xV} {v : Value} (ha : xOk η ad N a v) (hf : xFit q.2.2.2.1 a = true) (hlt : q.2.2.1 < avs.length) (hdg : decode cc pc = .ok (.putfield q.1, 3)) (kk : ∀ (H1 : Heap) (locs1 : List Loc), xRel D cy η ad N A H0 ((k, .inl (q.2.1, avs.set q.2.2.1 a)) :: hp') H1 locs1 → W p l e R s m args below meth c H1 locs1 cells slots Q (F0 m (pc + 3) ls rest)) : W p l e R s m args below meth c H locs cells slots Q (F0 m pc ls (v :: .ref (ad k) :: rest)) := by
  obtain ⟨ws, hw, hP, hD, hS⟩ := hR
  obtain ⟨⟨C, T, Nf⟩, h1, h2, h3, h9⟩ := hq
  have h9 := h9.resolve_left (fun z => by rw [z] at hf; cases a <;> simp [xFit] at hf)
  obtain ⟨ty, h4, h5, h6, h7⟩ := h9
  obtain ⟨x, ws', e1, e0, e2, e7⟩ := xTake_ok hw hg
  rcases x with x | ⟨ci, vs⟩
  · exact e2.elim
  obtain ⟨e3, e4⟩ := e2
  dsimp only at e3 e4
  subst e3
  have hP := xP_perm hP e1
  have hD := xD_perm hD e1
  obtain ⟨hin, ty0, hty, hnm, -⟩ := xCls h1
  rw [← h6] at hf
  obtain ⟨hn, hfi⟩ := xFit_ok hf ha
  have hl : q.2.2.1 < vs.length := by rw [← xAll_len e4]; exact hlt
  by_cases hfn : q.2.2.2.2 = true
  · refine va_putF (D := D) hx hb hts (fun w h => hbig w (hin w h)) ty0 hty hnm hown hK.1 hP hD hS 0 rfl h1 q.2.2.1 h2 (hts _ (hbig _ h3)) (fun _ h9 => h9) (h4.trans hfn) (hfin hfn) (h7 hfn) h5 hn hfi hl hdg (fun H1 locs1 hP hD hS => kk H1 locs1 (xRel_cons hP hD hS e0 ⟨rfl, xAll_set ha _ e4⟩ e7))
  · have hfn' : q.2.2.2.2 = false := by simpa using hfn
    refine va_put (D := D) hx hb hts (fun w h => hbig w (hin w h)) ty0 hty hnm hown hK.1 hP hD hS 0 rfl h1 q.2.2.1 h2 (hts _ (hbig _ h3)) (fun _ h9 => h9) (h4.trans hfn') h5 hn hfi hl hdg (fun H1 locs1 hP hD hS => kk H1 locs1 (xRel_cons hP hD hS e0 ⟨rfl, xAll_set ha _ e4⟩ e7))
theorem xAlen_W (hx : p.tables.exec = Jvm.exec) (hb : c.code = cc) (hK : xKK D cy s) (hR : xRel D cy η ad N A H0 hp H locs) {k t n : Nat} {d : xV} {ov : List (Nat × xV)} (hg : xGet k hp = some (.inr (t, n, d, ov))) (hn : n < 2147483648) (hdg : decode cc pc = .ok (.arraylength, 1)) (kk : ∀ v, xOk η ad N (.inl (Int.ofNat n, Int.ofNat n)) v → W p l e R s m args below meth c H locs cells slots Q (F0 m (pc + 1) ls (v :: rest))) : W p l e R s m args below meth c H locs cells slots Q (F0 m pc ls (.ref (ad k) :: rest)) := by
  obtain ⟨ws, hw, hP, hD, hS⟩ := hR
  obtain ⟨i, x, e1, e2⟩ := xGet_ok hw hg
  rcases x with ⟨cA, n', x⟩ | x
  rotate_left
  · exact e2.elim
  obtain ⟨rfl, rfl, e5, -⟩ := e2
  have ht : ∃ ty, (xTys cy)[t]? = some (cy t, ty) := by
    match t, e5 with
    | 0, _ => exact ⟨_, rfl⟩
    | 1, _ => exact ⟨_, rfl⟩
    | 2, _ => exact ⟨_, rfl⟩
    | 3, _ => exact ⟨_, rfl⟩
    | 4, _ => exact ⟨_, rfl⟩
    | 5, _ => exact ⟨_, rfl⟩
  obtain ⟨ty, ht⟩ := ht
  refine va_alen (D := D) hx hb hK.1 hP i t e1 ht rfl hdg (kk _ ⟨_, rfl, ?_⟩)
  have : (Int32.ofNat n').toInt = n' := by
    rw [Int32.toInt_ofNat', xbm (by omega) (by omega)]
  dsimp only
  rw [this]
  exact ⟨Int.le_refl _, Int.le_refl _⟩
theorem xAld_W (hx : p.tables.exec = Jvm.exec) (hb : c.code = cc) (hK : xKK D cy s) (hR : xRel D cy η ad N A H0 hp H locs) {k t n : Nat} {d : xV} {ov : List (Nat × xV)} (hg : xGet k hp = some (.inr (t, n, d, ov))) {ins : Instr} (hins : xAld ins t = true) {i : xI} {r : xV} (hi : xIdx i n d ov = some r) {x : Int32} (hxi : xIn i x.toInt) (hdg : decode cc pc = .ok (ins, 1)) (kk : ∀ v, xOk η ad N r v → W p l e R s m args below meth c H locs cells slots Q (F0 m (pc + 1) ls (v :: rest))) : W p l e R s m args below meth c H locs cells slots Q (F0 m pc ls (.int x :: .ref (ad k) :: rest)) := by
  obtain ⟨ws, hw, hP, hD, hS⟩ := hR
  obtain ⟨j, y, e1, e2⟩ := xGet_ok hw hg
  rcases y with ⟨cA, n', y⟩ | y
  rotate_left
  · exact e2.elim
  obtain ⟨rfl, rfl, e5, e6, e7, e8⟩ := e2
  obtain ⟨g1, g2, rfl⟩ := xIdx_ok hi hxi
  obtain ⟨g3, g4, g5⟩ := xin_ok g1 g2
  rw [← g4] at kk
  unfold xAld at hins
  split at hins
  · have := eq_of_beq hins; subst this
    obtain ⟨f, rfl, e9⟩ := e7 (by omega)
    exact va_iald (D := D) hx hb hK.1 hP j 1 e1 rfl g3 hdg (kk _ (e9 _ g5))
  · simp only [Bool.or_eq_true, beq_iff_eq] at hins
    rcases hins with rfl | rfl
    · obtain ⟨f, rfl, e9⟩ := e7 (by omega)
      exact va_bald (D := D) hx hb hK.1 hP j 0 e1 rfl g3 hdg (kk _ (e9 _ g5))
    · obtain ⟨f, rfl, e9⟩ := e7 (by omega)
      exact va_zald (D := D) hx hb hK.1 hP j 3 e1 rfl g3 hdg (kk _ (e9 _ g5))
  · have := eq_of_beq hins; subst this
    obtain ⟨f, rfl, e9⟩ := e6 (by omega)
    exact va_lald (D := D) hx hb hK.1 hP j 2 e1 rfl g3 hdg (kk _ (e9 _ g5))
  · simp only [Bool.or_eq_true, beq_iff_eq] at hins
    rcases hins with rfl | rfl
    · obtain ⟨f, rfl, e9⟩ := e8 (by omega)
      exact va_aldq (D := D) hx hb hK.1 hP j 4 e1 rfl g3 hdg (kk _ (e9 _ g5))
    · obtain ⟨f, rfl, e9⟩ := e8 (by omega)
      exact va_aldq (D := D) hx hb hK.1 hP j 5 e1 rfl g3 hdg (kk _ (e9 _ g5))
  · cases hins
theorem xAst_W (hx : p.tables.exec = Jvm.exec) (hb : c.code = cc) (hK : xKK D cy s) (hR : xRel D cy η ad N A H0 hp H locs) {k t n : Nat} {d : xV} {ov : List (Nat × xV)} {hp' : xH} (hg : xTake k hp = some (.inr (t, n, d, ov), hp')) {ins : Instr} (hins : xAst ins t = true) {i : Int} (h0 : 0 ≤ i) (hn : i < n) {x : Int32} (hxi : x.toInt = i) {a : xV} {v : Value} (ha : xOk η ad N a v) (hf : xAfit t a = true) (hdg : decode cc pc = .ok (ins, 1)) (kk : ∀ (H1 : Heap) (locs1 : List Loc), xRel D cy η ad N A H0 ((k, .inr (t, n, d, xPut d i.toNat a ov)) :: hp') H1 locs1 → W p l e R s m args below meth c H1 locs1 cells slots Q (F0 m (pc + 1) ls rest)) : W p l e R s m args below meth c H locs cells slots Q (F0 m pc ls (v :: .int x :: .ref (ad k) :: rest)) := by
  obtain ⟨ws, hw, hP, hD, hS⟩ := hR
  obtain ⟨y, ws', e1, e0, e2, e10⟩ := xTake_ok hw hg
  rcases y with ⟨cA, n', y⟩ | y
  rotate_left
  · exact e2.elim
  obtain ⟨rfl, rfl, e5, e6, e7, e8⟩ := e2
  have hP := xP_perm hP e1
  have hD := xD_perm hD e1
  subst hxi
  obtain ⟨g3, g4, g5⟩ := xin_ok h0 hn
  have up : ∀ {T : Type} {f : Nat → T} {z : T} (cv : T → Value), (∀ i, i < n' → xOk η ad N (xAt d ov i) (cv (f i))) → xOk η ad N a (cv z) → ∀ j, j < n' → xOk η ad N (xAt d (xPut d x.toInt.toNat a ov) j) (cv (if j = x.toNatClampNeg then z else f j)) := by
    intro T f z cv h1 h2 j hj
    rw [xAt_put, ← g4]
    by_cases hjx : j = x.toNatClampNeg
    · rw [if_pos hjx, if_pos hjx]; exact h2
    · rw [if_neg hjx, if_neg hjx]; exact h1 j hj
  unfold xAst at hins
  split at hins
  · have := eq_of_beq hins; subst this
    obtain ⟨f, rfl, e9⟩ := e7 (by omega)
    obtain ⟨z, rfl⟩ := xIsI_ok hf ha
    exact va_iast (D := D) hx hb hK.1 hP hD hS 0 1 rfl rfl g3 hdg (fun H1 locs1 hP hD hS => kk H1 locs1 (xRel_cons hP hD hS e0 ⟨rfl, rfl, e5, (fun h => by omega), (fun _ => ⟨_, rfl, up Value.int e9 ha⟩), (fun h => by omega)⟩ e10))
  · simp only [Bool.or_eq_true, beq_iff_eq] at hins
    rcases hins with rfl | rfl
    · obtain ⟨f, rfl, e9⟩ := e7 (by omega)
      rcases a with i | i | i | i
      · obtain ⟨z, rfl, z1, z2⟩ := ha
        simp only [xAfit, Bool.and_eq_true, decide_eq_true_eq] at hf
        have hz : vp_nar .byte z = z := by
          show z.toInt8.toInt32 = z
          apply Int32.toInt_inj.mp
          rw [Int8.toInt_toInt32, Int32.toInt_toInt8, xbm8 (by omega) (by omega)]
        refine va_bast (D := D) hx hb hK.1 hP hD hS 0 0 rfl rfl g3 hdg (fun H1 locs1 hP hD hS => kk H1 locs1 (xRel_cons hP hD hS e0 ⟨rfl, rfl, e5, (fun h => by omega), (fun _ => ⟨_, rfl, up Value.int e9 ⟨_, rfl, ?_⟩⟩), (fun h => by omega)⟩ e10))
        rw [hz]; exact ⟨z1, z2⟩
      · simp [xAfit] at hf
      · simp [xAfit] at hf
      · simp [xAfit] at hf
    · obtain ⟨f, rfl, e9⟩ := e7 (by omega)
      rcases a with i | i | i | i
      · obtain ⟨z, rfl, z1, z2⟩ := ha
        simp only [xAfit, Bool.and_eq_true, decide_eq_true_eq] at hf
        have hz : vp_nar .boolean z = z := by
          rcases x01 (x := z) (by omega) (by omega) with rfl | rfl <;> rfl
        refine va_zast (D := D) hx hb hK.1 hP hD hS 0 3 rfl rfl g3 hdg (fun H1 locs1 hP hD hS => kk H1 locs1 (xRel_cons hP hD hS e0 ⟨rfl, rfl, e5, (fun h => by omega), (fun _ => ⟨_, rfl, up Value.int e9 ⟨_, rfl, ?_⟩⟩), (fun h => by omega)⟩ e10))
        rw [hz]; exact ⟨z1, z2⟩
      · simp [xAfit] at hf
      · simp [xAfit] at hf
      · simp [xAfit] at hf
  · have := eq_of_beq hins; subst this
    obtain ⟨f, rfl, e9⟩ := e6 (by omega)
    rcases a with i | i | i | i
    · simp [xAfit] at hf
    · obtain ⟨z, rfl, z1⟩ := ha
      exact va_last (D := D) hx hb hK.1 hP hD hS 0 2 rfl rfl g3 hdg (fun H1 locs1 hP hD hS => kk H1 locs1 (xRel_cons hP hD hS e0 ⟨rfl, rfl, e5, (fun _ => ⟨_, rfl, up Value.long e9 ⟨_, rfl, z1⟩⟩), (fun h => by omega), (fun h => by omega)⟩ e10))
    · simp [xAfit] at hf
    · simp [xAfit] at hf
  · cases hins
end XHE

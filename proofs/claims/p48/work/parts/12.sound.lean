/-! what the program's walk proves -/
def xKok (own : String) (q : Nat × xV) : Prop := (∃ n : Int, q.2 = .inl (n, n) ∧ -2147483648 ≤ n ∧ n ≤ 2147483647 ∧ Cond.constant own q.1 (Int32.ofInt n) ∈ xBig) ∨ (∃ n : Int, q.2 = .inr (.inl (n, n)) ∧ (Int64.ofInt n).toInt = n ∧ Cond.constantLong own q.1 (Int64.ofInt n) ∈ xBig) ∨ (∃ k : Nat, q.2 = .inr (.inr (.inl (some k))) ∧ ((own = RX5 ∧ q.1 = 81 ∧ k = 1) ∨ (own = RX9 ∧ q.1 = 24 ∧ k = 2) ∨ (own = RX12 ∧ q.1 = 292 ∧ k = 3)))
def xKokB (own : String) (i : Nat) (q : Nat × xV) : Bool := match q.2 with
  | .inl a => xK a && xInR a.1 && xHas i (.constant own q.1 (Int32.ofInt a.1))
  | .inr (.inl a) => xK a && decide ((Int64.ofInt a.1).toInt = a.1) && xHas i (.constantLong own q.1 (Int64.ofInt a.1))
  | .inr (.inr (.inl (some k))) => (decide (own = RX5) && (q.1 == 81 && k == 1)) || ((decide (own = RX9) && (q.1 == 24 && k == 2)) || (decide (own = RX12) && (q.1 == 292 && k == 3)))
  | _ => false
theorem xKokB_ok {own : String} {i : Nat} {q : Nat × xV} (h : xKokB own i q = true) : xKok own q := by
  obtain ⟨j, a⟩ := q
  unfold xKokB at h
  split at h
  · rename_i b hb
    dsimp only at hb; subst hb
    simp only [xK, Bool.and_eq_true, decide_eq_true_eq] at h
    obtain ⟨b1, b2⟩ := b
    dsimp only at h
    obtain ⟨⟨h1, h2⟩, h3⟩ := h
    subst h1
    have := xInR_ok h2
    exact Or.inl ⟨b1, rfl, this.1, this.2, xHas_ok h3⟩
  · rename_i b hb
    dsimp only at hb; subst hb
    simp only [xK, Bool.and_eq_true, decide_eq_true_eq] at h
    obtain ⟨b1, b2⟩ := b
    dsimp only at h
    obtain ⟨⟨h1, h2⟩, h3⟩ := h
    subst h1
    exact Or.inr (Or.inl ⟨b1, rfl, h2, xHas_ok h3⟩)
  · rename_i k hb
    dsimp only at hb; subst hb
    simp only [Bool.and_eq_true, Bool.or_eq_true, decide_eq_true_eq, beq_iff_eq] at h
    exact Or.inr (Or.inr ⟨k, rfl, h⟩)
  · cases h
def xSok (own : String) (q : Nat × Nat) : Prop :=
  (q.2 = 0 → Cond.methodLink own q.1 objectInit ∈ xBig ∧ Cond.instanceMethod objectInit ∈ xBig ∧ Cond.code objectInit ⟨#[0xb1]⟩ 1 none ∈ xBig) ∧
  (q.2 = 1 → Cond.methodLink own q.1 Lib.Math.min.name ∈ xBig ∧ Cond.static Lib.Math.min.name ∈ xBig ∧ Cond.initialized "java/lang/Math" ∈ xBig ∧ Cond.code Lib.Math.min.name Lib.Math.min.code 2 (some .int) ∈ xBig) ∧
  (q.2 = 2 → Cond.methodLink own q.1 Lib.Math.max.name ∈ xBig ∧ Cond.static Lib.Math.max.name ∈ xBig ∧ Cond.initialized "java/lang/Math" ∈ xBig ∧ Cond.code Lib.Math.max.name Lib.Math.max.code 2 (some .int) ∈ xBig) ∧
  (q.2 = 3 → Cond.methodLink own q.1 arraycopyName ∈ xBig ∧ Cond.native arraycopyName ∈ xBig ∧ Cond.static arraycopyName ∈ xBig ∧ Cond.initialized "java/lang/System" ∈ xBig) ∧
  (q.2 = 4 → Cond.methodLink own q.1 yJ0_length_8abf5 ∈ xBig) ∧ (q.2 = 5 → Cond.methodLink own q.1 yJ0_indexOf_0f7a4 ∈ xBig)
def xSokB (own : String) (i : List Nat) (q : Nat × Nat) : Bool := match q.2 with
  | 0 => xHas (i.getD 0 0) (.methodLink own q.1 objectInit) && xHas (i.getD 1 0) (.instanceMethod objectInit) && xHas (i.getD 2 0) (.code objectInit ⟨#[0xb1]⟩ 1 none)
  | 1 => xHas (i.getD 0 0) (.methodLink own q.1 Lib.Math.min.name) && xHas (i.getD 1 0) (.static Lib.Math.min.name) && xHas (i.getD 2 0) (.initialized "java/lang/Math") && xHas (i.getD 3 0) (.code Lib.Math.min.name Lib.Math.min.code 2 (some .int))
  | 2 => xHas (i.getD 0 0) (.methodLink own q.1 Lib.Math.max.name) && xHas (i.getD 1 0) (.static Lib.Math.max.name) && xHas (i.getD 2 0) (.initialized "java/lang/Math") && xHas (i.getD 3 0) (.code Lib.Math.max.name Lib.Math.max.code 2 (some .int))
  | 3 => xHas (i.getD 0 0) (.methodLink own q.1 arraycopyName) && xHas (i.getD 1 0) (.native arraycopyName) && xHas (i.getD 2 0) (.static arraycopyName) && xHas (i.getD 3 0) (.initialized "java/lang/System")
  | 4 => xHas (i.getD 0 0) (.methodLink own q.1 yJ0_length_8abf5)
  | 5 => xHas (i.getD 0 0) (.methodLink own q.1 yJ0_indexOf_0f7a4)
  | _ => false
theorem xSokB_ok {own : String} {i : List Nat} {q : Nat × Nat} (h : xSokB own i q = true) : xSok own q := by
  unfold xSokB at h
  split at h <;> rename_i hq
  · simp only [Bool.and_eq_true] at h
    exact ⟨fun _ => ⟨xHas_ok h.1.1, xHas_ok h.1.2, xHas_ok h.2⟩, fun e => by omega, fun e => by omega, fun e => by omega, fun e => by omega, fun e => by omega⟩
  · simp only [Bool.and_eq_true] at h
    exact ⟨fun e => by omega, fun _ => ⟨xHas_ok h.1.1.1, xHas_ok h.1.1.2, xHas_ok h.1.2, xHas_ok h.2⟩, fun e => by omega, fun e => by omega, fun e => by omega, fun e => by omega⟩
  · simp only [Bool.and_eq_true] at h
    exact ⟨fun e => by omega, fun e => by omega, fun _ => ⟨xHas_ok h.1.1.1, xHas_ok h.1.1.2, xHas_ok h.1.2, xHas_ok h.2⟩, fun e => by omega, fun e => by omega, fun e => by omega⟩
  · simp only [Bool.and_eq_true] at h
    exact ⟨fun e => by omega, fun e => by omega, fun e => by omega, fun _ => ⟨xHas_ok h.1.1.1, xHas_ok h.1.1.2, xHas_ok h.1.2, xHas_ok h.2⟩, fun e => by omega, fun e => by omega⟩
  · exact ⟨fun e => by omega, fun e => by omega, fun e => by omega, fun e => by omega, fun _ => xHas_ok h, fun e => by omega⟩
  · exact ⟨fun e => by omega, fun e => by omega, fun e => by omega, fun e => by omega, fun e => by omega, fun _ => xHas_ok h⟩
  · cases h
/-- what a method's tables must be -/
def xMok (own : String) (cc : ByteArray) (M : xMi) : Prop :=
  (∀ q ∈ M.1, decode cc q.1 = .ok (q.2.1, q.2.2.1) ∧ (xLen q.2.1 = 0 ∨ xLen q.2.1 = q.2.2.1) ∧ xFaB M.2.1 q.2.1 q.2.2.2 = true) ∧ (∀ q ∈ M.2.1, xFok own q) ∧ (∀ q ∈ M.2.2.1, xKok own q) ∧ (∀ q ∈ M.2.2.2.1, xNok own q ∧ ∀ r, vwCl[q.2]? = some r → (xDt q.2).length = r.2.2) ∧ (∀ q ∈ M.2.2.2.2.1, xNqk own q) ∧ (∀ q ∈ M.2.2.2.2.2, xSok own q)
theorem xSum_ok {η : Nat → Int32} {ad : Nat → Nat} {N : Nat} : ∀ {as : List xV} {vs : List Value}, xAll (xOk η ad N) as vs → (vs.map fun v => v.category).sum = xSum as
  | [], [], _ => rfl
  | a :: as, v :: vs, g => by
    rw [List.map_cons, List.sum_cons, xSum_ok g.2, xOk_cat g.1]; rfl
  | [], _ :: _, g => g.elim
  | _ :: _, [], g => g.elim
theorem xAll_moved {η : Nat → Int32} {ad ad' : Nat → Nat} {N N' : Nat} (hN : N ≤ N') (had : ∀ k, k < N → ad' k = ad k) {as : List xV} {vs : List Value} (h : xAll (xOk η ad N) as vs) : xAll (xOk η ad' N') as vs := xAll_mono (fun _ _ g => xOk_moved hN had g) h
theorem xLs_moved {η : Nat → Int32} {ad ad' : Nat → Nat} {N N' : Nat} (hN : N ≤ N') (had : ∀ k, k < N → ad' k = ad k) {as : List (Nat × xV)} {vs : List (Nat × Value)} (h : xAll (xLok η ad N) as vs) : xAll (xLok η ad' N') as vs := xAll_mono (fun _ _ g => ⟨g.1, xOk_moved hN had g.2⟩) h
section XSO
variable {p : Program} {l : Launch} {e : Env} {R : Room} {s : State} {m : MethodId} {args : Array Value} {below : List Frame} {meth : Method} {c : Code} {Q : State → Prop}
variable {cc : ByteArray} {D : va_G} {cy : Nat → ClassId} {η : Nat → Int32} {A : Nat → Prop} {own : String} {Ts : List Cond} {ad0 : Nat → Nat} {nx0 nL : Nat}
def xGood (p : Program) (l : Launch) (e : Env) (R : Room) (s : State) (m : MethodId) (args : Array Value) (below : List Frame) (meth : Method) (c : Code) (Q : State → Prop) (D : va_G) (cy : Nat → ClassId) (η : Nat → Int32) (A : Nat → Prop) (ad0 : Nat → Nat) (nx0 nL : Nat) (pc : Nat) (ls : List (Nat × xV)) (st : List xV) (hp : xH) (nx cs ss : Nat) : Prop :=
  ∀ (ad : Nat → Nat) (lsC : Array Slot) (lv : List (Nat × Value)) (stC : List Value) (H : Heap) (locs : List Loc), (∀ k, k < nx0 → ad k = ad0 k) → nx0 ≤ nx → lv_has lsC nL lv → xAll (xLok η ad nx) ls lv → xAll (xOk η ad nx) st stC → xRel D cy η ad nx A s.heap hp H locs → W p l e R s m args below meth c H locs cs ss Q (F0 m pc lsC stC)
def xScOk (s : State) (A : Nat → Prop) (η : Nat → Int32) (ad0 : Nat → Nat) (nx0 : Nat) (sc : Option (Nat × List xV)) : Prop := ∀ z, sc = some z → z.1 < nx0 ∧ ∃ (L : Nat) (xs : Nat → Int32), va_X (ad0 z.1) L xs s s.heap ∧ ad0 z.1 < s.heap.size ∧ ¬ A (ad0 z.1) ∧ z.2.length = L ∧ ∀ (j : Nat) (a : xV), z.2[j]? = some a → ∀ (ad : Nat → Nat) (N : Nat), xOk η ad N a (.int (xs j))
def xConOk (own : String) (cons : List xCd) : Prop := ∀ q ∈ cons, ∃ M' : xM, xCok own (q.1.1, q.1.2.1, q.1.2.2.1, M', q.1.2.2.2.1) ∧ M'.2.2.1 = q.1.2.2.2.2 ∧ xHolds M' q.2
def xRetOk (p : Program) (l : Launch) (e : Env) (R : Room) (s : State) (m : MethodId) (args : Array Value) (below : List Frame) (meth : Method) (c : Code) (Q : State → Prop) (cc : ByteArray) (D : va_G) (cy : Nat → ClassId) (η : Nat → Int32) (A : Nat → Prop) (ad0 : Nat → Nat) (nx0 : Nat) (chk : Option xV → xH → Nat → Nat → Nat → Bool) : Prop :=
  ∀ (ins : Instr) (o : Option xV) (v : Option Value) (hp : xH) (nx cs ss : Nat) (ad : Nat → Nat) (lsC : Array Slot) (H : Heap) (locs : List Loc) (pc : Nat), xRk ins < 9 → (xRk ins = 3 ∧ o = none ∨ ∃ a, o = some a ∧ xRk ins = xKd a) → decode cc pc = .ok (ins, 1) → chk o hp nx cs ss = true → (∀ k, k < nx0 → ad k = ad0 k) → nx0 ≤ nx → xRet η ad nx o v → xRel D cy η ad nx A s.heap hp H locs → W p l e R s m args below meth c H locs cs ss Q (F0 m pc lsC v.toList)
end XSO

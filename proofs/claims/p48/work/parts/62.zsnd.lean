/-! what the exact walk proves -/
def zeRt (ad : Nat → Nat) : Option zeV → Option Value → Prop
  | none, none => True
  | some a, some v => zeOk ad a v
  | none, some _ => False
  | some _, none => False
def zeQc (Q : Option zeV → zeS → Prop) (D : va_G) (cy : Nat → ClassId) (ad : Nat → Nat) (dom : zeD) (ws : va_W) (sz : Nat) : Array Value → State → Outcome → State → Prop := fun _ st oc t =>
  (∃ (r : Option Value) (z : Option zeV) (σ' : zeS) (ws' : va_W), oc = .returned r ∧ zeRt ad z r ∧ zeW ad cy σ' dom ws' ∧ va_P D vwCl ws' t.heap ∧ va_D (va_A ws sz) ws' ∧ Q z σ') ∧ va_F (va_A ws sz) st t
/-- from every state that is told by σ the method returns, and Q holds of the answer and of the state behind it -/
def zeMet (M : xM) (rm : Nat × Nat) (dom : zeD) (as : List zeV) (σ : zeS) (Q : Option zeV → zeS → Prop) : Prop := ∀ (l : Launch) (D : va_G) (cy : Nat → ClassId) (ad : Nat → Nat) (sz : Nat) (av : List Value) (ws : va_W), xAll (zeOk ad) as av → zeW ad cy σ dom ws →
  Met l M.1 (xWd M) (xRm (rm.1, rm.2, 0, 0)) (xPc D cy ad av ws sz) (zeQc Q D cy ad dom ws sz) 0 0 (va_A ws sz)
/-- a call's place (100000 more: static), how many it takes, what it does -/
def zeTok (own : String) (M : xMi) (rm : Nat × Nat) (dom : zeD) (q : zeC) : Prop :=
  (∃ (npar : Nat) (M' : xM) (cl : Nat) (rm' : Nat × Nat), q.1 < 100000 ∧ xCok own (q.1, 0, npar, M', cl) ∧ q.2.1 = npar + 1 ∧ (rm'.1 + 1 ≤ rm.1 ∧ 8 + (M'.2.2.1 + 11) + rm'.2 ≤ rm.2) ∧ ∀ as σ Q, q.2.2 as σ Q → (∃ k, as.head? = some (.inr (.inr (some k))) ∧ zeLy k dom = some (.inl cl)) ∧ zeMet M' rm' dom as σ Q) ∨
  (∃ (kind npar : Nat) (M' : xM) (cl i : Nat) (rm' : Nat × Nat), q.1 = i + 100000 ∧ (kind = 1 ∨ kind = 4) ∧ xCok own (i, kind, npar, M', cl) ∧ q.2.1 = npar ∧ (rm'.1 + 1 ≤ rm.1 ∧ 8 + (M'.2.2.1 + 11) + rm'.2 ≤ rm.2) ∧ ∀ as σ Q, q.2.2 as σ Q → zeMet M' rm' dom as σ Q) ∨
  (∃ i, q.1 = i + 100000 ∧ q.2.1 = 2 ∧ 1 ≤ rm.1 ∧ 40 ≤ rm.2 ∧ ((i, 1) ∈ M.2.2.2.2.2 ∧ (∀ as σ Q, q.2.2 as σ Q → ∃ a b : Int, as = [.inl a, .inl b] ∧ Q (some (.inl (min a b))) σ) ∨ (i, 2) ∈ M.2.2.2.2.2 ∧ (∀ as σ Q, q.2.2 as σ Q → ∃ a b : Int, as = [.inl a, .inl b] ∧ Q (some (.inl (max a b))) σ))) ∨
  (q.1 < 100000 ∧ q.2.1 = 2 ∧ 4 ≤ rm.1 ∧ 131 ≤ rm.2 ∧ (q.1, 5) ∈ M.2.2.2.2.2 ∧ ∀ as σ Q, q.2.2 as σ Q → ∃ (j n : Nat) (y : Int), xStL j = some n ∧ as = [.inr (.inr (some j)), .inl y] ∧ ∀ r : Int, -1 ≤ r → r ≤ (n : Int) - 1 → Q (some (.inl r)) σ)
theorem zeSt2 {ad : Nat → Nat} {b a : zeV} {st : List zeV} {stC : List Value} (h : xAll (zeOk ad) (b :: a :: st) stC) : ∃ (w v : Value) (tC : List Value), stC = w :: v :: tC ∧ zeOk ad b w ∧ zeOk ad a v ∧ xAll (zeOk ad) st tC := by
  match stC, h with
  | [], h => exact h.elim
  | [_], h => exact h.2.elim
  | w :: v :: tC, h => exact ⟨w, v, tC, rfl, h.1, h.2.1, h.2.2⟩
theorem zeSt1 {ad : Nat → Nat} {a : zeV} {st : List zeV} {stC : List Value} (h : xAll (zeOk ad) (a :: st) stC) : ∃ (v : Value) (tC : List Value), stC = v :: tC ∧ zeOk ad a v ∧ xAll (zeOk ad) st tC := by
  match stC, h with
  | [], h => exact h.elim
  | v :: tC, h => exact ⟨v, tC, rfl, h.1, h.2⟩
theorem zeSum_ok {ad : Nat → Nat} : ∀ {as : List zeV} {vs : List Value}, xAll (zeOk ad) as vs → (vs.map fun v => v.category).sum = zeSum as
  | [], [], _ => rfl
  | a :: as, v :: vs, g => by
    rw [List.map_cons, List.sum_cons, zeSum_ok g.2, zeOk_cat g.1]; rfl
  | [], _ :: _, g => g.elim
  | _ :: _, [], g => g.elim
theorem zePop_ok {ad : Nat → Nat} : ∀ {n : Nat} {st acc as rest : List zeV} {sC accC : List Value}, zePop n st acc = some (as, rest) → xAll (zeOk ad) st sC → xAll (zeOk ad) acc accC → ∃ asC restC : List Value, accC.reverse ++ sC = asC.reverse ++ restC ∧ xAll (zeOk ad) as asC ∧ xAll (zeOk ad) rest restC ∧ as.length = n + acc.length
  | 0, st, acc, as, rest, sC, accC, h, g1, g2 => by
    simp only [zePop, Option.some.injEq, Prod.mk.injEq] at h
    obtain ⟨rfl, rfl⟩ := h
    exact ⟨accC, sC, rfl, g2, g1, by omega⟩
  | n + 1, v :: st, acc, as, rest, [], accC, h, g1, g2 => g1.elim
  | n + 1, v :: st, acc, as, rest, w :: sC, accC, h, g1, g2 => by
    obtain ⟨asC, restC, h1, h2, h3, h4⟩ := zePop_ok (accC := w :: accC) (sC := sC) (show zePop n st (v :: acc) = some (as, rest) from h) g1.2 ⟨g1.1, g2⟩
    exact ⟨asC, restC, by rw [← h1, List.reverse_cons, List.append_assoc]; rfl, h2, h3, by rw [h4, List.length_cons]; omega⟩
  | n + 1, [], acc, as, rest, sC, accC, h, _, _ => by simp [zePop] at h
theorem zeCs_ok {i : Nat} {z : Nat × zeT} : ∀ {cs : List zeC}, zeCs i cs = some z → (i, z) ∈ cs
  | [], h => by simp [zeCs] at h
  | q :: r, h => by
    unfold zeCs at h
    by_cases hq : (q.1 == i) = true
    · rw [hq, cond_true] at h; cases h
      have : q.1 = i := eq_of_beq hq
      rw [← this]; exact List.mem_cons_self
    · rw [show (q.1 == i) = false by simpa using hq, cond_false] at h
      exact List.mem_cons_of_mem _ (zeCs_ok h)
theorem zeMinA (x y : Int32) : (min x y).toInt = min x.toInt y.toInt := by
  show (if x ≤ y then x else y).toInt = _
  by_cases h : x ≤ y
  · rw [if_pos h]
    rw [Int32.le_iff_toInt_le] at h
    omega
  · rw [if_neg h]
    rw [Int32.le_iff_toInt_le] at h
    omega
theorem zeMaxA (x y : Int32) : (max x y).toInt = max x.toInt y.toInt := by
  show (if x ≤ y then y else x).toInt = _
  by_cases h : x ≤ y
  · rw [if_pos h]
    rw [Int32.le_iff_toInt_le] at h
    omega
  · rw [if_neg h]
    rw [Int32.le_iff_toInt_le] at h
    omega
section ZSO
variable {p : Program} {l : Launch} {e : Env} {R : Room} {s : State} {m : MethodId} {args : Array Value} {below : List Frame} {meth : Method} {c : Code} {Q : State → Prop}
variable {cc : ByteArray} {D : va_G} {cy : Nat → ClassId} {A : Nat → Prop} {own : String} {Ts : List Cond} {ad : Nat → Nat} {nL : Nat} {M : xMi} {dom : zeD}
def zeGd (p : Program) (l : Launch) (e : Env) (R : Room) (s : State) (m : MethodId) (args : Array Value) (below : List Frame) (meth : Method) (c : Code) (Q : State → Prop) (D : va_G) (cy : Nat → ClassId) (A : Nat → Prop) (ad : Nat → Nat) (nL : Nat) (dom : zeD) : zeG := fun pc ls st σ =>
  ∀ (lsC : Array Slot) (lv : List (Nat × Value)) (stC : List Value) (H : Heap) (locs : List Loc), lv_has lsC nL lv → xAll (zeLk ad) ls lv → xAll (zeOk ad) st stC → zeRel D cy ad A s.heap dom σ H locs → W p l e R s m args below meth c H locs 0 0 Q (F0 m pc lsC stC)
def zeX (p : Program) (R : Room) (s : State) (m : MethodId) (args : Array Value) (c : Code) (cc : ByteArray) (D : va_G) (cy : Nat → ClassId) (A : Nat → Prop) (own : String) (Ts : List Cond) (ad : Nat → Nat) (nL : Nat) (M : xMi) (dom : zeD) (rm : Nat × Nat) : Prop :=
  (p.tables.exec = Jvm.exec ∧ c.code = cc ∧ c.maxLocals = nL ∧ (∀ w ∈ Ts, w.before args s = true) ∧ (∀ w ∈ xBig, w ∈ Ts) ∧ s.vm.findClass own = some m.cls ∧ xKK D cy s ∧ (∀ q, s.heap.size ≤ q → A q) ∧ xSS ad A s) ∧ xMok own cc M ∧ zeNd dom = true ∧ rm.1 ≤ R.frames ∧ rm.2 ≤ R.locals
variable {rm : Nat × Nat} {pc : Nat} {σ : zeS} {H : Heap} {locs : List Loc} {ls : Array Slot} {rest : List Value}
theorem zeGetf_W (X : zeX p R s m args c cc D cy A own Ts ad nL M dom rm) (hR : zeRel D cy ad A s.heap dom σ H locs) {q : xFl} (hq : xFok own q) {k t : Nat} (hg : zeLy k dom = some (.inl q.2.1)) (ht : (xDt q.2.1)[q.2.2.1]? = some t) (hdg : decode cc pc = .ok (.getfield q.1, 3)) (kk : ∀ v, zeOk ad (zeFv σ k (q.2.2.1 : Int) t) v → W p l e R s m args below meth c H locs 0 0 Q (F0 m (pc + 3) ls (v :: rest))) : W p l e R s m args below meth c H locs 0 0 Q (F0 m pc ls (.ref (ad k) :: rest)) := by
  obtain ⟨⟨hx, hb, hml, hts, hbig, hown, hK, hA, hSS⟩, hM, hnd, -, -⟩ := X
  obtain ⟨ws, hw, hP, hD, hS⟩ := hR
  obtain ⟨⟨C, T, Nf⟩, h1, h2, h3, -⟩ := hq
  obtain ⟨i, x, e1, e2, -⟩ := zeLy_get hw hg hnd
  rcases x with x | ⟨ci, vs⟩
  · exact e2.elim
  obtain ⟨e3, e4, e5⟩ := e2
  dsimp only at e3 e4
  subst e3
  obtain ⟨v, e6, e7⟩ := e5 _ _ ht
  exact va_get (D := D) hx hb hts (fun w h => hbig w ((xCls h1).1 w h)) hown hK.1 hP i e1 h1 q.2.2.1 h2 (hts _ (hbig _ h3)) (fun _ h9 => h9) e6 hdg (kk v e7)
theorem zeD_set {A : Nat → Prop} {ws : va_W} {i : Nat} {k : Nat} {x y : va_E} (h : ws[i]? = some (k, x)) (hD : va_D A ws) : va_D A (ws.set i (k, y)) := by
  have hi : i < ws.length := (List.getElem?_eq_some_iff.mp h).1
  have key : ∀ (j : Nat) (q : Nat × va_E), (ws.set i (k, y))[j]? = some q → ∃ z, ws[j]? = some (q.1, z) := by
    intro j q hq
    rw [List.getElem?_set] at hq
    by_cases hij : i = j
    · rw [if_pos hij, if_pos hi] at hq
      cases hq
      exact ⟨x, by rw [← hij]; exact h⟩
    · rw [if_neg hij] at hq
      exact ⟨q.2, hq⟩
  refine ⟨fun a b p q hp hq he => ?_, fun a q hq => ?_⟩
  · obtain ⟨z1, g1⟩ := key a p hp
    obtain ⟨z2, g2⟩ := key b q hq
    exact hD.1 a b _ _ g1 g2 he
  · obtain ⟨z, g⟩ := key a q hq
    exact hD.2 a (q.1, z) g
theorem zePutf_W (X : zeX p R s m args c cc D cy A own Ts ad nL M dom rm) (hR : zeRel D cy ad A s.heap dom σ H locs) {q : xFl} (hq : xFok own q) (hfin : q.2.2.2.2 = false) {k t : Nat} (hg : zeLy k dom = some (.inl q.2.1)) (ht : (xDt q.2.1)[q.2.2.1]? = some t) {a : xV} {N : Nat} {v : Value} (hf : xFit q.2.2.2.1 a = true) (hav : xOk (fun _ => 0) ad N a v) {τ : zeS} (hτ : ∀ k', ¬ k' = k → zeSm σ τ k') (hτ2 : ∀ (j : Nat) (t' : Nat), ¬ j = q.2.2.1 → zeFv τ k (j : Int) t' = zeFv σ k (j : Int) t') (hτ3 : zeOk ad (zeFv τ k (q.2.2.1 : Int) t) v) (hdg : decode cc pc = .ok (.putfield q.1, 3)) (kk : ∀ (H1 : Heap) (locs1 : List Loc), zeRel D cy ad A s.heap dom τ H1 locs1 → W p l e R s m args below meth c H1 locs1 0 0 Q (F0 m (pc + 3) ls rest)) : W p l e R s m args below meth c H locs 0 0 Q (F0 m pc ls (v :: .ref (ad k) :: rest)) := by
  obtain ⟨⟨hx, hb, hml, hts, hbig, hown, hK, hA, hSS⟩, hM, hnd, -, -⟩ := X
  obtain ⟨ws, hw, hP, hD, hS⟩ := hR
  obtain ⟨⟨C, T, Nf⟩, h1, h2, h3, h9⟩ := hq
  have h9 := h9.resolve_left (fun z => by rw [z] at hf; cases a <;> simp [xFit] at hf)
  obtain ⟨ty, h4, h5, h6, h7⟩ := h9
  obtain ⟨i, x, e1, e2, e9⟩ := zeLy_get hw hg hnd
  rcases x with x | ⟨ci, vs⟩
  · exact e2.elim
  obtain ⟨e3, e4, e5⟩ := e2
  dsimp only at e3 e4 e5
  subst e3
  obtain ⟨hin, ty0, hty, hnm, -⟩ := xCls h1
  rw [← h6] at hf
  obtain ⟨hn, hfi⟩ := xFit_ok hf hav
  have hl : q.2.2.1 < vs.length := by rw [e4]; exact (List.getElem?_eq_some_iff.mp ht).1
  have up : zeCe ad cy τ k (.inl q.2.1) (.inr (q.2.1, vs.set q.2.2.1 v)) := by
    refine ⟨rfl, by rw [List.length_set]; exact e4, fun j t' hj => ?_⟩
    dsimp only
    by_cases hjk : j = q.2.2.1
    · subst hjk
      rw [ht] at hj
      cases hj
      exact ⟨v, by rw [List.getElem?_set, if_pos rfl, if_pos hl], hτ3⟩
    · obtain ⟨u, g1, g2⟩ := e5 j t' hj
      exact ⟨u, by rw [List.getElem?_set, if_neg (fun z => hjk z.symm)]; exact g1, by rw [hτ2 j t' hjk]; exact g2⟩
  exact va_put (D := D) hx hb hts (fun w h => hbig w (hin w h)) ty0 hty hnm hown hK.1 hP hD hS i e1 h1 q.2.2.1 h2 (hts _ (hbig _ h3)) (fun _ h9 => h9) (h4.trans hfin) h5 hn hfi hl hdg (fun H1 locs1 hP hD hS => kk H1 locs1 ⟨_, e9 τ _ hτ up, hP, hD, hS⟩)
theorem zeTy (cy : Nat → ClassId) {t : Nat} (ht : t < 6) : ∃ ty, (xTys cy)[t]? = some (cy t, ty) := by
  match t, ht with
  | 0, _ => exact ⟨_, rfl⟩
  | 1, _ => exact ⟨_, rfl⟩
  | 2, _ => exact ⟨_, rfl⟩
  | 3, _ => exact ⟨_, rfl⟩
  | 4, _ => exact ⟨_, rfl⟩
  | 5, _ => exact ⟨_, rfl⟩
theorem zeAlen_W (X : zeX p R s m args c cc D cy A own Ts ad nL M dom rm) (hR : zeRel D cy ad A s.heap dom σ H locs) {k : Nat} {q : Nat × Nat} (hg : zeLy k dom = some (.inr q)) (hn : q.2 < 2147483648) (hdg : decode cc pc = .ok (.arraylength, 1)) (kk : ∀ v, zeOk ad (.inl (q.2 : Int)) v → W p l e R s m args below meth c H locs 0 0 Q (F0 m (pc + 1) ls (v :: rest))) : W p l e R s m args below meth c H locs 0 0 Q (F0 m pc ls (.ref (ad k) :: rest)) := by
  obtain ⟨⟨hx, hb, hml, hts, hbig, hown, hK, hA, hSS⟩, hM, hnd, -, -⟩ := X
  obtain ⟨ws, hw, hP, hD, hS⟩ := hR
  obtain ⟨i, x, e1, e2, -⟩ := zeLy_get hw hg hnd
  obtain ⟨t, n⟩ := q
  rcases x with ⟨cA, n', x⟩ | x
  rotate_left
  · exact e2.elim
  obtain ⟨rfl, rfl, e5, -⟩ := e2
  obtain ⟨ty, ht⟩ := zeTy cy e5
  dsimp only at hn kk
  refine va_alen (D := D) hx hb hK.1 hP i t e1 ht rfl hdg (kk _ ⟨_, rfl, ?_⟩)
  rw [Int32.toInt_ofNat', xbm (by omega) (by omega)]
theorem zeIx {x : Int32} {n : Nat} (h1 : 0 ≤ x.toInt) (h2 : x.toInt < (n : Int)) : vp_in x n ∧ ((x.toNatClampNeg : Nat) : Int) = x.toInt ∧ x.toNatClampNeg < n := by
  obtain ⟨g1, g2, g3⟩ := xin_ok h1 h2
  exact ⟨g1, by rw [g2]; exact Int.toNat_of_nonneg h1, g3⟩
/-- an int out of a row -/
theorem zeAldI_W (X : zeX p R s m args c cc D cy A own Ts ad nL M dom rm) (hR : zeRel D cy ad A s.heap dom σ H locs) {k : Nat} {q : Nat × Nat} (hg : zeLy k dom = some (.inr q)) {ins : Instr} (hins : ins = .iaload ∧ q.1 = 1 ∨ ins = .baload ∧ (q.1 = 0 ∨ q.1 = 3)) {x : Int32} (h0 : 0 ≤ x.toInt) (h1 : x.toInt < (q.2 : Int)) (hdg : decode cc pc = .ok (ins, 1)) (kk : ∀ v, zeOk ad (.inl (σ.1 k x.toInt)) v → W p l e R s m args below meth c H locs 0 0 Q (F0 m (pc + 1) ls (v :: rest))) : W p l e R s m args below meth c H locs 0 0 Q (F0 m pc ls (.int x :: .ref (ad k) :: rest)) := by
  obtain ⟨⟨hx, hb, hml, hts, hbig, hown, hK, hA, hSS⟩, hM, hnd, -, -⟩ := X
  obtain ⟨ws, hw, hP, hD, hS⟩ := hR
  obtain ⟨j, y, e1, e2, -⟩ := zeLy_get hw hg hnd
  obtain ⟨t, n⟩ := q
  rcases y with ⟨cA, n', y⟩ | y
  rotate_left
  · exact e2.elim
  obtain ⟨rfl, rfl, e5, e6, e7, e8⟩ := e2
  dsimp only at h1 hins
  obtain ⟨g3, g4, g5⟩ := zeIx h0 h1
  obtain ⟨f, rfl, e9⟩ := e7 (by rcases hins with ⟨-, h⟩ | ⟨-, h | h⟩ <;> omega)
  have e9 := e9 _ g5
  rw [g4] at e9
  rcases hins with ⟨rfl, rfl⟩ | ⟨rfl, rfl | rfl⟩
  · exact va_iald (D := D) hx hb hK.1 hP j 1 e1 rfl g3 hdg (kk _ ⟨_, rfl, e9⟩)
  · exact va_bald (D := D) hx hb hK.1 hP j 0 e1 rfl g3 hdg (kk _ ⟨_, rfl, e9⟩)
  · exact va_zald (D := D) hx hb hK.1 hP j 3 e1 rfl g3 hdg (kk _ ⟨_, rfl, e9⟩)
theorem zeAldL_W (X : zeX p R s m args c cc D cy A own Ts ad nL M dom rm) (hR : zeRel D cy ad A s.heap dom σ H locs) {k : Nat} {q : Nat × Nat} (hg : zeLy k dom = some (.inr q)) (hq : q.1 = 2) {x : Int32} (h0 : 0 ≤ x.toInt) (h1 : x.toInt < (q.2 : Int)) (hdg : decode cc pc = .ok (.laload, 1)) (kk : ∀ v, zeOk ad (.inr (.inl (σ.2.1 k x.toInt))) v → W p l e R s m args below meth c H locs 0 0 Q (F0 m (pc + 1) ls (v :: rest))) : W p l e R s m args below meth c H locs 0 0 Q (F0 m pc ls (.int x :: .ref (ad k) :: rest)) := by
  obtain ⟨⟨hx, hb, hml, hts, hbig, hown, hK, hA, hSS⟩, hM, hnd, -, -⟩ := X
  obtain ⟨ws, hw, hP, hD, hS⟩ := hR
  obtain ⟨j, y, e1, e2, -⟩ := zeLy_get hw hg hnd
  obtain ⟨t, n⟩ := q
  rcases y with ⟨cA, n', y⟩ | y
  rotate_left
  · exact e2.elim
  obtain ⟨rfl, rfl, e5, e6, e7, e8⟩ := e2
  dsimp only at h1 hq
  subst hq
  obtain ⟨g3, g4, g5⟩ := zeIx h0 h1
  obtain ⟨f, rfl, e9⟩ := e6 rfl
  have e9 := e9 _ g5
  rw [g4] at e9
  exact va_lald (D := D) hx hb hK.1 hP j 2 e1 rfl g3 hdg (kk _ (by rw [← e9]; rfl))
theorem zeAldR_W (X : zeX p R s m args c cc D cy A own Ts ad nL M dom rm) (hR : zeRel D cy ad A s.heap dom σ H locs) {k : Nat} {q : Nat × Nat} (hg : zeLy k dom = some (.inr q)) (hq : q.1 = 4 ∨ q.1 = 5) {x : Int32} (h0 : 0 ≤ x.toInt) (h1 : x.toInt < (q.2 : Int)) (hdg : decode cc pc = .ok (.aaload, 1)) (kk : ∀ v, zeOk ad (.inr (.inr (σ.2.2 k x.toInt))) v → W p l e R s m args below meth c H locs 0 0 Q (F0 m (pc + 1) ls (v :: rest))) : W p l e R s m args below meth c H locs 0 0 Q (F0 m pc ls (.int x :: .ref (ad k) :: rest)) := by
  obtain ⟨⟨hx, hb, hml, hts, hbig, hown, hK, hA, hSS⟩, hM, hnd, -, -⟩ := X
  obtain ⟨ws, hw, hP, hD, hS⟩ := hR
  obtain ⟨j, y, e1, e2, -⟩ := zeLy_get hw hg hnd
  obtain ⟨t, n⟩ := q
  rcases y with ⟨cA, n', y⟩ | y
  rotate_left
  · exact e2.elim
  obtain ⟨rfl, rfl, e5, e6, e7, e8⟩ := e2
  dsimp only at h1 hq
  obtain ⟨g3, g4, g5⟩ := zeIx h0 h1
  obtain ⟨f, rfl, e9⟩ := e8 hq
  have e9 := e9 _ g5
  rw [g4] at e9
  have key : zeOk ad (.inr (.inr (σ.2.2 k x.toInt))) (va_rf (f x.toNatClampNeg)) := by
    rw [e9]
    cases σ.2.2 k x.toInt with
    | none => exact rfl
    | some k' => exact rfl
  rcases hq with rfl | rfl
  · exact va_aldq (D := D) hx hb hK.1 hP j 4 e1 rfl g3 hdg (kk _ key)
  · exact va_aldq (D := D) hx hb hK.1 hP j 5 e1 rfl g3 hdg (kk _ key)
theorem zuI_at (σ : zeS) (k : Nat) (i v j : Int) : (zuI σ k i v).1 k j = if j = i then v else σ.1 k j := by
  show (if k = k ∧ j = i then v else σ.1 k j) = _
  by_cases h : j = i
  · rw [if_pos ⟨rfl, h⟩, if_pos h]
  · rw [if_neg (fun z => h z.2), if_neg h]
theorem zuL_at (σ : zeS) (k : Nat) (i : Int) (v : Int64) (j : Int) : (zuL σ k i v).2.1 k j = if j = i then v else σ.2.1 k j := by
  show (if k = k ∧ j = i then v else σ.2.1 k j) = _
  by_cases h : j = i
  · rw [if_pos ⟨rfl, h⟩, if_pos h]
  · rw [if_neg (fun z => h z.2), if_neg h]
theorem zuR_at (σ : zeS) (k : Nat) (i : Int) (v : Option Nat) (j : Int) : (zuR σ k i v).2.2 k j = if j = i then v else σ.2.2 k j := by
  show (if k = k ∧ j = i then v else σ.2.2 k j) = _
  by_cases h : j = i
  · rw [if_pos ⟨rfl, h⟩, if_pos h]
  · rw [if_neg (fun z => h z.2), if_neg h]
theorem zeAstI_W (X : zeX p R s m args c cc D cy A own Ts ad nL M dom rm) (hR : zeRel D cy ad A s.heap dom σ H locs) {k : Nat} {q : Nat × Nat} (hg : zeLy k dom = some (.inr q)) {ins : Instr} {z : Int32} (hins : ins = .iastore ∧ q.1 = 1 ∨ ins = .bastore ∧ (q.1 = 0 ∧ (-128 ≤ z.toInt ∧ z.toInt ≤ 127) ∨ q.1 = 3 ∧ (z.toInt = 0 ∨ z.toInt = 1))) {x : Int32} (h0 : 0 ≤ x.toInt) (h1 : x.toInt < (q.2 : Int)) (hdg : decode cc pc = .ok (ins, 1)) (kk : ∀ (H1 : Heap) (locs1 : List Loc), zeRel D cy ad A s.heap dom (zuI σ k x.toInt z.toInt) H1 locs1 → W p l e R s m args below meth c H1 locs1 0 0 Q (F0 m (pc + 1) ls rest)) : W p l e R s m args below meth c H locs 0 0 Q (F0 m pc ls (.int z :: .int x :: .ref (ad k) :: rest)) := by
  obtain ⟨⟨hx, hb, hml, hts, hbig, hown, hK, hA, hSS⟩, hM, hnd, -, -⟩ := X
  obtain ⟨ws, hw, hP, hD, hS⟩ := hR
  obtain ⟨j, y, e1, e2, e10⟩ := zeLy_get hw hg hnd
  obtain ⟨t, n⟩ := q
  rcases y with ⟨cA, n', y⟩ | y
  rotate_left
  · exact e2.elim
  obtain ⟨rfl, rfl, e5, e6, e7, e8⟩ := e2
  dsimp only at h1 hins
  obtain ⟨g3, g4, g5⟩ := zeIx h0 h1
  obtain ⟨f, rfl, e9⟩ := e7 (by rcases hins with ⟨-, h⟩ | ⟨-, ⟨h, -⟩ | ⟨h, -⟩⟩ <;> omega)
  have ht2 : ¬ t = 2 ∧ ¬ (t = 4 ∨ t = 5) := by rcases hins with ⟨-, h⟩ | ⟨-, ⟨h, -⟩ | ⟨h, -⟩⟩ <;> omega
  have up : ∀ z' : Int32, z' = z → zeCe ad cy (zuI σ k x.toInt z.toInt) k (.inr (t, n')) (.inl (cy t, n', .inl (fun i => if i = x.toNatClampNeg then z' else f i))) := by
    rintro z' rfl
    refine ⟨rfl, rfl, e5, fun h => absurd h ht2.1, fun _ => ⟨_, rfl, fun i hi => ?_⟩, fun h => absurd h ht2.2⟩
    rw [zuI_at]
    by_cases hix : i = x.toNatClampNeg
    · rw [if_pos hix, if_pos (by rw [hix]; exact g4)]
    · rw [if_neg hix, if_neg (by omega)]
      exact e9 i hi
  rcases hins with ⟨rfl, rfl⟩ | ⟨rfl, ⟨rfl, hz1, hz2⟩ | ⟨rfl, hz⟩⟩
  · exact va_iast (D := D) hx hb hK.1 hP hD hS j 1 e1 rfl g3 hdg (fun H1 locs1 hP hD hS => kk H1 locs1 ⟨_, e10 _ _ (fun k' hk' => zuI_sm hk') (up z rfl), hP, hD, hS⟩)
  · have hz : vp_nar .byte z = z := by
      show z.toInt8.toInt32 = z
      apply Int32.toInt_inj.mp
      rw [Int8.toInt_toInt32, Int32.toInt_toInt8, xbm8 (by omega) (by omega)]
    exact va_bast (D := D) hx hb hK.1 hP hD hS j 0 e1 rfl g3 hdg (fun H1 locs1 hP hD hS => kk H1 locs1 ⟨_, e10 _ _ (fun k' hk' => zuI_sm hk') (up _ hz), hP, hD, hS⟩)
  · have hz : vp_nar .boolean z = z := by
      rcases x01 (x := z) (by omega) (by omega) with rfl | rfl <;> rfl
    exact va_zast (D := D) hx hb hK.1 hP hD hS j 3 e1 rfl g3 hdg (fun H1 locs1 hP hD hS => kk H1 locs1 ⟨_, e10 _ _ (fun k' hk' => zuI_sm hk') (up _ hz), hP, hD, hS⟩)
theorem zeAstL_W (X : zeX p R s m args c cc D cy A own Ts ad nL M dom rm) (hR : zeRel D cy ad A s.heap dom σ H locs) {k : Nat} {q : Nat × Nat} (hg : zeLy k dom = some (.inr q)) {z : Int64} (hq : q.1 = 2) {x : Int32} (h0 : 0 ≤ x.toInt) (h1 : x.toInt < (q.2 : Int)) (hdg : decode cc pc = .ok (.lastore, 1)) (kk : ∀ (H1 : Heap) (locs1 : List Loc), zeRel D cy ad A s.heap dom (zuL σ k x.toInt z) H1 locs1 → W p l e R s m args below meth c H1 locs1 0 0 Q (F0 m (pc + 1) ls rest)) : W p l e R s m args below meth c H locs 0 0 Q (F0 m pc ls (.long z :: .int x :: .ref (ad k) :: rest)) := by
  obtain ⟨⟨hx, hb, hml, hts, hbig, hown, hK, hA, hSS⟩, hM, hnd, -, -⟩ := X
  obtain ⟨ws, hw, hP, hD, hS⟩ := hR
  obtain ⟨j, y, e1, e2, e10⟩ := zeLy_get hw hg hnd
  obtain ⟨t, n⟩ := q
  rcases y with ⟨cA, n', y⟩ | y
  rotate_left
  · exact e2.elim
  obtain ⟨rfl, rfl, e5, e6, e7, e8⟩ := e2
  dsimp only at h1 hq
  subst hq
  obtain ⟨g3, g4, g5⟩ := zeIx h0 h1
  obtain ⟨f, rfl, e9⟩ := e6 rfl
  have up : zeCe ad cy (zuL σ k x.toInt z) k (.inr (2, n')) (.inl (cy 2, n', .inr (.inl (fun i => if i = x.toNatClampNeg then z else f i)))) := by
    refine ⟨rfl, rfl, e5, fun _ => ⟨_, rfl, fun i hi => ?_⟩, fun h => by omega, fun h => by omega⟩
    rw [zuL_at]
    by_cases hix : i = x.toNatClampNeg
    · rw [if_pos hix, if_pos (by rw [hix]; exact g4)]
    · rw [if_neg hix, if_neg (by omega)]
      exact e9 i hi
  exact va_last (D := D) hx hb hK.1 hP hD hS j 2 e1 rfl g3 hdg (fun H1 locs1 hP hD hS => kk H1 locs1 ⟨_, e10 _ _ (fun k' hk' => zuL_sm hk') up, hP, hD, hS⟩)
theorem zeD_mono {A B : Nat → Prop} {ws : va_W} (h : ∀ q, A q → B q) (hD : va_D A ws) : va_D B ws := ⟨hD.1, fun k q hq => h _ (hD.2 k q hq)⟩
/-- a call by its contract -/
theorem zeMet_W (X : zeX p R s m args c cc D cy A own Ts ad nL M dom rm) (hls : ls.size = nL) (hR : zeRel D cy ad A s.heap dom σ H locs) {i kind npar cl : Nat} {M' : xM} {rm' : Nat × Nat} {ins : Instr} (hq : xCok own (i, kind, npar, M', cl)) {as : List zeV} {asC : List Value} (has : xAll (zeOk ad) as asC) {Qz : Option zeV → zeS → Prop} (hm : zeMet M' rm' dom as σ Qz) (hroom : rm'.1 + 1 ≤ rm.1 ∧ 8 + (M'.2.2.1 + 11) + rm'.2 ≤ rm.2) (hrest : (rest.map fun v => v.category).sum ≤ 8)
    (hins : (kind = 0 ∧ ins = .invokevirtual i ∧ as.length = npar + 1 ∧ ∃ k, as.head? = some (.inr (.inr (some k))) ∧ zeLy k dom = some (.inl cl)) ∨ ((kind = 1 ∨ kind = 4) ∧ ins = .invokestatic i ∧ as.length = npar)) (hdg : decode cc pc = .ok (ins, 3))
    (kk : ∀ (z : Option zeV) (v : Option Value) (τ : zeS) (H1 : Heap) (locs1 : List Loc), zeRt ad z v → Qz z τ → zeRel D cy ad A s.heap dom τ H1 locs1 → W p l e R s m args below meth c H1 locs1 0 0 Q (F0 m (pc + 3) ls (v.toList ++ rest))) : W p l e R s m args below meth c H locs 0 0 Q (F0 m pc ls (asC.reverse ++ rest)) := by
  obtain ⟨⟨hx, hb, hml, hts, hbig, hown, hK, hA, hSS⟩, hM, hnd, hR1, hR2⟩ := X
  obtain ⟨ws, hw, hP, hD, hS⟩ := hR
  obtain ⟨hbase, k0, k1, k2, k4, k5⟩ := hq
  have hMm := hm l D cy ad H.size asC ws has hw
  have hfr : ∀ q, va_A ws H.size q → A q := by
    intro q h
    rcases h with ⟨k, x, h⟩ | h
    · exact hD.2 k _ h
    · exact hA q (Nat.le_trans hS.1 h)
  have hpc : ∀ U : State, U.heap = H → s.WarmedH U.vm → xPc D cy ad asC ws H.size asC.toArray U := fun U hU hW => ⟨rfl, by rw [hU], by rw [hU]; exact hP, xKK_warm hW hK, ⟨hD.1, fun _ _ _ => trivial⟩, xSS_warm hW (fun a h1 h2 => by rw [hU]; exact hS.2.1 a h1 h2) hfr hSS⟩
  have hG : ∀ w ∈ xWd M', w ∈ xBig := fun w hw => (List.mem_cons.mp hw).elim (fun e => by rw [e]; exact hbase.1) id
  have hroom' : (xRm (rm'.1, rm'.2, 0, 0)).frames + 1 ≤ R.frames ∧ 8 + (M'.2.2.1 + 11) + (xRm (rm'.1, rm'.2, 0, 0)).locals ≤ R.locals := ⟨Nat.le_trans hroom.1 hR1, Nat.le_trans hroom.2 hR2⟩
  have word : ∀ {w : Cond}, w ∈ xBig → w.before args s = true := fun h => hts _ (hbig _ h)
  have hcs : 0 + 0 ≤ R.cells ∧ 0 + 0 ≤ R.slots := ⟨Nat.zero_le _, Nat.zero_le _⟩
  have hlas : as.length = asC.length := xAll_len has
  have hrun : va_Run p l e R s m args below meth c H locs 0 0 0 0 (F0 m pc ls (asC.reverse ++ rest)) rest (zeQc Qz D cy ad dom ws H.size asC.toArray) (va_A ws H.size) := by
    have fix : CallFix p m c cc nL s args Ts own := ⟨hx, hb, hml, hown, hts⟩
    rcases hins with ⟨hk, rfl, hl, k, hhd, hget⟩ | ⟨hk, rfl, hl⟩
    · subst hk
      obtain ⟨g1, g2, g3, r, g4, g5⟩ := k0 rfl
      match as, asC, has with
      | [], _, _ => cases hhd
      | a :: as, [], g => exact g.elim
      | a :: as, b :: asC, g =>
        cases hhd
        obtain ⟨gh, gr⟩ := g
        have gh : b = .ref (ad k) := gh
        subst gh
        have hl' : asC.length = npar := by rw [List.length_cons] at hl hlas; rw [List.length_cons] at hlas; omega
        obtain ⟨j, x, e1, e2, -⟩ := zeLy_get hw hget hnd
        rcases x with x | ⟨ci, vs⟩
        · exact e2.elim
        obtain ⟨e3, -⟩ := e2
        dsimp only at e3
        subst e3
        have hrecv := va_recv hK.1 hP g4 e1
        rw [g5] at hrecv
        exact va_runV (C := M'.1.cls) (As := asC) fix hMm (cwV npar hts (xGoodIn hbig (fun w hw => by
          unfold wsV at hw
          rcases List.mem_append.mp hw with h | h
          · rcases List.mem_cons.mp h with rfl | h
            · exact g1
            rcases List.mem_cons.mp h with rfl | h
            · exact g2
            rcases List.mem_cons.mp h with rfl | h
            · exact g3
            rcases List.mem_cons.mp h with rfl | h
            · exact hbase.2.1
            · cases h
          · exact hG w h)) rfl rfl rfl ⟨rfl, hbase.2.2⟩ hroom') ⟨xBlind, hrecv, hpc⟩ rfl hl' hls (by rw [List.reverse_cons, List.append_assoc]; rfl) (lv_room hrest) hdg hcs
    · have hl' : asC.length = npar := by omega
      rcases hk with rfl | rfl
      · obtain ⟨g1, g2⟩ := k1 rfl
        exact va_runS (As := asC) fix hMm (va_cwS npar hts (xGoodIn hbig (fun w hw => by
          unfold va_wsS at hw
          rcases List.mem_append.mp hw with h | h
          · rcases List.mem_cons.mp h with rfl | h
            · exact g1
            rcases List.mem_cons.mp h with rfl | h
            · exact g2
            rcases List.mem_cons.mp h with rfl | h
            · exact hbase.2.1
            · cases h
          · exact hG w h)) rfl rfl rfl hbase.2.2 hroom') ⟨xBlind, hpc⟩ rfl hl' hls rfl (lv_room hrest) hdg hcs
      · obtain ⟨g1, g2⟩ := k4 rfl
        exact va_runSN (As := asC) fix hMm ⟨va_cnB npar hts (xGoodIn hbig hG) rfl rfl rfl (hK.2.2.2 _ g1) (word hbase.2.1) hbase.2.2 hroom', word g2, trivial⟩ ⟨xBlind, hpc⟩ rfl hl' hls rfl (lv_room hrest) hdg hcs
  refine xc_call hrun hS hfr (fun st v t hq => hq.2) (fun v st t locs1 hst hqc hS1 => ?_)
  obtain ⟨⟨r, z, τ, ws', hr, hret, hw', hP', hD', hz⟩, -⟩ := hqc
  cases hr
  exact kk z v τ t.heap locs1 hret hz ⟨ws', hw', hP', zeD_mono hfr hD', hS1⟩
end ZSO

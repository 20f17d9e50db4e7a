/-! the exact walk where cells were made already -/
section ZSO
variable {p : Program} {l : Launch} {e : Env} {R : Room} {s : State} {m : MethodId} {args : Array Value} {below : List Frame} {meth : Method} {c : Code} {Q : State → Prop}
variable {cc : ByteArray} {D : va_G} {cy : Nat → ClassId} {A : Nat → Prop} {own : String} {Ts : List Cond} {ad : Nat → Nat} {nL : Nat} {M : xMi} {dom : zeD}
def zeGdc (p : Program) (l : Launch) (e : Env) (R : Room) (s : State) (m : MethodId) (args : Array Value) (below : List Frame) (meth : Method) (c : Code) (Q : State → Prop) (D : va_G) (cy : Nat → ClassId) (A : Nat → Prop) (ad : Nat → Nat) (nL : Nat) (dom : zeD) (cs0 ss0 : Nat) : zeG := fun pc ls st σ =>
  ∀ (lsC : Array Slot) (lv : List (Nat × Value)) (stC : List Value) (H : Heap) (locs : List Loc), lv_has lsC nL lv → xAll (zeLk ad) ls lv → xAll (zeOk ad) st stC → zeRel D cy ad A s.heap dom σ H locs → W p l e R s m args below meth c H locs cs0 ss0 Q (F0 m pc lsC stC)
def zeXc (p : Program) (R : Room) (s : State) (m : MethodId) (args : Array Value) (c : Code) (cc : ByteArray) (D : va_G) (cy : Nat → ClassId) (A : Nat → Prop) (own : String) (Ts : List Cond) (ad : Nat → Nat) (nL : Nat) (M : xMi) (dom : zeD) (rm : Nat × Nat) (cs0 ss0 : Nat) : Prop :=
  (p.tables.exec = Jvm.exec ∧ c.code = cc ∧ c.maxLocals = nL ∧ (∀ w ∈ Ts, w.before args s = true) ∧ (∀ w ∈ xBig, w ∈ Ts) ∧ s.vm.findClass own = some m.cls ∧ xKK D cy s ∧ (∀ q, s.heap.size ≤ q → A q) ∧ xSS ad A s) ∧ xMok own cc M ∧ zeNd dom = true ∧ rm.1 ≤ R.frames ∧ rm.2 ≤ R.locals ∧ cs0 ≤ R.cells ∧ ss0 ≤ R.slots
variable {cs0 ss0 : Nat} {rm : Nat × Nat} {pc : Nat} {σ : zeS} {H : Heap} {locs : List Loc} {ls : Array Slot} {rest : List Value}
theorem zeGetf_Wc (X : zeXc p R s m args c cc D cy A own Ts ad nL M dom rm cs0 ss0) (hR : zeRel D cy ad A s.heap dom σ H locs) {q : xFl} (hq : xFok own q) {k t : Nat} (hg : zeLy k dom = some (.inl q.2.1)) (ht : (xDt q.2.1)[q.2.2.1]? = some t) (hdg : decode cc pc = .ok (.getfield q.1, 3)) (kk : ∀ v, zeOk ad (zeFv σ k (q.2.2.1 : Int) t) v → W p l e R s m args below meth c H locs cs0 ss0 Q (F0 m (pc + 3) ls (v :: rest))) : W p l e R s m args below meth c H locs cs0 ss0 Q (F0 m pc ls (.ref (ad k) :: rest)) := by
  obtain ⟨⟨hx, hb, hml, hts, hbig, hown, hK, hA, hSS⟩, hM, hnd, -, -⟩ := X
  obtain ⟨ws, hw, hP, hD, hS⟩ := hR
  obtain ⟨⟨C, T, Nf⟩, h1, h2, h3, -⟩ := hq
  obtain ⟨i, x, e1, e2, -⟩ := zeLy_get hw hg hnd
  rcases x with x | ⟨ci, vs⟩
  · exact e2.elim
  obtain ⟨e3, e4, e5⟩ := e2
  dsimp only at e3 e4
  subst e3
  obtain ⟨v, e6, e7⟩ := e5 _ _ ht
  exact va_get (D := D) hx hb hts (fun w h => hbig w ((xCls h1).1 w h)) hown hK.1 hP i e1 h1 q.2.2.1 h2 (hts _ (hbig _ h3)) (fun _ h9 => h9) e6 hdg (kk v e7)
theorem zePutf_Wc (X : zeXc p R s m args c cc D cy A own Ts ad nL M dom rm cs0 ss0) (hR : zeRel D cy ad A s.heap dom σ H locs) {q : xFl} (hq : xFok own q) (hfin : q.2.2.2.2 = false) {k t : Nat} (hg : zeLy k dom = some (.inl q.2.1)) (ht : (xDt q.2.1)[q.2.2.1]? = some t) {a : xV} {N : Nat} {v : Value} (hf : xFit q.2.2.2.1 a = true) (hav : xOk (fun _ => 0) ad N a v) {τ : zeS} (hτ : ∀ k', ¬ k' = k → zeSm σ τ k') (hτ2 : ∀ (j : Nat) (t' : Nat), ¬ j = q.2.2.1 → zeFv τ k (j : Int) t' = zeFv σ k (j : Int) t') (hτ3 : zeOk ad (zeFv τ k (q.2.2.1 : Int) t) v) (hdg : decode cc pc = .ok (.putfield q.1, 3)) (kk : ∀ (H1 : Heap) (locs1 : List Loc), zeRel D cy ad A s.heap dom τ H1 locs1 → W p l e R s m args below meth c H1 locs1 cs0 ss0 Q (F0 m (pc + 3) ls rest)) : W p l e R s m args below meth c H locs cs0 ss0 Q (F0 m pc ls (v :: .ref (ad k) :: rest)) := by
  obtain ⟨⟨hx, hb, hml, hts, hbig, hown, hK, hA, hSS⟩, hM, hnd, -, -⟩ := X
  obtain ⟨ws, hw, hP, hD, hS⟩ := hR
  obtain ⟨⟨C, T, Nf⟩, h1, h2, h3, h9⟩ := hq
  have h9 := h9.resolve_left (fun z => by rw [z] at hf; cases a <;> simp [xFit] at hf)
  obtain ⟨ty, h4, h5, h6, h7⟩ := h9
  obtain ⟨i, x, e1, e2, e9⟩ := zeLy_get hw hg hnd
  rcases x with x | ⟨ci, vs⟩
  · exact e2.elim
  obtain ⟨e3, e4, e5⟩ := e2
  dsimp only at e3 e4 e5
  subst e3
  obtain ⟨hin, ty0, hty, hnm, -⟩ := xCls h1
  rw [← h6] at hf
  obtain ⟨hn, hfi⟩ := xFit_ok hf hav
  have hl : q.2.2.1 < vs.length := by rw [e4]; exact (List.getElem?_eq_some_iff.mp ht).1
  have up : zeCe ad cy τ k (.inl q.2.1) (.inr (q.2.1, vs.set q.2.2.1 v)) := by
    refine ⟨rfl, by rw [List.length_set]; exact e4, fun j t' hj => ?_⟩
    dsimp only
    by_cases hjk : j = q.2.2.1
    · subst hjk
      rw [ht] at hj
      cases hj
      exact ⟨v, by rw [List.getElem?_set, if_pos rfl, if_pos hl], hτ3⟩
    · obtain ⟨u, g1, g2⟩ := e5 j t' hj
      exact ⟨u, by rw [List.getElem?_set, if_neg (fun z => hjk z.symm)]; exact g1, by rw [hτ2 j t' hjk]; exact g2⟩
  exact va_put (D := D) hx hb hts (fun w h => hbig w (hin w h)) ty0 hty hnm hown hK.1 hP hD hS i e1 h1 q.2.2.1 h2 (hts _ (hbig _ h3)) (fun _ h9 => h9) (h4.trans hfin) h5 hn hfi hl hdg (fun H1 locs1 hP hD hS => kk H1 locs1 ⟨_, e9 τ _ hτ up, hP, hD, hS⟩)
theorem zeAlen_Wc (X : zeXc p R s m args c cc D cy A own Ts ad nL M dom rm cs0 ss0) (hR : zeRel D cy ad A s.heap dom σ H locs) {k : Nat} {q : Nat × Nat} (hg : zeLy k dom = some (.inr q)) (hn : q.2 < 2147483648) (hdg : decode cc pc = .ok (.arraylength, 1)) (kk : ∀ v, zeOk ad (.inl (q.2 : Int)) v → W p l e R s m args below meth c H locs cs0 ss0 Q (F0 m (pc + 1) ls (v :: rest))) : W p l e R s m args below meth c H locs cs0 ss0 Q (F0 m pc ls (.ref (ad k) :: rest)) := by
  obtain ⟨⟨hx, hb, hml, hts, hbig, hown, hK, hA, hSS⟩, hM, hnd, -, -⟩ := X
  obtain ⟨ws, hw, hP, hD, hS⟩ := hR
  obtain ⟨i, x, e1, e2, -⟩ := zeLy_get hw hg hnd
  obtain ⟨t, n⟩ := q
  rcases x with ⟨cA, n', x⟩ | x
  rotate_left
  · exact e2.elim
  obtain ⟨rfl, rfl, e5, -⟩ := e2
  obtain ⟨ty, ht⟩ := zeTy cy e5
  dsimp only at hn kk
  refine va_alen (D := D) hx hb hK.1 hP i t e1 ht rfl hdg (kk _ ⟨_, rfl, ?_⟩)
  rw [Int32.toInt_ofNat', xbm (by omega) (by omega)]
/-- an int out of a row -/
theorem zeAldI_Wc (X : zeXc p R s m args c cc D cy A own Ts ad nL M dom rm cs0 ss0) (hR : zeRel D cy ad A s.heap dom σ H locs) {k : Nat} {q : Nat × Nat} (hg : zeLy k dom = some (.inr q)) {ins : Instr} (hins : ins = .iaload ∧ q.1 = 1 ∨ ins = .baload ∧ (q.1 = 0 ∨ q.1 = 3)) {x : Int32} (h0 : 0 ≤ x.toInt) (h1 : x.toInt < (q.2 : Int)) (hdg : decode cc pc = .ok (ins, 1)) (kk : ∀ v, zeOk ad (.inl (σ.1 k x.toInt)) v → W p l e R s m args below meth c H locs cs0 ss0 Q (F0 m (pc + 1) ls (v :: rest))) : W p l e R s m args below meth c H locs cs0 ss0 Q (F0 m pc ls (.int x :: .ref (ad k) :: rest)) := by
  obtain ⟨⟨hx, hb, hml, hts, hbig, hown, hK, hA, hSS⟩, hM, hnd, -, -⟩ := X
  obtain ⟨ws, hw, hP, hD, hS⟩ := hR
  obtain ⟨j, y, e1, e2, -⟩ := zeLy_get hw hg hnd
  obtain ⟨t, n⟩ := q
  rcases y with ⟨cA, n', y⟩ | y
  rotate_left
  · exact e2.elim
  obtain ⟨rfl, rfl, e5, e6, e7, e8⟩ := e2
  dsimp only at h1 hins
  obtain ⟨g3, g4, g5⟩ := zeIx h0 h1
  obtain ⟨f, rfl, e9⟩ := e7 (by rcases hins with ⟨-, h⟩ | ⟨-, h | h⟩ <;> omega)
  have e9 := e9 _ g5
  rw [g4] at e9
  rcases hins with ⟨rfl, rfl⟩ | ⟨rfl, rfl | rfl⟩
  · exact va_iald (D := D) hx hb hK.1 hP j 1 e1 rfl g3 hdg (kk _ ⟨_, rfl, e9⟩)
  · exact va_bald (D := D) hx hb hK.1 hP j 0 e1 rfl g3 hdg (kk _ ⟨_, rfl, e9⟩)
  · exact va_zald (D := D) hx hb hK.1 hP j 3 e1 rfl g3 hdg (kk _ ⟨_, rfl, e9⟩)
theorem zeAldL_Wc (X : zeXc p R s m args c cc D cy A own Ts ad nL M dom rm cs0 ss0) (hR : zeRel D cy ad A s.heap dom σ H locs) {k : Nat} {q : Nat × Nat} (hg : zeLy k dom = some (.inr q)) (hq : q.1 = 2) {x : Int32} (h0 : 0 ≤ x.toInt) (h1 : x.toInt < (q.2 : Int)) (hdg : decode cc pc = .ok (.laload, 1)) (kk : ∀ v, zeOk ad (.inr (.inl (σ.2.1 k x.toInt))) v → W p l e R s m args below meth c H locs cs0 ss0 Q (F0 m (pc + 1) ls (v :: rest))) : W p l e R s m args below meth c H locs cs0 ss0 Q (F0 m pc ls (.int x :: .ref (ad k) :: rest)) := by
  obtain ⟨⟨hx, hb, hml, hts, hbig, hown, hK, hA, hSS⟩, hM, hnd, -, -⟩ := X
  obtain ⟨ws, hw, hP, hD, hS⟩ := hR
  obtain ⟨j, y, e1, e2, -⟩ := zeLy_get hw hg hnd
  obtain ⟨t, n⟩ := q
  rcases y with ⟨cA, n', y⟩ | y
  rotate_left
  · exact e2.elim
  obtain ⟨rfl, rfl, e5, e6, e7, e8⟩ := e2
  dsimp only at h1 hq
  subst hq
  obtain ⟨g3, g4, g5⟩ := zeIx h0 h1
  obtain ⟨f, rfl, e9⟩ := e6 rfl
  have e9 := e9 _ g5
  rw [g4] at e9
  exact va_lald (D := D) hx hb hK.1 hP j 2 e1 rfl g3 hdg (kk _ (by rw [← e9]; rfl))
theorem zeAldR_Wc (X : zeXc p R s m args c cc D cy A own Ts ad nL M dom rm cs0 ss0) (hR : zeRel D cy ad A s.heap dom σ H locs) {k : Nat} {q : Nat × Nat} (hg : zeLy k dom = some (.inr q)) (hq : q.1 = 4 ∨ q.1 = 5) {x : Int32} (h0 : 0 ≤ x.toInt) (h1 : x.toInt < (q.2 : Int)) (hdg : decode cc pc = .ok (.aaload, 1)) (kk : ∀ v, zeOk ad (.inr (.inr (σ.2.2 k x.toInt))) v → W p l e R s m args below meth c H locs cs0 ss0 Q (F0 m (pc + 1) ls (v :: rest))) : W p l e R s m args below meth c H locs cs0 ss0 Q (F0 m pc ls (.int x :: .ref (ad k) :: rest)) := by
  obtain ⟨⟨hx, hb, hml, hts, hbig, hown, hK, hA, hSS⟩, hM, hnd, -, -⟩ := X
  obtain ⟨ws, hw, hP, hD, hS⟩ := hR
  obtain ⟨j, y, e1, e2, -⟩ := zeLy_get hw hg hnd
  obtain ⟨t, n⟩ := q
  rcases y with ⟨cA, n', y⟩ | y
  rotate_left
  · exact e2.elim
  obtain ⟨rfl, rfl, e5, e6, e7, e8⟩ := e2
  dsimp only at h1 hq
  obtain ⟨g3, g4, g5⟩ := zeIx h0 h1
  obtain ⟨f, rfl, e9⟩ := e8 hq
  have e9 := e9 _ g5
  rw [g4] at e9
  have key : zeOk ad (.inr (.inr (σ.2.2 k x.toInt))) (va_rf (f x.toNatClampNeg)) := by
    rw [e9]
    cases σ.2.2 k x.toInt with
    | none => exact rfl
    | some k' => exact rfl
  rcases hq with rfl | rfl
  · exact va_aldq (D := D) hx hb hK.1 hP j 4 e1 rfl g3 hdg (kk _ key)
  · exact va_aldq (D := D) hx hb hK.1 hP j 5 e1 rfl g3 hdg (kk _ key)
theorem zeAstI_Wc (X : zeXc p R s m args c cc D cy A own Ts ad nL M dom rm cs0 ss0) (hR : zeRel D cy ad A s.heap dom σ H locs) {k : Nat} {q : Nat × Nat} (hg : zeLy k dom = some (.inr q)) {ins : Instr} {z : Int32} (hins : ins = .iastore ∧ q.1 = 1 ∨ ins = .bastore ∧ (q.1 = 0 ∧ (-128 ≤ z.toInt ∧ z.toInt ≤ 127) ∨ q.1 = 3 ∧ (z.toInt = 0 ∨ z.toInt = 1))) {x : Int32} (h0 : 0 ≤ x.toInt) (h1 : x.toInt < (q.2 : Int)) (hdg : decode cc pc = .ok (ins, 1)) (kk : ∀ (H1 : Heap) (locs1 : List Loc), zeRel D cy ad A s.heap dom (zuI σ k x.toInt z.toInt) H1 locs1 → W p l e R s m args below meth c H1 locs1 cs0 ss0 Q (F0 m (pc + 1) ls rest)) : W p l e R s m args below meth c H locs cs0 ss0 Q (F0 m pc ls (.int z :: .int x :: .ref (ad k) :: rest)) := by
  obtain ⟨⟨hx, hb, hml, hts, hbig, hown, hK, hA, hSS⟩, hM, hnd, -, -⟩ := X
  obtain ⟨ws, hw, hP, hD, hS⟩ := hR
  obtain ⟨j, y, e1, e2, e10⟩ := zeLy_get hw hg hnd
  obtain ⟨t, n⟩ := q
  rcases y with ⟨cA, n', y⟩ | y
  rotate_left
  · exact e2.elim
  obtain ⟨rfl, rfl, e5, e6, e7, e8⟩ := e2
  dsimp only at h1 hins
  obtain ⟨g3, g4, g5⟩ := zeIx h0 h1
  obtain ⟨f, rfl, e9⟩ := e7 (by rcases hins with ⟨-, h⟩ | ⟨-, ⟨h, -⟩ | ⟨h, -⟩⟩ <;> omega)
  have ht2 : ¬ t = 2 ∧ ¬ (t = 4 ∨ t = 5) := by rcases hins with ⟨-, h⟩ | ⟨-, ⟨h, -⟩ | ⟨h, -⟩⟩ <;> omega
  have up : ∀ z' : Int32, z' = z → zeCe ad cy (zuI σ k x.toInt z.toInt) k (.inr (t, n')) (.inl (cy t, n', .inl (fun i => if i = x.toNatClampNeg then z' else f i))) := by
    rintro z' rfl
    refine ⟨rfl, rfl, e5, fun h => absurd h ht2.1, fun _ => ⟨_, rfl, fun i hi => ?_⟩, fun h => absurd h ht2.2⟩
    rw [zuI_at]
    by_cases hix : i = x.toNatClampNeg
    · rw [if_pos hix, if_pos (by rw [hix]; exact g4)]
    · rw [if_neg hix, if_neg (by omega)]
      exact e9 i hi
  rcases hins with ⟨rfl, rfl⟩ | ⟨rfl, ⟨rfl, hz1, hz2⟩ | ⟨rfl, hz⟩⟩
  · exact va_iast (D := D) hx hb hK.1 hP hD hS j 1 e1 rfl g3 hdg (fun H1 locs1 hP hD hS => kk H1 locs1 ⟨_, e10 _ _ (fun k' hk' => zuI_sm hk') (up z rfl), hP, hD, hS⟩)
  · have hz : vp_nar .byte z = z := by
      show z.toInt8.toInt32 = z
      apply Int32.toInt_inj.mp
      rw [Int8.toInt_toInt32, Int32.toInt_toInt8, xbm8 (by omega) (by omega)]
    exact va_bast (D := D) hx hb hK.1 hP hD hS j 0 e1 rfl g3 hdg (fun H1 locs1 hP hD hS => kk H1 locs1 ⟨_, e10 _ _ (fun k' hk' => zuI_sm hk') (up _ hz), hP, hD, hS⟩)
  · have hz : vp_nar .boolean z = z := by
      rcases x01 (x := z) (by omega) (by omega) with rfl | rfl <;> rfl
    exact va_zast (D := D) hx hb hK.1 hP hD hS j 3 e1 rfl g3 hdg (fun H1 locs1 hP hD hS => kk H1 locs1 ⟨_, e10 _ _ (fun k' hk' => zuI_sm hk') (up _ hz), hP, hD, hS⟩)
theorem zeAstL_Wc (X : zeXc p R s m args c cc D cy A own Ts ad nL M dom rm cs0 ss0) (hR : zeRel D cy ad A s.heap dom σ H locs) {k : Nat} {q : Nat × Nat} (hg : zeLy k dom = some (.inr q)) {z : Int64} (hq : q.1 = 2) {x : Int32} (h0 : 0 ≤ x.toInt) (h1 : x.toInt < (q.2 : Int)) (hdg : decode cc pc = .ok (.lastore, 1)) (kk : ∀ (H1 : Heap) (locs1 : List Loc), zeRel D cy ad A s.heap dom (zuL σ k x.toInt z) H1 locs1 → W p l e R s m args below meth c H1 locs1 cs0 ss0 Q (F0 m (pc + 1) ls rest)) : W p l e R s m args below meth c H locs cs0 ss0 Q (F0 m pc ls (.long z :: .int x :: .ref (ad k) :: rest)) := by
  obtain ⟨⟨hx, hb, hml, hts, hbig, hown, hK, hA, hSS⟩, hM, hnd, -, -⟩ := X
  obtain ⟨ws, hw, hP, hD, hS⟩ := hR
  obtain ⟨j, y, e1, e2, e10⟩ := zeLy_get hw hg hnd
  obtain ⟨t, n⟩ := q
  rcases y with ⟨cA, n', y⟩ | y
  rotate_left
  · exact e2.elim
  obtain ⟨rfl, rfl, e5, e6, e7, e8⟩ := e2
  dsimp only at h1 hq
  subst hq
  obtain ⟨g3, g4, g5⟩ := zeIx h0 h1
  obtain ⟨f, rfl, e9⟩ := e6 rfl
  have up : zeCe ad cy (zuL σ k x.toInt z) k (.inr (2, n')) (.inl (cy 2, n', .inr (.inl (fun i => if i = x.toNatClampNeg then z else f i)))) := by
    refine ⟨rfl, rfl, e5, fun _ => ⟨_, rfl, fun i hi => ?_⟩, fun h => by omega, fun h => by omega⟩
    rw [zuL_at]
    by_cases hix : i = x.toNatClampNeg
    · rw [if_pos hix, if_pos (by rw [hix]; exact g4)]
    · rw [if_neg hix, if_neg (by omega)]
      exact e9 i hi
  exact va_last (D := D) hx hb hK.1 hP hD hS j 2 e1 rfl g3 hdg (fun H1 locs1 hP hD hS => kk H1 locs1 ⟨_, e10 _ _ (fun k' hk' => zuL_sm hk') up, hP, hD, hS⟩)
/-- a call by its contract -/
theorem zeMet_Wc (X : zeXc p R s m args c cc D cy A own Ts ad nL M dom rm cs0 ss0) (hls : ls.size = nL) (hR : zeRel D cy ad A s.heap dom σ H locs) {i kind npar cl : Nat} {M' : xM} {rm' : Nat × Nat} {ins : Instr} (hq : xCok own (i, kind, npar, M', cl)) {as : List zeV} {asC : List Value} (has : xAll (zeOk ad) as asC) {Qz : Option zeV → zeS → Prop} (hm : zeMet M' rm' dom as σ Qz) (hroom : rm'.1 + 1 ≤ rm.1 ∧ 8 + (M'.2.2.1 + 11) + rm'.2 ≤ rm.2) (hrest : (rest.map fun v => v.category).sum ≤ 8)
    (hins : (kind = 0 ∧ ins = .invokevirtual i ∧ as.length = npar + 1 ∧ ∃ k, as.head? = some (.inr (.inr (some k))) ∧ zeLy k dom = some (.inl cl)) ∨ ((kind = 1 ∨ kind = 4) ∧ ins = .invokestatic i ∧ as.length = npar)) (hdg : decode cc pc = .ok (ins, 3))
    (kk : ∀ (z : Option zeV) (v : Option Value) (τ : zeS) (H1 : Heap) (locs1 : List Loc), zeRt ad z v → Qz z τ → zeRel D cy ad A s.heap dom τ H1 locs1 → W p l e R s m args below meth c H1 locs1 cs0 ss0 Q (F0 m (pc + 3) ls (v.toList ++ rest))) : W p l e R s m args below meth c H locs cs0 ss0 Q (F0 m pc ls (asC.reverse ++ rest)) := by
  obtain ⟨⟨hx, hb, hml, hts, hbig, hown, hK, hA, hSS⟩, hM, hnd, hR1, hR2, hcs0⟩ := X
  obtain ⟨ws, hw, hP, hD, hS⟩ := hR
  obtain ⟨hbase, k0, k1, k2, k4, k5⟩ := hq
  have hMm := hm l D cy ad H.size asC ws has hw
  have hfr : ∀ q, va_A ws H.size q → A q := by
    intro q h
    rcases h with ⟨k, x, h⟩ | h
    · exact hD.2 k _ h
    · exact hA q (Nat.le_trans hS.1 h)
  have hpc : ∀ U : State, U.heap = H → s.WarmedH U.vm → xPc D cy ad asC ws H.size asC.toArray U := fun U hU hW => ⟨rfl, by rw [hU], by rw [hU]; exact hP, xKK_warm hW hK, ⟨hD.1, fun _ _ _ => trivial⟩, xSS_warm hW (fun a h1 h2 => by rw [hU]; exact hS.2.1 a h1 h2) hfr hSS⟩
  have hG : ∀ w ∈ xWd M', w ∈ xBig := fun w hw => (List.mem_cons.mp hw).elim (fun e => by rw [e]; exact hbase.1) id
  have hroom' : (xRm (rm'.1, rm'.2, 0, 0)).frames + 1 ≤ R.frames ∧ 8 + (M'.2.2.1 + 11) + (xRm (rm'.1, rm'.2, 0, 0)).locals ≤ R.locals := ⟨Nat.le_trans hroom.1 hR1, Nat.le_trans hroom.2 hR2⟩
  have word : ∀ {w : Cond}, w ∈ xBig → w.before args s = true := fun h => hts _ (hbig _ h)
  have hcs : cs0 + 0 ≤ R.cells ∧ ss0 + 0 ≤ R.slots := hcs0
  have hlas : as.length = asC.length := xAll_len has
  have hrun : va_Run p l e R s m args below meth c H locs cs0 ss0 0 0 (F0 m pc ls (asC.reverse ++ rest)) rest (zeQc Qz D cy ad dom ws H.size asC.toArray) (va_A ws H.size) := by
    have fix : CallFix p m c cc nL s args Ts own := ⟨hx, hb, hml, hown, hts⟩
    rcases hins with ⟨hk, rfl, hl, k, hhd, hget⟩ | ⟨hk, rfl, hl⟩
    · subst hk
      obtain ⟨g1, g2, g3, r, g4, g5⟩ := k0 rfl
      match as, asC, has with
      | [], _, _ => cases hhd
      | a :: as, [], g => exact g.elim
      | a :: as, b :: asC, g =>
        cases hhd
        obtain ⟨gh, gr⟩ := g
        have gh : b = .ref (ad k) := gh
        subst gh
        have hl' : asC.length = npar := by rw [List.length_cons] at hl hlas; rw [List.length_cons] at hlas; omega
        obtain ⟨j, x, e1, e2, -⟩ := zeLy_get hw hget hnd
        rcases x with x | ⟨ci, vs⟩
        · exact e2.elim
        obtain ⟨e3, -⟩ := e2
        dsimp only at e3
        subst e3
        have hrecv := va_recv hK.1 hP g4 e1
        rw [g5] at hrecv
        exact va_runV (C := M'.1.cls) (As := asC) fix hMm (cwV npar hts (xGoodIn hbig (fun w hw => by
          unfold wsV at hw
          rcases List.mem_append.mp hw with h | h
          · rcases List.mem_cons.mp h with rfl | h
            · exact g1
            rcases List.mem_cons.mp h with rfl | h
            · exact g2
            rcases List.mem_cons.mp h with rfl | h
            · exact g3
            rcases List.mem_cons.mp h with rfl | h
            · exact hbase.2.1
            · cases h
          · exact hG w h)) rfl rfl rfl ⟨rfl, hbase.2.2⟩ hroom') ⟨xBlind, hrecv, hpc⟩ rfl hl' hls (by rw [List.reverse_cons, List.append_assoc]; rfl) (lv_room hrest) hdg hcs
    · have hl' : asC.length = npar := by omega
      rcases hk with rfl | rfl
      · obtain ⟨g1, g2⟩ := k1 rfl
        exact va_runS (As := asC) fix hMm (va_cwS npar hts (xGoodIn hbig (fun w hw => by
          unfold va_wsS at hw
          rcases List.mem_append.mp hw with h | h
          · rcases List.mem_cons.mp h with rfl | h
            · exact g1
            rcases List.mem_cons.mp h with rfl | h
            · exact g2
            rcases List.mem_cons.mp h with rfl | h
            · exact hbase.2.1
            · cases h
          · exact hG w h)) rfl rfl rfl hbase.2.2 hroom') ⟨xBlind, hpc⟩ rfl hl' hls rfl (lv_room hrest) hdg hcs
      · obtain ⟨g1, g2⟩ := k4 rfl
        exact va_runSN (As := asC) fix hMm ⟨va_cnB npar hts (xGoodIn hbig hG) rfl rfl rfl (hK.2.2.2 _ g1) (word hbase.2.1) hbase.2.2 hroom', word g2, trivial⟩ ⟨xBlind, hpc⟩ rfl hl' hls rfl (lv_room hrest) hdg hcs
  refine xc_call hrun hS hfr (fun st v t hq => hq.2) (fun v st t locs1 hst hqc hS1 => ?_)
  obtain ⟨⟨r, z, τ, ws', hr, hret, hw', hP', hD', hz⟩, -⟩ := hqc
  cases hr
  exact kk z v τ t.heap locs1 hret hz ⟨ws', hw', hP', zeD_mono hfr hD', hS1⟩
end ZSO

/-! each instruction is right; the whole walk; a method's contract out of it -/
section ZDO
variable {p : Program} {l : Launch} {e : Env} {R : Room} {s : State} {m : MethodId} {args : Array Value} {below : List Frame} {meth : Method} {c : Code} {Q : State → Prop}
variable {cc : ByteArray} {D : va_G} {cy : Nat → ClassId} {A : Nat → Prop} {own : String} {Ts : List Cond} {ad : Nat → Nat} {nL : Nat} {M : xMi} {dom : zeD} {rm : Nat × Nat} {cs0 ss0 : Nat}
def zeRetOkc (p : Program) (l : Launch) (e : Env) (R : Room) (s : State) (m : MethodId) (args : Array Value) (below : List Frame) (meth : Method) (c : Code) (Q : State → Prop) (cc : ByteArray) (D : va_G) (cy : Nat → ClassId) (A : Nat → Prop) (ad : Nat → Nat) (dom : zeD) (Rz : Option zeV → zeS → Prop) (cs0 ss0 : Nat) : Prop :=
  ∀ (ins : Instr) (z : Option zeV) (v : Option Value) (τ : zeS) (lsC : Array Slot) (H : Heap) (locs : List Loc) (pc : Nat), (xRk ins = 3 ∧ z = none ∨ ∃ a, z = some a ∧ xRk ins = zeKd a) → decode cc pc = .ok (ins, 1) → Rz z τ → zeRt ad z v → zeRel D cy ad A s.heap dom τ H locs → W p l e R s m args below meth c H locs cs0 ss0 Q (F0 m pc lsC v.toList)
set_option maxHeartbeats 16000000 in
theorem zeDo_okc (X : zeXc p R s m args c cc D cy A own Ts ad nL M dom rm cs0 ss0) {cs : List zeC} (hcs : ∀ q ∈ cs, zeTok own M rm dom q) {Rz : Option zeV → zeS → Prop} (hret : zeRetOkc p l e R s m args below meth c Q cc D cy A ad dom Rz cs0 ss0) {ins ni : Instr} {pc len : Nat} (hdg : decode cc pc = .ok (ins, len)) (hlen : xLen ins = 0 ∨ xLen ins = len) (hn : zeN M nL pc ins = some ni) {ls : zeLs} {st : List zeV} {σ : zeS} {S : zeLs → List zeV → zeS → Prop} {J : Int → zeLs → List zeV → zeS → Prop} (h : zeDo cs dom ni ls st σ S J Rz) (kS : ∀ ls st σ, S ls st σ → zeGdc p l e R s m args below meth c Q D cy A ad nL dom cs0 ss0 (pc + len) ls st σ) (kJ : ∀ (t : Nat) ls st σ, J (t : Int) ls st σ → zeGdc p l e R s m args below meth c Q D cy A ad nL dom cs0 ss0 t ls st σ) : zeGdc p l e R s m args below meth c Q D cy A ad nL dom cs0 ss0 pc ls st σ := by
  have X0 := X
  obtain ⟨⟨hx, hb, hml, hts, hbig, hown, hK, hA, hSS⟩, hM, hnd, hR1, hR2, hcs0⟩ := X
  have word : ∀ {w : Cond}, w ∈ xBig → w.before args s = true := fun h => hts _ (hbig _ h)
  intro lsC lv stC H locs hl hla hs hR
  cases ins
  case iconst n =>
    have hn : (bif xInR n then some (Instr.bipush n) else none) = some ni := hn
    by_cases hc : xInR n = true
    · rw [hc, cond_true] at hn; cases hn
      have hq := xInR_ok hc
      obtain rfl := xl_of hlen (by simp [xLen])
      exact lv_iconst hx hb hdg rfl (kS _ _ _ h lsC lv _ H locs hl hla ⟨⟨_, rfl, by rw [zw_of, zw_id hq.1 hq.2]⟩, hs⟩ hR)
    · rw [show xInR n = false by simpa using hc, cond_false] at hn; cases hn
  case bipush n =>
    have hn : (bif decide (-128 ≤ n) && decide (n ≤ 127) then some (Instr.bipush n) else none) = some ni := hn
    by_cases hc : (decide (-128 ≤ n) && decide (n ≤ 127)) = true
    · rw [hc, cond_true] at hn; cases hn
      simp only [Bool.and_eq_true, decide_eq_true_eq] at hc
      obtain rfl := xl_of hlen (by simp [xLen])
      exact lv_bipush hx hb hdg rfl (kS _ _ _ h lsC lv _ H locs hl hla ⟨⟨_, rfl, by rw [Int8.toInt_toInt32, Int8.toInt_ofInt, xbm8 hc.1 hc.2]⟩, hs⟩ hR)
    · rw [show (decide (-128 ≤ n) && decide (n ≤ 127)) = false by simpa using hc, cond_false] at hn; cases hn
  case sipush n =>
    have hn : (bif decide (-32768 ≤ n) && decide (n ≤ 32767) then some (Instr.bipush n) else none) = some ni := hn
    by_cases hc : (decide (-32768 ≤ n) && decide (n ≤ 32767)) = true
    · rw [hc, cond_true] at hn; cases hn
      simp only [Bool.and_eq_true, decide_eq_true_eq] at hc
      obtain rfl := xl_of hlen (by simp [xLen])
      exact lv_sipush hx hb hdg rfl (kS _ _ _ h lsC lv _ H locs hl hla ⟨⟨_, rfl, by rw [Int16.toInt_toInt32, Int16.toInt_ofInt, xbm16 hc.1 hc.2]⟩, hs⟩ hR)
    · rw [show (decide (-32768 ≤ n) && decide (n ≤ 32767)) = false by simpa using hc, cond_false] at hn; cases hn
  case lconst k =>
    cases hn
    obtain rfl := xl_of hlen (by simp [xLen])
    refine lv_lconst hx hb hdg rfl (kS _ _ _ h lsC lv _ H locs hl hla ⟨?_, hs⟩ hR)
    rcases k with ⟨k, hk⟩
    match k, hk with
    | 0, _ => rfl
    | 1, _ => rfl
  case aconst_null =>
    cases hn
    obtain rfl := xl_of hlen (by simp [xLen])
    exact lv_null hx hb hdg (kS _ _ _ h lsC lv _ H locs hl hla ⟨rfl, hs⟩ hR)
  case ldc i =>
    obtain rfl := xl_of hlen (by simp [xLen])
    rcases zeNk_ok hn with ⟨a, ha, rfl⟩ | ⟨k, ha, rfl⟩
    · rcases hM.2.2.1 _ ha with ⟨n, e1, e2, e3, e4⟩ | ⟨n, e1, -, -⟩ | ⟨_, e1, -⟩
      · cases e1
        exact lv_ldc hx hb hown (word e4) hdg (kS _ _ _ h lsC lv _ H locs hl hla ⟨⟨_, rfl, by rw [zw_of, zw_id e2 e3]⟩, hs⟩ hR)
      · cases e1
      · cases e1
    · rcases hM.2.2.1 _ ha with ⟨n, e1, -, -, -⟩ | ⟨n, e1, -, -⟩ | ⟨k', e1, e2⟩
      · cases e1
      · cases e1
      · cases e1
        obtain ⟨⟨v1, f1, a1, b1⟩, ⟨v2, f2, a2, b2⟩, v3, f3, a3, b3⟩ := hSS
        dsimp only at e2
        rcases e2 with ⟨e3, e4, e5⟩ | ⟨e3, e4, e5⟩ | ⟨e3, e4, e5⟩
        · subst e3; subst e4; subst e5
          exact va_ldcS hx hb hown a1 hdg (kS _ _ _ h lsC lv _ H locs hl hla ⟨rfl, hs⟩ hR)
        · subst e3; subst e4; subst e5
          exact va_ldcS hx hb hown a2 hdg (kS _ _ _ h lsC lv _ H locs hl hla ⟨rfl, hs⟩ hR)
        · subst e3; subst e4; subst e5
          exact va_ldcS hx hb hown a3 hdg (kS _ _ _ h lsC lv _ H locs hl hla ⟨rfl, hs⟩ hR)
  case ldc_w i =>
    obtain rfl := xl_of hlen (by simp [xLen])
    rcases zeNk_ok hn with ⟨a, ha, rfl⟩ | ⟨k, ha, rfl⟩
    · rcases hM.2.2.1 _ ha with ⟨n, e1, e2, e3, e4⟩ | ⟨n, e1, -, -⟩ | ⟨_, e1, -⟩
      · cases e1
        exact lv_ldcw hx hb hown (word e4) hdg (kS _ _ _ h lsC lv _ H locs hl hla ⟨⟨_, rfl, by rw [zw_of, zw_id e2 e3]⟩, hs⟩ hR)
      · cases e1
      · cases e1
    · rcases hM.2.2.1 _ ha with ⟨n, e1, -, -, -⟩ | ⟨n, e1, -, -⟩ | ⟨k', e1, e2⟩
      · cases e1
      · cases e1
      · cases e1
        obtain ⟨⟨v1, f1, a1, b1⟩, ⟨v2, f2, a2, b2⟩, v3, f3, a3, b3⟩ := hSS
        dsimp only at e2
        rcases e2 with ⟨e3, e4, e5⟩ | ⟨e3, e4, e5⟩ | ⟨e3, e4, e5⟩
        · subst e3; subst e4; subst e5
          exact xLdcSw hx hb hown a1 hdg (kS _ _ _ h lsC lv _ H locs hl hla ⟨rfl, hs⟩ hR)
        · subst e3; subst e4; subst e5
          exact xLdcSw hx hb hown a2 hdg (kS _ _ _ h lsC lv _ H locs hl hla ⟨rfl, hs⟩ hR)
        · subst e3; subst e4; subst e5
          exact xLdcSw hx hb hown a3 hdg (kS _ _ _ h lsC lv _ H locs hl hla ⟨rfl, hs⟩ hR)
  case ldc2_w i =>
    obtain rfl := xl_of hlen (by simp [xLen])
    obtain ⟨a, ha, rfl⟩ := zeNl_ok hn
    rcases hM.2.2.1 _ ha with ⟨n, e1, e2, e3, e4⟩ | ⟨n, e1, -, e4⟩ | ⟨_, e1, -⟩
    · cases e1
    · cases e1
      exact lv_ldc2 hx hb hown (word e4) hdg (kS _ _ _ h lsC lv _ H locs hl hla ⟨rfl, hs⟩ hR)
    · cases e1
  case iload_n k =>
    cases hn
    obtain ⟨a, ha, hk, h⟩ : ∃ a, zeLg k.val ls = some a ∧ zeKd a = 0 ∧ S ls (a :: st) σ := by
      replace h : (match (generalizing := false) zeLg k.val ls with
        | some v => zeKd v = 0 ∧ S ls (v :: st) σ
        | none => False) := h
      split at h
      · rename_i a ha; exact ⟨a, ha, h⟩
      · exact h.elim
    obtain ⟨j, v, e1, e2⟩ := zeLg_ok hla ha
    have hk2 := zeKd_ok e2
    rw [hk] at hk2
    exact xLd_W hx hb rfl hdg hlen (lv_at hl j e1) hk2 (kS _ _ _ h lsC lv _ H locs hl hla ⟨e2, hs⟩ hR)
  case iload k =>
    cases hn
    obtain ⟨a, ha, hk, h⟩ : ∃ a, zeLg k ls = some a ∧ zeKd a = 0 ∧ S ls (a :: st) σ := by
      replace h : (match (generalizing := false) zeLg k ls with
        | some v => zeKd v = 0 ∧ S ls (v :: st) σ
        | none => False) := h
      split at h
      · rename_i a ha; exact ⟨a, ha, h⟩
      · exact h.elim
    obtain ⟨j, v, e1, e2⟩ := zeLg_ok hla ha
    have hk2 := zeKd_ok e2
    rw [hk] at hk2
    exact xLd_W hx hb rfl hdg hlen (lv_at hl j e1) hk2 (kS _ _ _ h lsC lv _ H locs hl hla ⟨e2, hs⟩ hR)
  case lload_n k =>
    cases hn
    obtain ⟨a, ha, hk, h⟩ : ∃ a, zeLg k.val ls = some a ∧ zeKd a = 1 ∧ S ls (a :: st) σ := by
      replace h : (match (generalizing := false) zeLg k.val ls with
        | some v => zeKd v = 1 ∧ S ls (v :: st) σ
        | none => False) := h
      split at h
      · rename_i a ha; exact ⟨a, ha, h⟩
      · exact h.elim
    obtain ⟨j, v, e1, e2⟩ := zeLg_ok hla ha
    have hk2 := zeKd_ok e2
    rw [hk] at hk2
    exact xLd_W hx hb rfl hdg hlen (lv_at hl j e1) hk2 (kS _ _ _ h lsC lv _ H locs hl hla ⟨e2, hs⟩ hR)
  case lload k =>
    cases hn
    obtain ⟨a, ha, hk, h⟩ : ∃ a, zeLg k ls = some a ∧ zeKd a = 1 ∧ S ls (a :: st) σ := by
      replace h : (match (generalizing := false) zeLg k ls with
        | some v => zeKd v = 1 ∧ S ls (v :: st) σ
        | none => False) := h
      split at h
      · rename_i a ha; exact ⟨a, ha, h⟩
      · exact h.elim
    obtain ⟨j, v, e1, e2⟩ := zeLg_ok hla ha
    have hk2 := zeKd_ok e2
    rw [hk] at hk2
    exact xLd_W hx hb rfl hdg hlen (lv_at hl j e1) hk2 (kS _ _ _ h lsC lv _ H locs hl hla ⟨e2, hs⟩ hR)
  case aload_n k =>
    cases hn
    obtain ⟨a, ha, hk, h⟩ : ∃ a, zeLg k.val ls = some a ∧ zeKd a = 2 ∧ S ls (a :: st) σ := by
      replace h : (match (generalizing := false) zeLg k.val ls with
        | some v => zeKd v = 2 ∧ S ls (v :: st) σ
        | none => False) := h
      split at h
      · rename_i a ha; exact ⟨a, ha, h⟩
      · exact h.elim
    obtain ⟨j, v, e1, e2⟩ := zeLg_ok hla ha
    have hk2 := zeKd_ok e2
    rw [hk] at hk2
    exact xLd_W hx hb rfl hdg hlen (lv_at hl j e1) hk2 (kS _ _ _ h lsC lv _ H locs hl hla ⟨e2, hs⟩ hR)
  case aload k =>
    cases hn
    obtain ⟨a, ha, hk, h⟩ : ∃ a, zeLg k ls = some a ∧ zeKd a = 2 ∧ S ls (a :: st) σ := by
      replace h : (match (generalizing := false) zeLg k ls with
        | some v => zeKd v = 2 ∧ S ls (v :: st) σ
        | none => False) := h
      split at h
      · rename_i a ha; exact ⟨a, ha, h⟩
      · exact h.elim
    obtain ⟨j, v, e1, e2⟩ := zeLg_ok hla ha
    have hk2 := zeKd_ok e2
    rw [hk] at hk2
    exact xLd_W hx hb rfl hdg hlen (lv_at hl j e1) hk2 (kS _ _ _ h lsC lv _ H locs hl hla ⟨e2, hs⟩ hR)
  case istore_n k =>
    have hn : (bif decide (k.val + 1 ≤ nL) then some (Instr.istore k.val) else none) = some ni := hn
    by_cases hc : k.val + 1 ≤ nL
    · rw [decide_eq_true hc, cond_true] at hn; cases hn
      obtain rfl := xl_of hlen (by simp [xLen])
      replace h : (match (generalizing := false) st with
        | .inl x :: st => S ((k.val, .inl x) :: zeR1 k.val ls) st σ
        | _ => False) := h
      split at h
      · rename_i x st'
        obtain ⟨v, tC, rfl, ga, gt⟩ := zeSt1 hs
        obtain ⟨y, rfl, gy⟩ := ga
        exact lv_istore_n hx hb hdg rfl hl (by omega) rfl (fun ls' hl' => kS _ _ _ h ls' _ _ H locs hl' (zeS1_ok hla ⟨y, rfl, gy⟩) gt hR)
      · exact h.elim
    · rw [decide_eq_false hc, cond_false] at hn; cases hn
  case istore k =>
    have hn : (bif decide (k + 1 ≤ nL) then some (Instr.istore k) else none) = some ni := hn
    by_cases hc : k + 1 ≤ nL
    · rw [decide_eq_true hc, cond_true] at hn; cases hn
      obtain rfl := xl_of hlen (by simp [xLen])
      replace h : (match (generalizing := false) st with
        | .inl x :: st => S ((k, .inl x) :: zeR1 k ls) st σ
        | _ => False) := h
      split at h
      · rename_i x st'
        obtain ⟨v, tC, rfl, ga, gt⟩ := zeSt1 hs
        obtain ⟨y, rfl, gy⟩ := ga
        exact lv_istore hx hb hdg hl (by omega) rfl (fun ls' hl' => kS _ _ _ h ls' _ _ H locs hl' (zeS1_ok hla ⟨y, rfl, gy⟩) gt hR)
      · exact h.elim
    · rw [decide_eq_false hc, cond_false] at hn; cases hn
  case lstore_n k =>
    have hn : (bif decide (k.val + 2 ≤ nL) then some (Instr.lstore k.val) else none) = some ni := hn
    by_cases hc : k.val + 2 ≤ nL
    · rw [decide_eq_true hc, cond_true] at hn; cases hn
      obtain rfl := xl_of hlen (by simp [xLen])
      replace h : (match (generalizing := false) st with
        | .inr (.inl x) :: st => S ((k.val, .inr (.inl x)) :: zeR2 k.val ls) st σ
        | _ => False) := h
      split at h
      · rename_i x st'
        obtain ⟨v, tC, rfl, ga, gt⟩ := zeSt1 hs
        have ga : v = .long x := ga
        subst ga
        exact lv_lstore_n hx hb hdg rfl hl (by omega) rfl (fun ls' hl' => kS _ _ _ h ls' _ _ H locs hl' (zeS2_ok hla rfl) gt hR)
      · exact h.elim
    · rw [decide_eq_false hc, cond_false] at hn; cases hn
  case lstore k =>
    have hn : (bif decide (k + 2 ≤ nL) then some (Instr.lstore k) else none) = some ni := hn
    by_cases hc : k + 2 ≤ nL
    · rw [decide_eq_true hc, cond_true] at hn; cases hn
      obtain rfl := xl_of hlen (by simp [xLen])
      replace h : (match (generalizing := false) st with
        | .inr (.inl x) :: st => S ((k, .inr (.inl x)) :: zeR2 k ls) st σ
        | _ => False) := h
      split at h
      · rename_i x st'
        obtain ⟨v, tC, rfl, ga, gt⟩ := zeSt1 hs
        have ga : v = .long x := ga
        subst ga
        exact lv_lstore hx hb hdg hl (by omega) rfl (fun ls' hl' => kS _ _ _ h ls' _ _ H locs hl' (zeS2_ok hla rfl) gt hR)
      · exact h.elim
    · rw [decide_eq_false hc, cond_false] at hn; cases hn
  case astore_n k =>
    have hn : (bif decide (k.val + 1 ≤ nL) then some (Instr.astore k.val) else none) = some ni := hn
    by_cases hc : k.val + 1 ≤ nL
    · rw [decide_eq_true hc, cond_true] at hn; cases hn
      obtain rfl := xl_of hlen (by simp [xLen])
      replace h : (match (generalizing := false) st with
        | .inr (.inr x) :: st => S ((k.val, .inr (.inr x)) :: zeR1 k.val ls) st σ
        | _ => False) := h
      split at h
      · rename_i x st'
        obtain ⟨v, tC, rfl, ga, gt⟩ := zeSt1 hs
        cases x with
        | none =>
          have ga : v = .null := ga
          subst ga
          exact lv_astore_nN hx hb hdg rfl hl (by omega) rfl (fun ls' hl' => kS _ _ _ h ls' _ _ H locs hl' (zeS1_ok hla rfl) gt hR)
        | some x =>
          have ga : v = .ref (ad x) := ga
          subst ga
          exact lv_astore_n hx hb hdg rfl hl (by omega) rfl (fun ls' hl' => kS _ _ _ h ls' _ _ H locs hl' (zeS1_ok hla rfl) gt hR)
      · exact h.elim
    · rw [decide_eq_false hc, cond_false] at hn; cases hn
  case astore k =>
    have hn : (bif decide (k + 1 ≤ nL) then some (Instr.astore k) else none) = some ni := hn
    by_cases hc : k + 1 ≤ nL
    · rw [decide_eq_true hc, cond_true] at hn; cases hn
      obtain rfl := xl_of hlen (by simp [xLen])
      replace h : (match (generalizing := false) st with
        | .inr (.inr x) :: st => S ((k, .inr (.inr x)) :: zeR1 k ls) st σ
        | _ => False) := h
      split at h
      · rename_i x st'
        obtain ⟨v, tC, rfl, ga, gt⟩ := zeSt1 hs
        cases x with
        | none =>
          have ga : v = .null := ga
          subst ga
          exact lv_astoreN hx hb hdg hl (by omega) rfl (fun ls' hl' => kS _ _ _ h ls' _ _ H locs hl' (zeS1_ok hla rfl) gt hR)
        | some x =>
          have ga : v = .ref (ad x) := ga
          subst ga
          exact lv_astore hx hb hdg hl (by omega) rfl (fun ls' hl' => kS _ _ _ h ls' _ _ H locs hl' (zeS1_ok hla rfl) gt hR)
      · exact h.elim
    · rw [decide_eq_false hc, cond_false] at hn; cases hn
  case iinc i n =>
    have hn : (bif xInR n && decide (i + 1 ≤ nL) then some (Instr.iinc i n) else none) = some ni := hn
    by_cases hc : (xInR n && decide (i + 1 ≤ nL)) = true
    · rw [hc, cond_true] at hn; cases hn
      obtain rfl := xl_of hlen (by simp [xLen])
      rw [Bool.and_eq_true, decide_eq_true_eq] at hc
      have hq := xInR_ok hc.1
      replace h : (match (generalizing := false) zeLg i ls with
        | some (.inl x) => S ((i, .inl (zw (x + n))) :: zeR1 i ls) st σ
        | _ => False) := h
      split at h
      · rename_i x hxl
        obtain ⟨j, v, e1, e2⟩ := zeLg_ok hla hxl
        obtain ⟨y, rfl, gy⟩ := e2
        refine lv_iinc hx hb hdg hl e1 rfl (by omega) rfl (fun ls' hl' => kS _ _ _ h ls' _ _ H locs hl' (zeS1_ok hla ⟨_, rfl, ?_⟩) hs hR)
        rw [Int32.toInt_add, zw_bm, zw_of, zw_id hq.1 hq.2, gy]
      · exact h.elim
    · rw [show (xInR n && decide (i + 1 ≤ nL)) = false by simpa using hc, cond_false] at hn; cases hn
  case iadd =>
    cases hn
    obtain rfl := xl_of hlen (by simp [xLen])
    replace h : (match (generalizing := false) st with
      | .inl b :: .inl a :: st => S ls (.inl (zw (a + b)) :: st) σ
      | _ => False) := h
    split at h
    · rename_i b a st'
      obtain ⟨w, v, tC, rfl, gb, ga, gt⟩ := zeSt2 hs
      obtain ⟨x, rfl, gx⟩ := ga
      obtain ⟨y, rfl, gy⟩ := gb
      obtain ⟨f, hf, hg⟩ := zeBF_ok (ins := .iadd) rfl
      exact xBF_W hx hb hf hdg (kS _ _ _ h lsC lv _ H locs hl hla ⟨⟨_, rfl, by rw [hg, gx, gy]⟩, gt⟩ hR)
    · exact h.elim
  case isub =>
    cases hn
    obtain rfl := xl_of hlen (by simp [xLen])
    replace h : (match (generalizing := false) st with
      | .inl b :: .inl a :: st => S ls (.inl (zw (a - b)) :: st) σ
      | _ => False) := h
    split at h
    · rename_i b a st'
      obtain ⟨w, v, tC, rfl, gb, ga, gt⟩ := zeSt2 hs
      obtain ⟨x, rfl, gx⟩ := ga
      obtain ⟨y, rfl, gy⟩ := gb
      obtain ⟨f, hf, hg⟩ := zeBF_ok (ins := .isub) rfl
      exact xBF_W hx hb hf hdg (kS _ _ _ h lsC lv _ H locs hl hla ⟨⟨_, rfl, by rw [hg, gx, gy]⟩, gt⟩ hR)
    · exact h.elim
  case imul =>
    cases hn
    obtain rfl := xl_of hlen (by simp [xLen])
    replace h : (match (generalizing := false) st with
      | .inl b :: .inl a :: st => S ls (.inl (zw (a * b)) :: st) σ
      | _ => False) := h
    split at h
    · rename_i b a st'
      obtain ⟨w, v, tC, rfl, gb, ga, gt⟩ := zeSt2 hs
      obtain ⟨x, rfl, gx⟩ := ga
      obtain ⟨y, rfl, gy⟩ := gb
      obtain ⟨f, hf, hg⟩ := zeBF_ok (ins := .imul) rfl
      exact xBF_W hx hb hf hdg (kS _ _ _ h lsC lv _ H locs hl hla ⟨⟨_, rfl, by rw [hg, gx, gy]⟩, gt⟩ hR)
    · exact h.elim
  case iand =>
    cases hn
    obtain rfl := xl_of hlen (by simp [xLen])
    replace h : (match (generalizing := false) st with
      | .inl b :: .inl a :: st => S ls (.inl (zeAnd a b) :: st) σ
      | _ => False) := h
    split at h
    · rename_i b a st'
      obtain ⟨w, v, tC, rfl, gb, ga, gt⟩ := zeSt2 hs
      obtain ⟨x, rfl, gx⟩ := ga
      obtain ⟨y, rfl, gy⟩ := gb
      obtain ⟨f, hf, hg⟩ := zeBF_ok (ins := .iand) rfl
      exact xBF_W hx hb hf hdg (kS _ _ _ h lsC lv _ H locs hl hla ⟨⟨_, rfl, by rw [hg, gx, gy]⟩, gt⟩ hR)
    · exact h.elim
  case ior =>
    cases hn
    obtain rfl := xl_of hlen (by simp [xLen])
    replace h : (match (generalizing := false) st with
      | .inl b :: .inl a :: st => S ls (.inl (zeOr a b) :: st) σ
      | _ => False) := h
    split at h
    · rename_i b a st'
      obtain ⟨w, v, tC, rfl, gb, ga, gt⟩ := zeSt2 hs
      obtain ⟨x, rfl, gx⟩ := ga
      obtain ⟨y, rfl, gy⟩ := gb
      obtain ⟨f, hf, hg⟩ := zeBF_ok (ins := .ior) rfl
      exact xBF_W hx hb hf hdg (kS _ _ _ h lsC lv _ H locs hl hla ⟨⟨_, rfl, by rw [hg, gx, gy]⟩, gt⟩ hR)
    · exact h.elim
  case ixor =>
    cases hn
    obtain rfl := xl_of hlen (by simp [xLen])
    replace h : (match (generalizing := false) st with
      | .inl b :: .inl a :: st => S ls (.inl (zeXor a b) :: st) σ
      | _ => False) := h
    split at h
    · rename_i b a st'
      obtain ⟨w, v, tC, rfl, gb, ga, gt⟩ := zeSt2 hs
      obtain ⟨x, rfl, gx⟩ := ga
      obtain ⟨y, rfl, gy⟩ := gb
      obtain ⟨f, hf, hg⟩ := zeBF_ok (ins := .ixor) rfl
      exact xBF_W hx hb hf hdg (kS _ _ _ h lsC lv _ H locs hl hla ⟨⟨_, rfl, by rw [hg, gx, gy]⟩, gt⟩ hR)
    · exact h.elim
  case ishl =>
    cases hn
    obtain rfl := xl_of hlen (by simp [xLen])
    replace h : (match (generalizing := false) st with
      | .inl b :: .inl a :: st => S ls (.inl (zeShl a b) :: st) σ
      | _ => False) := h
    split at h
    · rename_i b a st'
      obtain ⟨w, v, tC, rfl, gb, ga, gt⟩ := zeSt2 hs
      obtain ⟨x, rfl, gx⟩ := ga
      obtain ⟨y, rfl, gy⟩ := gb
      obtain ⟨f, hf, hg⟩ := zeBF_ok (ins := .ishl) rfl
      exact xBF_W hx hb hf hdg (kS _ _ _ h lsC lv _ H locs hl hla ⟨⟨_, rfl, by rw [hg, gx, gy]⟩, gt⟩ hR)
    · exact h.elim
  case ishr =>
    cases hn
    obtain rfl := xl_of hlen (by simp [xLen])
    replace h : (match (generalizing := false) st with
      | .inl b :: .inl a :: st => S ls (.inl (zeShr a b) :: st) σ
      | _ => False) := h
    split at h
    · rename_i b a st'
      obtain ⟨w, v, tC, rfl, gb, ga, gt⟩ := zeSt2 hs
      obtain ⟨x, rfl, gx⟩ := ga
      obtain ⟨y, rfl, gy⟩ := gb
      obtain ⟨f, hf, hg⟩ := zeBF_ok (ins := .ishr) rfl
      exact xBF_W hx hb hf hdg (kS _ _ _ h lsC lv _ H locs hl hla ⟨⟨_, rfl, by rw [hg, gx, gy]⟩, gt⟩ hR)
    · exact h.elim
  case iushr =>
    cases hn
    obtain rfl := xl_of hlen (by simp [xLen])
    replace h : (match (generalizing := false) st with
      | .inl b :: .inl a :: st => S ls (.inl (zeUsr a b) :: st) σ
      | _ => False) := h
    split at h
    · rename_i b a st'
      obtain ⟨w, v, tC, rfl, gb, ga, gt⟩ := zeSt2 hs
      obtain ⟨x, rfl, gx⟩ := ga
      obtain ⟨y, rfl, gy⟩ := gb
      obtain ⟨f, hf, hg⟩ := zeBF_ok (ins := .iushr) rfl
      exact xBF_W hx hb hf hdg (kS _ _ _ h lsC lv _ H locs hl hla ⟨⟨_, rfl, by rw [hg, gx, gy]⟩, gt⟩ hR)
    · exact h.elim
  case idiv =>
    cases hn
    obtain rfl := xl_of hlen (by simp [xLen])
    replace h : (match (generalizing := false) st with
      | .inl b :: .inl a :: st => ¬ b = 0 ∧ S ls (.inl (zeDiv a b) :: st) σ
      | _ => False) := h
    split at h
    · rename_i b a st'
      obtain ⟨w, v, tC, rfl, gb, ga, gt⟩ := zeSt2 hs
      obtain ⟨x, rfl, gx⟩ := ga
      obtain ⟨y, rfl, gy⟩ := gb
      have e0 : (0 : Int32).toInt = 0 := rfl
      refine lv_idiv hx hb hdg (fun z => h.1 (by rw [← gy, z]; rfl)) (kS _ _ _ h.2 lsC lv _ H locs hl hla ⟨⟨_, rfl, ?_⟩, gt⟩ hR)
      rw [Int32.toInt_div, gx, gy]
      exact zw_bm _
    · exact h.elim
  case irem =>
    cases hn
    obtain rfl := xl_of hlen (by simp [xLen])
    replace h : (match (generalizing := false) st with
      | .inl b :: .inl a :: st => ¬ b = 0 ∧ S ls (.inl (zeRem a b) :: st) σ
      | _ => False) := h
    split at h
    · rename_i b a st'
      obtain ⟨w, v, tC, rfl, gb, ga, gt⟩ := zeSt2 hs
      obtain ⟨x, rfl, gx⟩ := ga
      obtain ⟨y, rfl, gy⟩ := gb
      refine lv_irem hx hb hdg (fun z => h.1 (by rw [← gy, z]; rfl)) (kS _ _ _ h.2 lsC lv _ H locs hl hla ⟨⟨_, rfl, ?_⟩, gt⟩ hR)
      rw [Int32.toInt_sub, Int32.toInt_mul, Int32.toInt_div, gx, gy, zw_bm, zw_bm, zw_bm]
      rfl
    · exact h.elim
  case ineg =>
    cases hn
    obtain rfl := xl_of hlen (by simp [xLen])
    replace h : (match (generalizing := false) st with
      | .inl a :: st => S ls (.inl (zw (-a)) :: st) σ
      | _ => False) := h
    split at h
    · rename_i a st'
      obtain ⟨v, tC, rfl, ga, gt⟩ := zeSt1 hs
      obtain ⟨x, rfl, gx⟩ := ga
      refine lv_ineg hx hb hdg (kS _ _ _ h lsC lv _ H locs hl hla ⟨⟨_, rfl, ?_⟩, gt⟩ hR)
      rw [Int32.toInt_neg, zw_bm, gx]
    · exact h.elim
  case ladd =>
    cases hn
    obtain rfl := xl_of hlen (by simp [xLen])
    replace h : (match (generalizing := false) st with
      | .inr (.inl b) :: .inr (.inl a) :: st => S ls (.inr (.inl (a + b)) :: st) σ
      | _ => False) := h
    split at h
    · rename_i b a st'
      obtain ⟨w, v, tC, rfl, gb, ga, gt⟩ := zeSt2 hs
      have ga : v = .long a := ga
      have gb : w = .long b := gb
      subst ga; subst gb
      exact xLF_W (ins := .ladd) hx hb rfl hdg (kS _ _ _ h lsC lv _ H locs hl hla ⟨rfl, gt⟩ hR)
    · exact h.elim
  case lsub =>
    cases hn
    obtain rfl := xl_of hlen (by simp [xLen])
    replace h : (match (generalizing := false) st with
      | .inr (.inl b) :: .inr (.inl a) :: st => S ls (.inr (.inl (a - b)) :: st) σ
      | _ => False) := h
    split at h
    · rename_i b a st'
      obtain ⟨w, v, tC, rfl, gb, ga, gt⟩ := zeSt2 hs
      have ga : v = .long a := ga
      have gb : w = .long b := gb
      subst ga; subst gb
      exact xLF_W (ins := .lsub) hx hb rfl hdg (kS _ _ _ h lsC lv _ H locs hl hla ⟨rfl, gt⟩ hR)
    · exact h.elim
  case lmul =>
    cases hn
    obtain rfl := xl_of hlen (by simp [xLen])
    replace h : (match (generalizing := false) st with
      | .inr (.inl b) :: .inr (.inl a) :: st => S ls (.inr (.inl (a * b)) :: st) σ
      | _ => False) := h
    split at h
    · rename_i b a st'
      obtain ⟨w, v, tC, rfl, gb, ga, gt⟩ := zeSt2 hs
      have ga : v = .long a := ga
      have gb : w = .long b := gb
      subst ga; subst gb
      exact xLF_W (ins := .lmul) hx hb rfl hdg (kS _ _ _ h lsC lv _ H locs hl hla ⟨rfl, gt⟩ hR)
    · exact h.elim
  case land =>
    cases hn
    obtain rfl := xl_of hlen (by simp [xLen])
    replace h : (match (generalizing := false) st with
      | .inr (.inl b) :: .inr (.inl a) :: st => S ls (.inr (.inl (a &&& b)) :: st) σ
      | _ => False) := h
    split at h
    · rename_i b a st'
      obtain ⟨w, v, tC, rfl, gb, ga, gt⟩ := zeSt2 hs
      have ga : v = .long a := ga
      have gb : w = .long b := gb
      subst ga; subst gb
      exact xLF_W (ins := .land) hx hb rfl hdg (kS _ _ _ h lsC lv _ H locs hl hla ⟨rfl, gt⟩ hR)
    · exact h.elim
  case lor =>
    cases hn
    obtain rfl := xl_of hlen (by simp [xLen])
    replace h : (match (generalizing := false) st with
      | .inr (.inl b) :: .inr (.inl a) :: st => S ls (.inr (.inl (a ||| b)) :: st) σ
      | _ => False) := h
    split at h
    · rename_i b a st'
      obtain ⟨w, v, tC, rfl, gb, ga, gt⟩ := zeSt2 hs
      have ga : v = .long a := ga
      have gb : w = .long b := gb
      subst ga; subst gb
      exact xLF_W (ins := .lor) hx hb rfl hdg (kS _ _ _ h lsC lv _ H locs hl hla ⟨rfl, gt⟩ hR)
    · exact h.elim
  case lxor =>
    cases hn
    obtain rfl := xl_of hlen (by simp [xLen])
    replace h : (match (generalizing := false) st with
      | .inr (.inl b) :: .inr (.inl a) :: st => S ls (.inr (.inl (a ^^^ b)) :: st) σ
      | _ => False) := h
    split at h
    · rename_i b a st'
      obtain ⟨w, v, tC, rfl, gb, ga, gt⟩ := zeSt2 hs
      have ga : v = .long a := ga
      have gb : w = .long b := gb
      subst ga; subst gb
      exact xLF_W (ins := .lxor) hx hb rfl hdg (kS _ _ _ h lsC lv _ H locs hl hla ⟨rfl, gt⟩ hR)
    · exact h.elim
  case ldiv =>
    cases hn
    obtain rfl := xl_of hlen (by simp [xLen])
    replace h : (match (generalizing := false) st with
      | .inr (.inl b) :: .inr (.inl a) :: st => ¬ b = 0 ∧ S ls (.inr (.inl (a / b)) :: st) σ
      | _ => False) := h
    split at h
    · rename_i b a st'
      obtain ⟨w, v, tC, rfl, gb, ga, gt⟩ := zeSt2 hs
      have ga : v = .long a := ga
      have gb : w = .long b := gb
      subst ga; subst gb
      exact lv_ldiv hx hb hdg h.1 (kS _ _ _ h.2 lsC lv _ H locs hl hla ⟨rfl, gt⟩ hR)
    · exact h.elim
  case lrem =>
    cases hn
    obtain rfl := xl_of hlen (by simp [xLen])
    replace h : (match (generalizing := false) st with
      | .inr (.inl b) :: .inr (.inl a) :: st => ¬ b = 0 ∧ S ls (.inr (.inl (a - a / b * b)) :: st) σ
      | _ => False) := h
    split at h
    · rename_i b a st'
      obtain ⟨w, v, tC, rfl, gb, ga, gt⟩ := zeSt2 hs
      have ga : v = .long a := ga
      have gb : w = .long b := gb
      subst ga; subst gb
      exact lv_lrem hx hb hdg h.1 (kS _ _ _ h.2 lsC lv _ H locs hl hla ⟨rfl, gt⟩ hR)
    · exact h.elim
  case lshl =>
    cases hn
    obtain rfl := xl_of hlen (by simp [xLen])
    replace h : (match (generalizing := false) st with
      | .inl b :: .inr (.inl a) :: st => S ls (.inr (.inl (zlShl a b)) :: st) σ
      | _ => False) := h
    split at h
    · rename_i b a st'
      obtain ⟨w, v, tC, rfl, gb, ga, gt⟩ := zeSt2 hs
      have ga : v = .long a := ga
      subst ga
      obtain ⟨y, rfl, gy⟩ := gb
      refine xLS_W (ins := .lshl) hx hb rfl hdg (kS _ _ _ h lsC lv _ H locs hl hla ⟨?_, gt⟩ hR)
      subst gy
      show _ = Value.long (zlShl a y.toInt)
      unfold zlShl
      rw [zeOfI]
    · exact h.elim
  case lshr =>
    cases hn
    obtain rfl := xl_of hlen (by simp [xLen])
    replace h : (match (generalizing := false) st with
      | .inl b :: .inr (.inl a) :: st => S ls (.inr (.inl (zlShr a b)) :: st) σ
      | _ => False) := h
    split at h
    · rename_i b a st'
      obtain ⟨w, v, tC, rfl, gb, ga, gt⟩ := zeSt2 hs
      have ga : v = .long a := ga
      subst ga
      obtain ⟨y, rfl, gy⟩ := gb
      refine xLS_W (ins := .lshr) hx hb rfl hdg (kS _ _ _ h lsC lv _ H locs hl hla ⟨?_, gt⟩ hR)
      subst gy
      show _ = Value.long (zlShr a y.toInt)
      unfold zlShr
      rw [zeOfI]
    · exact h.elim
  case lushr =>
    cases hn
    obtain rfl := xl_of hlen (by simp [xLen])
    replace h : (match (generalizing := false) st with
      | .inl b :: .inr (.inl a) :: st => S ls (.inr (.inl (zlUsr a b)) :: st) σ
      | _ => False) := h
    split at h
    · rename_i b a st'
      obtain ⟨w, v, tC, rfl, gb, ga, gt⟩ := zeSt2 hs
      have ga : v = .long a := ga
      subst ga
      obtain ⟨y, rfl, gy⟩ := gb
      refine xLS_W (ins := .lushr) hx hb rfl hdg (kS _ _ _ h lsC lv _ H locs hl hla ⟨?_, gt⟩ hR)
      subst gy
      show _ = Value.long (zlUsr a y.toInt)
      unfold zlUsr
      rw [zeOfI]
    · exact h.elim
  case i2l =>
    cases hn
    obtain rfl := xl_of hlen (by simp [xLen])
    replace h : (match (generalizing := false) st with
      | .inl a :: st => S ls (.inr (.inl (Int64.ofInt a)) :: st) σ
      | _ => False) := h
    split at h
    · rename_i a st'
      obtain ⟨v, tC, rfl, ga, gt⟩ := zeSt1 hs
      obtain ⟨x, rfl, gx⟩ := ga
      refine lv_i2l hx hb hdg rfl (kS _ _ _ h lsC lv _ H locs hl hla ⟨?_, gt⟩ hR)
      subst gx
      rfl
    · exact h.elim
  case l2i =>
    cases hn
    obtain rfl := xl_of hlen (by simp [xLen])
    replace h : (match (generalizing := false) st with
      | .inr (.inl a) :: st => S ls (.inl (zw a.toInt) :: st) σ
      | _ => False) := h
    split at h
    · rename_i a st'
      obtain ⟨v, tC, rfl, ga, gt⟩ := zeSt1 hs
      have ga : v = .long a := ga
      subst ga
      exact lv_l2i hx hb hdg rfl (kS _ _ _ h lsC lv _ H locs hl hla ⟨⟨_, rfl, zeL2i a⟩, gt⟩ hR)
    · exact h.elim
  case i2b =>
    cases hn
    obtain rfl := xl_of hlen (by simp [xLen])
    replace h : (match (generalizing := false) st with
      | .inl a :: st => S ls (.inl ((a + 128) % 256 - 128) :: st) σ
      | _ => False) := h
    split at h
    · rename_i a st'
      obtain ⟨v, tC, rfl, ga, gt⟩ := zeSt1 hs
      obtain ⟨x, rfl, gx⟩ := ga
      exact lv_i2b hx hb hdg rfl (kS _ _ _ h lsC lv _ H locs hl hla ⟨⟨_, rfl, by rw [zeI2b, gx]⟩, gt⟩ hR)
    · exact h.elim
  case i2s =>
    cases hn
    obtain rfl := xl_of hlen (by simp [xLen])
    replace h : (match (generalizing := false) st with
      | .inl a :: st => S ls (.inl ((a + 32768) % 65536 - 32768) :: st) σ
      | _ => False) := h
    split at h
    · rename_i a st'
      obtain ⟨v, tC, rfl, ga, gt⟩ := zeSt1 hs
      obtain ⟨x, rfl, gx⟩ := ga
      exact lv_i2s hx hb hdg rfl (kS _ _ _ h lsC lv _ H locs hl hla ⟨⟨_, rfl, by rw [zeI2s, gx]⟩, gt⟩ hR)
    · exact h.elim
  case i2c =>
    cases hn
    obtain rfl := xl_of hlen (by simp [xLen])
    replace h : (match (generalizing := false) st with
      | .inl a :: st => S ls (.inl (a % 65536) :: st) σ
      | _ => False) := h
    split at h
    · rename_i a st'
      obtain ⟨v, tC, rfl, ga, gt⟩ := zeSt1 hs
      obtain ⟨x, rfl, gx⟩ := ga
      refine lv_i2c hx hb hdg rfl (kS _ _ _ h lsC lv _ H locs hl hla ⟨⟨_, rfl, ?_⟩, gt⟩ hR)
      rw [← gx]
      exact zeI2c x
    · exact h.elim
  case lcmp =>
    cases hn
    obtain rfl := xl_of hlen (by simp [xLen])
    replace h : (match (generalizing := false) st with
      | .inr (.inl b) :: .inr (.inl a) :: st => S ls (.inl (zeCmp a b) :: st) σ
      | _ => False) := h
    split at h
    · rename_i b a st'
      obtain ⟨w, v, tC, rfl, gb, ga, gt⟩ := zeSt2 hs
      have ga : v = .long a := ga
      have gb : w = .long b := gb
      subst ga; subst gb
      exact W.lcmp hx hb hdg (kS _ _ _ h lsC lv _ H locs hl hla ⟨⟨_, rfl, zeCmp_ok a b⟩, gt⟩ hR)
    · exact h.elim
  case dup =>
    cases hn
    obtain rfl := xl_of hlen (by simp [xLen])
    replace h : (match (generalizing := false) st with
      | a :: st => zeCat a = 1 ∧ S ls (a :: a :: st) σ
      | _ => False) := h
    split at h
    · rename_i a st'
      obtain ⟨v, tC, rfl, ga, gt⟩ := zeSt1 hs
      exact lv_dup hx hb hdg ((zeOk_cat ga).trans h.1) (kS _ _ _ h.2 lsC lv _ H locs hl hla ⟨ga, ga, gt⟩ hR)
    · exact h.elim
  case pop =>
    cases hn
    obtain rfl := xl_of hlen (by simp [xLen])
    replace h : (match (generalizing := false) st with
      | a :: st => zeCat a = 1 ∧ S ls st σ
      | _ => False) := h
    split at h
    · rename_i a st'
      obtain ⟨v, tC, rfl, ga, gt⟩ := zeSt1 hs
      exact lv_pop hx hb hdg ((zeOk_cat ga).trans h.1) (kS _ _ _ h.2 lsC lv _ H locs hl hla gt hR)
    · exact h.elim
  case dup_x1 =>
    cases hn
    obtain rfl := xl_of hlen (by simp [xLen])
    replace h : (match (generalizing := false) st with
      | a :: b :: st => (zeCat a = 1 ∧ zeCat b = 1) ∧ S ls (a :: b :: a :: st) σ
      | _ => False) := h
    split at h
    · rename_i a b st'
      obtain ⟨w, v, tC, rfl, ga, gb, gt⟩ := zeSt2 hs
      exact lv_dup_x1 hx hb hdg ((zeOk_cat ga).trans h.1.1) ((zeOk_cat gb).trans h.1.2) (kS _ _ _ h.2 lsC lv _ H locs hl hla ⟨ga, gb, ga, gt⟩ hR)
    · exact h.elim
  case dup2 =>
    cases hn
    obtain rfl := xl_of hlen (by simp [xLen])
    replace h : (match (generalizing := false) st with
      | .inr (.inl a) :: st => S ls (.inr (.inl a) :: .inr (.inl a) :: st) σ
      | a :: b :: st => (zeCat a = 1 ∧ zeCat b = 1) ∧ S ls (a :: b :: a :: b :: st) σ
      | _ => False) := h
    split at h
    · rename_i a st'
      obtain ⟨v, tC, rfl, ga, gt⟩ := zeSt1 hs
      exact lv_dup2_2 hx hb hdg (zeOk_cat ga) (kS _ _ _ h lsC lv _ H locs hl hla ⟨ga, ga, gt⟩ hR)
    · rename_i a b st' _
      obtain ⟨w, v, tC, rfl, ga, gb, gt⟩ := zeSt2 hs
      exact lv_dup2_11 hx hb hdg ((zeOk_cat ga).trans h.1.1) ((zeOk_cat gb).trans h.1.2) (kS _ _ _ h.2 lsC lv _ H locs hl hla ⟨ga, gb, ga, gb, gt⟩ hR)
    · exact h.elim
  case goto o =>
    have hn : (match xTgt pc o with
      | some t => some (Instr.goto (t : Int))
      | none => none) = some ni := hn
    obtain rfl := xl_of hlen (by simp [xLen])
    split at hn
    · rename_i t ht
      cases hn
      exact lv_goto hx hb hdg (xTgt_ok ht) (kJ t _ _ _ h lsC lv stC H locs hl hla hs hR)
    · cases hn
  case if_icmp k o =>
    have hn : (match xTgt pc o with
      | some t => some (Instr.if_icmp k (t : Int))
      | none => none) = some ni := hn
    obtain rfl := xl_of hlen (by simp [xLen])
    split at hn
    · rename_i t ht
      cases hn
      replace h : (match (generalizing := false) st with
        | .inl b :: .inl a :: st => (zePr k a b → J (t : Int) ls st σ) ∧ (¬ zePr k a b → S ls st σ)
        | _ => False) := h
      split at h
      · rename_i b a st'
        obtain ⟨w, v, tC, rfl, gb, ga, gt⟩ := zeSt2 hs
        obtain ⟨x, rfl, gx⟩ := ga
        obtain ⟨y, rfl, gy⟩ := gb
        subst gx; subst gy
        exact xIcmp_W hx hb hdg (xTgt_ok ht) (fun hy => kJ t _ _ _ (h.1 ((zePr_ok k x y).mp hy)) lsC lv _ H locs hl hla gt hR) (fun hy => kS _ _ _ (h.2 (fun z => hy ((zePr_ok k x y).mpr z))) lsC lv _ H locs hl hla gt hR)
      · exact h.elim
    · cases hn
  case ifCond k o =>
    have hn : (match xTgt pc o with
      | some t => some (Instr.ifCond k (t : Int))
      | none => none) = some ni := hn
    obtain rfl := xl_of hlen (by simp [xLen])
    split at hn
    · rename_i t ht
      cases hn
      replace h : (match (generalizing := false) st with
        | .inl a :: st => (zePr k a 0 → J (t : Int) ls st σ) ∧ (¬ zePr k a 0 → S ls st σ)
        | _ => False) := h
      split at h
      · rename_i a st'
        obtain ⟨v, tC, rfl, ga, gt⟩ := zeSt1 hs
        obtain ⟨x, rfl, gx⟩ := ga
        subst gx
        exact xIf_W hx hb hdg (xTgt_ok ht) (fun hy => kJ t _ _ _ (h.1 ((zePr_ok k x 0).mp hy)) lsC lv _ H locs hl hla gt hR) (fun hy => kS _ _ _ (h.2 (fun z => hy ((zePr_ok k x 0).mpr z))) lsC lv _ H locs hl hla gt hR)
      · exact h.elim
    · cases hn
  case ifnull o =>
    have hn : (match xTgt pc o with
      | some t => some (Instr.ifnull (t : Int))
      | none => none) = some ni := hn
    obtain rfl := xl_of hlen (by simp [xLen])
    split at hn
    · rename_i t ht
      cases hn
      replace h : (match (generalizing := false) st with
        | .inr (.inr r) :: st => (r = none → J (t : Int) ls st σ) ∧ (¬ r = none → S ls st σ)
        | _ => False) := h
      split at h
      · rename_i r st'
        obtain ⟨v, tC, rfl, ga, gt⟩ := zeSt1 hs
        cases r with
        | none =>
          have ga : v = .null := ga
          subst ga
          exact lv_ifnullN hx hb hdg (xTgt_ok ht) (kJ t _ _ _ (h.1 rfl) lsC lv _ H locs hl hla gt hR)
        | some r =>
          have ga : v = .ref (ad r) := ga
          subst ga
          exact lv_ifnull hx hb hdg (kS _ _ _ (h.2 (fun z => by cases z)) lsC lv _ H locs hl hla gt hR)
      · exact h.elim
    · cases hn
  case ifnonnull o =>
    have hn : (match xTgt pc o with
      | some t => some (Instr.ifnonnull (t : Int))
      | none => none) = some ni := hn
    obtain rfl := xl_of hlen (by simp [xLen])
    split at hn
    · rename_i t ht
      cases hn
      replace h : (match (generalizing := false) st with
        | .inr (.inr r) :: st => (¬ r = none → J (t : Int) ls st σ) ∧ (r = none → S ls st σ)
        | _ => False) := h
      split at h
      · rename_i r st'
        obtain ⟨v, tC, rfl, ga, gt⟩ := zeSt1 hs
        cases r with
        | none =>
          have ga : v = .null := ga
          subst ga
          exact lv_ifnonnullN hx hb hdg (kS _ _ _ (h.2 rfl) lsC lv _ H locs hl hla gt hR)
        | some r =>
          have ga : v = .ref (ad r) := ga
          subst ga
          exact lv_ifnonnull hx hb hdg (xTgt_ok ht) (kJ t _ _ _ (h.1 (fun z => by cases z)) lsC lv _ H locs hl hla gt hR)
      · exact h.elim
    · cases hn
  case getfield i =>
    have hn : (match xAs i M.2.1 with
      | some f => (match (xDt f.1)[f.2.1]? with
        | some t => bif decide (f.2.1 < 100) && decide (t < 10) then some (Instr.getfield ((f.1 * 100 + f.2.1) * 10 + t)) else none
        | none => none)
      | none => none) = some ni := hn
    obtain rfl := xl_of hlen (by simp [xLen])
    split at hn
    · rename_i f hf
      split at hn
      · rename_i t ht
        by_cases hc : (decide (f.2.1 < 100) && decide (t < 10)) = true
        · rw [hc, cond_true] at hn; cases hn
          rw [Bool.and_eq_true, decide_eq_true_eq, decide_eq_true_eq] at hc
          have d1 : ((f.1 * 100 + f.2.1) * 10 + t) / 1000 = f.1 := by omega
          have d2 : ((f.1 * 100 + f.2.1) * 10 + t) / 10 % 100 = f.2.1 := by omega
          have d3 : ((f.1 * 100 + f.2.1) * 10 + t) % 10 = t := by omega
          replace h : (match (generalizing := false) st with
            | .inr (.inr (some k)) :: st => zeLy k dom = some (.inl (((f.1 * 100 + f.2.1) * 10 + t) / 1000)) ∧ S ls (zeFv σ k ((((f.1 * 100 + f.2.1) * 10 + t) / 10 % 100 : Nat) : Int) (((f.1 * 100 + f.2.1) * 10 + t) % 10) :: st) σ
            | _ => False) := h
          rw [d1, d2, d3] at h
          split at h
          · rename_i k st'
            obtain ⟨v, tC, rfl, ga, gt⟩ := zeSt1 hs
            have ga : v = .ref (ad k) := ga
            subst ga
            exact zeGetf_Wc X0 hR (q := (i, f)) (hM.2.1 _ (xAs_ok hf)) h.1 ht hdg (fun v hv => kS _ _ _ h.2 lsC lv _ H locs hl hla ⟨hv, gt⟩ hR)
          · exact h.elim
        · rw [show (decide (f.2.1 < 100) && decide (t < 10)) = false by simpa using hc, cond_false] at hn; cases hn
      · cases hn
    · cases hn
  case putfield i =>
    have hn : (match xAs i M.2.1 with
      | some f => (match (xDt f.1)[f.2.1]? with
        | some t => bif decide (f.2.1 < 100) && decide (t < 4) && (f.2.2.1 == t) && !f.2.2.2 then some (Instr.putfield ((f.1 * 100 + f.2.1) * 10 + t)) else none
        | none => none)
      | none => none) = some ni := hn
    obtain rfl := xl_of hlen (by simp [xLen])
    split at hn
    · rename_i f hf
      split at hn
      · rename_i t ht
        by_cases hc : (decide (f.2.1 < 100) && decide (t < 4) && (f.2.2.1 == t) && !f.2.2.2) = true
        · rw [hc, cond_true] at hn; cases hn
          simp only [Bool.and_eq_true, decide_eq_true_eq, beq_iff_eq, Bool.not_eq_true'] at hc
          obtain ⟨⟨⟨c1, c2⟩, c3⟩, c4⟩ := hc
          have d1 : ((f.1 * 100 + f.2.1) * 10 + t) / 1000 = f.1 := by omega
          have d2 : ((f.1 * 100 + f.2.1) * 10 + t) / 10 % 100 = f.2.1 := by omega
          have d3 : ((f.1 * 100 + f.2.1) * 10 + t) % 10 = t := by omega
          replace h : (match (generalizing := false) st with
            | .inl x :: .inr (.inr (some k)) :: st => zeLy k dom = some (.inl (((f.1 * 100 + f.2.1) * 10 + t) / 1000)) ∧ (((f.1 * 100 + f.2.1) * 10 + t) % 10 = 0 ∨ ((f.1 * 100 + f.2.1) * 10 + t) % 10 = 1 ∧ (x = 0 ∨ x = 1)) ∧ S ls st (zuI σ k ((((f.1 * 100 + f.2.1) * 10 + t) / 10 % 100 : Nat) : Int) x)
            | .inr (.inl x) :: .inr (.inr (some k)) :: st => zeLy k dom = some (.inl (((f.1 * 100 + f.2.1) * 10 + t) / 1000)) ∧ ((f.1 * 100 + f.2.1) * 10 + t) % 10 = 2 ∧ S ls st (zuL σ k ((((f.1 * 100 + f.2.1) * 10 + t) / 10 % 100 : Nat) : Int) x)
            | .inr (.inr x) :: .inr (.inr (some k)) :: st => zeLy k dom = some (.inl (((f.1 * 100 + f.2.1) * 10 + t) / 1000)) ∧ ((f.1 * 100 + f.2.1) * 10 + t) % 10 = 3 ∧ S ls st (zuR σ k ((((f.1 * 100 + f.2.1) * 10 + t) / 10 % 100 : Nat) : Int) x)
            | _ => False) := h
          rw [d1, d2, d3] at h
          have hfk := hM.2.1 _ (xAs_ok hf)
          split at h
          · rename_i x k st'
            obtain ⟨v, w, tC, rfl, ga, gk, gt⟩ := zeSt2 hs
            have gk : w = .ref (ad k) := gk
            subst gk
            obtain ⟨h1, h2, h3⟩ := h
            obtain ⟨y, rfl, gy⟩ := ga
            refine zePutf_Wc X0 hR (q := (i, f)) (t := t) (a := .inl (x, x)) (N := 0) (τ := zuI σ k (f.2.1 : Int) x) hfk c4 h1 ht ?_ ⟨y, rfl, by rw [gy]; exact Int.le_refl _, by rw [gy]; exact Int.le_refl _⟩ (fun k' hk' => zuI_sm hk') (fun j t' hj => ?_) ?_ hdg (fun H1 locs1 hR1 => kS _ _ _ h3 lsC lv _ H1 locs1 hl hla gt hR1)
            · show xFit f.2.2.1 (.inl (x, x)) = true
              rw [c3]
              rcases h2 with rfl | ⟨rfl, rfl | rfl⟩ <;> rfl
            · have hj' : ¬ ((j : Int) = (f.2.1 : Int)) := fun z => hj (by exact Int.ofNat.inj z)
              match t' with
              | 0 => show Sum.inl _ = Sum.inl _; rw [zuI_at, if_neg hj']
              | 1 => show Sum.inl _ = Sum.inl _; rw [zuI_at, if_neg hj']
              | 2 => rfl
              | _ + 3 => rfl
            · rcases h2 with rfl | ⟨rfl, -⟩
              · exact ⟨y, rfl, by rw [gy, zuI_at, if_pos rfl]⟩
              · exact ⟨y, rfl, by rw [gy, zuI_at, if_pos rfl]⟩
          · rename_i x k st'
            obtain ⟨v, w, tC, rfl, ga, gk, gt⟩ := zeSt2 hs
            have gk : w = .ref (ad k) := gk
            subst gk
            obtain ⟨h1, h2, h3⟩ := h
            have ga : v = .long x := ga
            subst ga
            subst h2
            refine zePutf_Wc X0 hR (q := (i, f)) (t := 2) (a := .inr (.inl (-9223372036854775808, 9223372036854775807))) (N := 0) (τ := zuL σ k (f.2.1 : Int) x) hfk c4 h1 ht ?_ ⟨x, rfl, xInL_of (xI64 x)⟩ (fun k' hk' => zuL_sm hk') (fun j t' hj => ?_) ?_ hdg (fun H1 locs1 hR1 => kS _ _ _ h3 lsC lv _ H1 locs1 hl hla gt hR1)
            · show xFit f.2.2.1 _ = true
              rw [c3]
              rfl
            · have hj' : ¬ ((j : Int) = (f.2.1 : Int)) := fun z => hj (by exact Int.ofNat.inj z)
              match t' with
              | 0 => rfl
              | 1 => rfl
              | 2 => show Sum.inr (Sum.inl _) = Sum.inr (Sum.inl _); rw [zuL_at, if_neg hj']
              | _ + 3 => rfl
            · show Value.long x = Value.long _
              rw [zuL_at, if_pos rfl]
          · rename_i x k st'
            obtain ⟨v, w, tC, rfl, ga, gk, gt⟩ := zeSt2 hs
            have gk : w = .ref (ad k) := gk
            subst gk
            obtain ⟨h1, h2, h3⟩ := h
            subst h2
            have hj' : ∀ j : Nat, ¬ j = f.2.1 → ¬ ((j : Int) = (f.2.1 : Int)) := fun j hj z => hj (by exact Int.ofNat.inj z)
            refine zePutf_Wc X0 hR (q := (i, f)) (t := 3) (a := .inr (.inr (.inl x))) (N := (match x with | some k' => k' + 1 | none => 0)) (τ := zuR σ k (f.2.1 : Int) x) hfk c4 h1 ht ?_ ?_ (fun k' hk' => zuR_sm hk') (fun j t' hj => ?_) ?_ hdg (fun H1 locs1 hR1 => kS _ _ _ h3 lsC lv _ H1 locs1 hl hla gt hR1)
            · show xFit f.2.2.1 _ = true
              rw [c3]
              rfl
            · cases x with
              | none => exact ga
              | some k' => exact ⟨Nat.lt_succ_self _, ga⟩
            · match t' with
              | 0 => rfl
              | 1 => rfl
              | 2 => rfl
              | _ + 3 => show Sum.inr (Sum.inr _) = Sum.inr (Sum.inr _); rw [zuR_at, if_neg (hj' j hj)]
            · show zeOk ad (.inr (.inr ((zuR σ k (f.2.1 : Int) x).2.2 k (f.2.1 : Int)))) v
              rw [zuR_at, if_pos rfl]
              exact ga
          · exact h.elim
        · rw [show (decide (f.2.1 < 100) && decide (t < 4) && (f.2.2.1 == t) && !f.2.2.2) = false by simpa using hc, cond_false] at hn; cases hn
      · cases hn
    · cases hn
  case arraylength =>
    cases hn
    obtain rfl := xl_of hlen (by simp [xLen])
    replace h : (match (generalizing := false) st with
      | .inr (.inr (some k)) :: st => (match (generalizing := false) zeLy k dom with
        | some (.inr q) => q.2 < 2147483648 ∧ S ls (.inl (q.2 : Int) :: st) σ
        | _ => False)
      | _ => False) := h
    split at h
    · rename_i k st'
      obtain ⟨v, tC, rfl, ga, gt⟩ := zeSt1 hs
      have ga : v = .ref (ad k) := ga
      subst ga
      split at h
      · rename_i q hq
        exact zeAlen_Wc X0 hR hq h.1 hdg (fun v hv => kS _ _ _ h.2 lsC lv _ H locs hl hla ⟨hv, gt⟩ hR)
      · exact h.elim
    · exact h.elim
  case iaload =>
    cases hn
    obtain rfl := xl_of hlen (by simp [xLen])
    replace h : (match (generalizing := false) st with
      | .inl i :: .inr (.inr (some k)) :: st => (match (generalizing := false) zeLy k dom with
        | some (.inr q) => q.1 = 1 ∧ (0 ≤ i ∧ i < (q.2 : Int)) ∧ S ls (.inl (σ.1 k i) :: st) σ
        | _ => False)
      | _ => False) := h
    split at h
    · rename_i i k st'
      obtain ⟨w, v, tC, rfl, gi, ga, gt⟩ := zeSt2 hs
      have ga : v = .ref (ad k) := ga
      subst ga
      obtain ⟨x, rfl, gx⟩ := gi
      subst gx
      split at h
      · rename_i q hq
        exact zeAldI_Wc X0 hR hq (Or.inl ⟨rfl, h.1⟩) h.2.1.1 h.2.1.2 hdg (fun v hv => kS _ _ _ h.2.2 lsC lv _ H locs hl hla ⟨hv, gt⟩ hR)
      · exact h.elim
    · exact h.elim
  case baload =>
    cases hn
    obtain rfl := xl_of hlen (by simp [xLen])
    replace h : (match (generalizing := false) st with
      | .inl i :: .inr (.inr (some k)) :: st => (match (generalizing := false) zeLy k dom with
        | some (.inr q) => (q.1 = 0 ∨ q.1 = 3) ∧ (0 ≤ i ∧ i < (q.2 : Int)) ∧ S ls (.inl (σ.1 k i) :: st) σ
        | _ => False)
      | _ => False) := h
    split at h
    · rename_i i k st'
      obtain ⟨w, v, tC, rfl, gi, ga, gt⟩ := zeSt2 hs
      have ga : v = .ref (ad k) := ga
      subst ga
      obtain ⟨x, rfl, gx⟩ := gi
      subst gx
      split at h
      · rename_i q hq
        exact zeAldI_Wc X0 hR hq (Or.inr ⟨rfl, h.1⟩) h.2.1.1 h.2.1.2 hdg (fun v hv => kS _ _ _ h.2.2 lsC lv _ H locs hl hla ⟨hv, gt⟩ hR)
      · exact h.elim
    · exact h.elim
  case laload =>
    cases hn
    obtain rfl := xl_of hlen (by simp [xLen])
    replace h : (match (generalizing := false) st with
      | .inl i :: .inr (.inr (some k)) :: st => (match (generalizing := false) zeLy k dom with
        | some (.inr q) => q.1 = 2 ∧ (0 ≤ i ∧ i < (q.2 : Int)) ∧ S ls (.inr (.inl (σ.2.1 k i)) :: st) σ
        | _ => False)
      | _ => False) := h
    split at h
    · rename_i i k st'
      obtain ⟨w, v, tC, rfl, gi, ga, gt⟩ := zeSt2 hs
      have ga : v = .ref (ad k) := ga
      subst ga
      obtain ⟨x, rfl, gx⟩ := gi
      subst gx
      split at h
      · rename_i q hq
        exact zeAldL_Wc X0 hR hq h.1 h.2.1.1 h.2.1.2 hdg (fun v hv => kS _ _ _ h.2.2 lsC lv _ H locs hl hla ⟨hv, gt⟩ hR)
      · exact h.elim
    · exact h.elim
  case aaload =>
    cases hn
    obtain rfl := xl_of hlen (by simp [xLen])
    replace h : (match (generalizing := false) st with
      | .inl i :: .inr (.inr (some k)) :: st => (match (generalizing := false) zeLy k dom with
        | some (.inr q) => (q.1 = 4 ∨ q.1 = 5) ∧ (0 ≤ i ∧ i < (q.2 : Int)) ∧ S ls (.inr (.inr (σ.2.2 k i)) :: st) σ
        | _ => False)
      | _ => False) := h
    split at h
    · rename_i i k st'
      obtain ⟨w, v, tC, rfl, gi, ga, gt⟩ := zeSt2 hs
      have ga : v = .ref (ad k) := ga
      subst ga
      obtain ⟨x, rfl, gx⟩ := gi
      subst gx
      split at h
      · rename_i q hq
        exact zeAldR_Wc X0 hR hq h.1 h.2.1.1 h.2.1.2 hdg (fun v hv => kS _ _ _ h.2.2 lsC lv _ H locs hl hla ⟨hv, gt⟩ hR)
      · exact h.elim
    · exact h.elim
  case iastore =>
    cases hn
    obtain rfl := xl_of hlen (by simp [xLen])
    replace h : (match (generalizing := false) st with
      | .inl x :: .inl i :: .inr (.inr (some k)) :: st => (match (generalizing := false) zeLy k dom with
        | some (.inr q) => q.1 = 1 ∧ (0 ≤ i ∧ i < (q.2 : Int)) ∧ S ls st (zuI σ k i x)
        | _ => False)
      | _ => False) := h
    split at h
    · rename_i z i k st'
      obtain ⟨u, w, tC, rfl, gz, gi, g⟩ := zeSt2 hs
      obtain ⟨v, tC, rfl, ga, gt⟩ := zeSt1 g
      have ga : v = .ref (ad k) := ga
      subst ga
      obtain ⟨x, rfl, gx⟩ := gi
      subst gx
      obtain ⟨y, rfl, gy⟩ := gz
      subst gy
      split at h
      · rename_i q hq
        exact zeAstI_Wc X0 hR hq (Or.inl ⟨rfl, h.1⟩) h.2.1.1 h.2.1.2 hdg (fun H1 locs1 hR1 => kS _ _ _ h.2.2 lsC lv _ H1 locs1 hl hla gt hR1)
      · exact h.elim
    · exact h.elim
  case bastore =>
    cases hn
    obtain rfl := xl_of hlen (by simp [xLen])
    replace h : (match (generalizing := false) st with
      | .inl x :: .inl i :: .inr (.inr (some k)) :: st => (match (generalizing := false) zeLy k dom with
        | some (.inr q) => (q.1 = 0 ∧ (-128 ≤ x ∧ x ≤ 127) ∨ q.1 = 3 ∧ (x = 0 ∨ x = 1)) ∧ (0 ≤ i ∧ i < (q.2 : Int)) ∧ S ls st (zuI σ k i x)
        | _ => False)
      | _ => False) := h
    split at h
    · rename_i z i k st'
      obtain ⟨u, w, tC, rfl, gz, gi, g⟩ := zeSt2 hs
      obtain ⟨v, tC, rfl, ga, gt⟩ := zeSt1 g
      have ga : v = .ref (ad k) := ga
      subst ga
      obtain ⟨x, rfl, gx⟩ := gi
      subst gx
      obtain ⟨y, rfl, gy⟩ := gz
      subst gy
      split at h
      · rename_i q hq
        exact zeAstI_Wc X0 hR hq (Or.inr ⟨rfl, h.1⟩) h.2.1.1 h.2.1.2 hdg (fun H1 locs1 hR1 => kS _ _ _ h.2.2 lsC lv _ H1 locs1 hl hla gt hR1)
      · exact h.elim
    · exact h.elim
  case lastore =>
    cases hn
    obtain rfl := xl_of hlen (by simp [xLen])
    replace h : (match (generalizing := false) st with
      | .inr (.inl x) :: .inl i :: .inr (.inr (some k)) :: st => (match (generalizing := false) zeLy k dom with
        | some (.inr q) => q.1 = 2 ∧ (0 ≤ i ∧ i < (q.2 : Int)) ∧ S ls st (zuL σ k i x)
        | _ => False)
      | _ => False) := h
    split at h
    · rename_i z i k st'
      obtain ⟨u, w, tC, rfl, gz, gi, g⟩ := zeSt2 hs
      obtain ⟨v, tC, rfl, ga, gt⟩ := zeSt1 g
      have ga : v = .ref (ad k) := ga
      subst ga
      obtain ⟨x, rfl, gx⟩ := gi
      subst gx
      have gz : u = .long z := gz
      subst gz
      split at h
      · rename_i q hq
        exact zeAstL_Wc X0 hR hq h.1 h.2.1.1 h.2.1.2 hdg (fun H1 locs1 hR1 => kS _ _ _ h.2.2 lsC lv _ H1 locs1 hl hla gt hR1)
      · exact h.elim
    · exact h.elim
  case invokevirtual i =>
    have hn : (bif decide (i < 100000) then some (Instr.invokevirtual i) else none) = some ni := hn
    obtain rfl := xl_of hlen (by simp [xLen])
    by_cases hc : i < 100000
    · rw [decide_eq_true hc, cond_true] at hn; cases hn
      replace h : (match (generalizing := false) zeCs i cs with
        | some q => (match (generalizing := false) zePop q.1 st [] with
          | some z => zeSum z.2 ≤ 8 ∧ q.2 z.1 σ (fun r σ' => match r with
            | some v => S ls (v :: z.2) σ'
            | none => S ls z.2 σ')
          | none => False)
        | none => False) := h
      split at h
      · rename_i q hq
        split at h
        · rename_i z hz
          obtain ⟨asC, restC, e1, e2, e3, e4⟩ := zePop_ok (accC := []) hz hs trivial
          rw [List.reverse_nil, List.nil_append] at e1
          subst e1
          have e4 : z.1.length = q.1 := by rw [e4]; rfl
          rcases hcs _ (zeCs_ok hq) with ⟨npar, M', cl, rm', t1, t2, t3, t4, t5⟩ | ⟨kind, npar, M', cl, i', rm', t1, -⟩ | ⟨i', t1, -⟩ | ⟨t1, t2, t3, t4, t5, t6⟩
          · obtain ⟨g1, g2⟩ := t5 _ _ _ h.2
            refine zeMet_Wc X0 hl.1 hR (i := i) (kind := 0) (npar := npar) (cl := cl) (ins := .invokevirtual i) t2 e2 g2 t4 (by rw [zeSum_ok e3]; exact h.1) (Or.inl ⟨rfl, rfl, e4.trans t3, g1⟩) hdg (fun r v τ H1 locs1 hrt hQ hR1 => ?_)
            cases r with
            | none => cases v with
              | none => exact kS _ _ _ hQ lsC lv _ H1 locs1 hl hla e3 hR1
              | some v => exact hrt.elim
            | some r => cases v with
              | none => exact hrt.elim
              | some v => exact kS _ _ _ hQ lsC lv _ H1 locs1 hl hla ⟨hrt, e3⟩ hR1
          · dsimp only at t1; omega
          · dsimp only at t1; omega
          · obtain ⟨j, n, y, u1, u2, u3⟩ := t6 _ _ _ h.2
            rw [u2] at e2
            match asC, e2 with
            | [va, vb], e2 =>
              obtain ⟨ga, ⟨y', rfl, gy⟩, -⟩ := e2
              have ga : va = .ref (ad j) := ga
              subst ga
              obtain ⟨v1, v2, vA, f, v3⟩ := xStL_ok u1 hSS
              obtain ⟨ws, hw, hP, hD, hS⟩ := hR
              obtain ⟨i1, i2⟩ := xIxC_in f v1 y'
              exact xStridx_W v1 v2 hx hb hml hl.1 hts hbig hown ((hM.2.2.2.2.2 _ t5).2.2.2.2.2 rfl) v3 hS ⟨by omega, by omega⟩ hcs0 (show (restC.map fun v => v.category).sum ≤ 8 by rw [zeSum_ok e3]; exact h.1) hdg (kS _ _ _ (u3 _ i1 (by omega)) lsC lv _ H locs hl hla ⟨⟨_, rfl, rfl⟩, e3⟩ ⟨ws, hw, hP, hD, hS⟩)
        · exact h.elim
      · exact h.elim
    · rw [decide_eq_false hc, cond_false] at hn; cases hn
  case invokestatic i =>
    cases hn
    obtain rfl := xl_of hlen (by simp [xLen])
    replace h : (match (generalizing := false) zeCs (i + 100000) cs with
      | some q => (match (generalizing := false) zePop q.1 st [] with
        | some z => zeSum z.2 ≤ 8 ∧ q.2 z.1 σ (fun r σ' => match r with
          | some v => S ls (v :: z.2) σ'
          | none => S ls z.2 σ')
        | none => False)
      | none => False) := h
    split at h
    · rename_i q hq
      split at h
      · rename_i z hz
        obtain ⟨asC, restC, e1, e2, e3, e4⟩ := zePop_ok (accC := []) hz hs trivial
        rw [List.reverse_nil, List.nil_append] at e1
        subst e1
        have e4 : z.1.length = q.1 := by rw [e4]; rfl
        rcases hcs _ (zeCs_ok hq) with ⟨npar, M', cl, rm', t1, -⟩ | ⟨kind, npar, M', cl, i', rm', t1, t2, t3, t4, t5, t6⟩ | ⟨i', t1, t2, t3, t4, t5⟩ | ⟨t1, -⟩
        · dsimp only at t1; omega
        · have hii : i' = i := by dsimp only at t1; omega
          subst hii
          refine zeMet_Wc X0 hl.1 hR (i := i') (kind := kind) (npar := npar) (cl := cl) (ins := .invokestatic i') t3 e2 (t6 _ _ _ h.2) t5 (by rw [zeSum_ok e3]; exact h.1) (Or.inr ⟨t2, rfl, e4.trans t4⟩) hdg (fun r v τ H1 locs1 hrt hQ hR1 => ?_)
          cases r with
          | none => cases v with
            | none => exact kS _ _ _ hQ lsC lv _ H1 locs1 hl hla e3 hR1
            | some v => exact hrt.elim
          | some r => cases v with
            | none => exact hrt.elim
            | some v => exact kS _ _ _ hQ lsC lv _ H1 locs1 hl hla ⟨hrt, e3⟩ hR1
        · have hii : i' = i := by dsimp only at t1; omega
          subst hii
          have hr2 : (restC.map fun v => v.category).sum + 14 ≤ R.locals := by rw [zeSum_ok e3]; have := h.1; omega
          rcases t5 with ⟨t5, t6⟩ | ⟨t5, t6⟩
          · obtain ⟨a, b, e5, e6⟩ := t6 _ _ _ h.2
            obtain ⟨w1, w2, w3, w4⟩ := (hM.2.2.2.2.2 _ t5).2.1 rfl
            rw [e5] at e2
            match asC, e2 with
            | [va, vb], e2 =>
              obtain ⟨⟨x, rfl, gx⟩, ⟨y, rfl, gy⟩, -⟩ := e2
              refine va_mmin hx hb (by rw [hml, hl.1]) hown (word w1) (word w2) (word w3) (word w4) (by omega) (show (restC.map fun v => v.category).sum + 13 ≤ R.locals by omega) hcs0.1 hcs0.2 hdg ?_
              exact kS _ _ _ e6 lsC lv _ H locs hl hla ⟨⟨_, rfl, by rw [zeMinB, gx, gy]⟩, e3⟩ hR
          · obtain ⟨a, b, e5, e6⟩ := t6 _ _ _ h.2
            obtain ⟨w1, w2, w3, w4⟩ := (hM.2.2.2.2.2 _ t5).2.2.1 rfl
            rw [e5] at e2
            match asC, e2 with
            | [va, vb], e2 =>
              obtain ⟨⟨x, rfl, gx⟩, ⟨y, rfl, gy⟩, -⟩ := e2
              refine va_mmax hx hb (by rw [hml, hl.1]) hown (word w1) (word w2) (word w3) (word w4) (by omega) (show (restC.map fun v => v.category).sum + 13 ≤ R.locals by omega) hcs0.1 hcs0.2 hdg ?_
              exact kS _ _ _ e6 lsC lv _ H locs hl hla ⟨⟨_, rfl, by rw [zeMaxB, gx, gy]⟩, e3⟩ hR
        · dsimp only at t1; omega
      · exact h.elim
    · exact h.elim
  case tableswitch dflt lo hi os =>
    have hn : (match xTgt pc dflt, zeTs pc os.toList with
      | some t, some ts => bif decide (hi = lo + (ts.length : Int) - 1) then some (Instr.tableswitch (t : Int) lo hi ts.toArray) else none
      | _, _ => none) = some ni := hn
    split at hn
    · rename_i t ts ht hts'
      by_cases hc : hi = lo + (ts.length : Int) - 1
      · rw [decide_eq_true hc, cond_true] at hn; cases hn
        replace h : (match (generalizing := false) st with
          | .inl x :: st => zeTsw (t : Int) lo x (fun t => J t ls st σ) ts lo
          | _ => False) := h
        split at h
        · rename_i x st'
          obtain ⟨v, tC, rfl, ga, gt⟩ := zeSt1 hs
          obtain ⟨y, rfl, gy⟩ := ga
          subst gy
          obtain ⟨q1, q2⟩ := zeTsw_ok h
          obtain ⟨q3, q4⟩ := zeTs_ok hts'
          by_cases ho : y.toInt < lo ∨ hi < y.toInt
          · exact lv_tableOut hx hb hdg ho (xTgt_ok ht) (kJ t _ _ _ (q2 (by omega)) lsC lv _ H locs hl hla gt hR)
          · have hlt : (y.toInt - lo).toNat < ts.length := by omega
            obtain ⟨o, n, r1, r2, r3⟩ := q4 (y.toInt - lo).toNat _ (List.getElem?_eq_getElem hlt)
            have q1 := q1 (y.toInt - lo).toNat _ (List.getElem?_eq_getElem hlt) (by omega)
            rw [r2] at q1
            exact lv_tableIn hx hb hdg (by omega) (by omega) (by rw [← Array.getElem?_toList]; exact r1) r3 (kJ n _ _ _ q1 lsC lv _ H locs hl hla gt hR)
        · exact h.elim
      · rw [decide_eq_false hc, cond_false] at hn; cases hn
    · cases hn
  case lookupswitch dflt ps =>
    have hn : (match xTgt pc dflt, zePs pc ps.toList with
      | some t, some ts => bif (ps.toList.zip (ps.toList.drop 1)).all (fun (a, next) => a.1 < next.1) then some (Instr.lookupswitch (t : Int) ts.toArray) else none
      | _, _ => none) = some ni := hn
    split at hn
    · rename_i t ts ht hts'
      by_cases hc : ((ps.toList.zip (ps.toList.drop 1)).all (fun (a, next) => a.1 < next.1)) = true
      · rw [hc, cond_true] at hn; cases hn
        replace h : (match (generalizing := false) st with
          | .inl x :: st => (∀ z ∈ ts, x = z.1 → J z.2 ls st σ) ∧ ((∀ z ∈ ts, ¬ x = z.1) → J (t : Int) ls st σ)
          | _ => False) := h
        split at h
        · rename_i x st'
          obtain ⟨v, tC, rfl, ga, gt⟩ := zeSt1 hs
          obtain ⟨y, rfl, gy⟩ := ga
          subst gy
          rcases zePs_ok hts' dflt y.toInt with ⟨z, q1, q2, n, q3, q4⟩ | ⟨q1, q2⟩
          · have hj := h.1 z q1 q2
            rw [q3] at hj
            exact lv_lookup hx hb hdg hc rfl q4 (kJ n _ _ _ hj lsC lv _ H locs hl hla gt hR)
          · exact lv_lookup hx hb hdg hc q2 (xTgt_ok ht) (kJ t _ _ _ (h.2 q1) lsC lv _ H locs hl hla gt hR)
        · exact h.elim
      · rw [show ((ps.toList.zip (ps.toList.drop 1)).all (fun (a, next) => a.1 < next.1)) = false by simpa using hc, cond_false] at hn; cases hn
    · cases hn
  case ireturn =>
    cases hn
    obtain rfl := xl_of hlen (by simp [xLen])
    replace h : (match (generalizing := false) st with
      | [.inl x] => Rz (some (.inl x)) σ
      | _ => False) := h
    split at h
    · rename_i x
      obtain ⟨v, tC, rfl, ga, gt⟩ := zeSt1 hs
      match tC, gt with
      | [], _ => exact hret .ireturn _ (some v) σ lsC H locs pc (Or.inr ⟨_, rfl, rfl⟩) hdg h ga hR
    · exact h.elim
  case lreturn =>
    cases hn
    obtain rfl := xl_of hlen (by simp [xLen])
    replace h : (match (generalizing := false) st with
      | [.inr (.inl x)] => Rz (some (.inr (.inl x))) σ
      | _ => False) := h
    split at h
    · rename_i x
      obtain ⟨v, tC, rfl, ga, gt⟩ := zeSt1 hs
      match tC, gt with
      | [], _ => exact hret .lreturn _ (some v) σ lsC H locs pc (Or.inr ⟨_, rfl, rfl⟩) hdg h ga hR
    · exact h.elim
  case areturn =>
    cases hn
    obtain rfl := xl_of hlen (by simp [xLen])
    replace h : (match (generalizing := false) st with
      | [.inr (.inr x)] => Rz (some (.inr (.inr x))) σ
      | _ => False) := h
    split at h
    · rename_i x
      obtain ⟨v, tC, rfl, ga, gt⟩ := zeSt1 hs
      match tC, gt with
      | [], _ => exact hret .areturn _ (some v) σ lsC H locs pc (Or.inr ⟨_, rfl, rfl⟩) hdg h ga hR
    · exact h.elim
  case return_ =>
    cases hn
    obtain rfl := xl_of hlen (by simp [xLen])
    replace h : (match (generalizing := false) st with
      | [] => Rz none σ
      | _ => False) := h
    split at h
    · match stC, hs with
      | [], _ => exact hret .return_ none none σ lsC H locs pc (Or.inl ⟨rfl, rfl⟩) hdg h trivial hR
    · exact h.elim
  all_goals exact absurd hn (by intro z; cases z)
/-- the entries in their one form, one behind the other -/
theorem zeGd_pjc {Q : State → Prop} (js : List Nat) {pc : Nat} {ls : zeLs} {st : List zeV} {σ : zeS} (h : zeGdc p l e R s m args below meth c Q D cy A ad nL dom cs0 ss0 pc (zePj js ls) st σ) : zeGdc p l e R s m args below meth c Q D cy A ad nL dom cs0 ss0 pc ls st σ := by
  intro lsC lv stC H locs hl hla hs hR
  obtain ⟨lv', h1, h2⟩ := zePj_ok hl hla js
  exact h lsC lv' stC H locs h1 h2 hs hR
theorem zeWp_okc (X : zeXc p R s m args c cc D cy A own Ts ad nL M dom rm cs0 ss0) {cs : List zeC} (hcs : ∀ q ∈ cs, zeTok own M rm dom q) {Rz : Option zeV → zeS → Prop} (hret : zeRetOkc p l e R s m args below meth c Q cc D cy A ad dom Rz cs0 ss0) {code : List zeEn} (hcode : zeTb M nL M.1 = some code) (hcq : zeCq code = true) (cuts : List (Nat × List Nat)) : ∀ (n : Nat) (cur : List zeEn) (ls : zeLs) (st : List zeV) (σ : zeS), zeCq cur = true → (∀ q ∈ cur, q ∈ code) → zeWp code cs dom cuts (zeGdc p l e R s m args below meth c Q D cy A ad nL dom cs0 ss0) Rz n cur ls st σ → ∃ q r, cur = q :: r ∧ zeGdc p l e R s m args below meth c Q D cy A ad nL dom cs0 ss0 q.1 ls st σ
  | n, [], ls, st, σ, _, _, h => by cases n <;> exact h.elim
  | 0, q :: r, ls, st, σ, _, _, h => ⟨q, r, rfl, h⟩
  | n + 1, q :: nxt, ls, st, σ, hc, hm, h => by
    refine ⟨q, nxt, rfl, ?_⟩
    obtain ⟨ins, fa, g1, g2⟩ := zeTb_ok hcode q (hm q List.mem_cons_self)
    obtain ⟨d1, d2, -⟩ := X.2.1.1 _ g1
    refine zeDo_okc X hcs hret d1 d2 g2 h (fun ls st σ h => ?_) (fun t ls st σ h => ?_)
    · split at h
      · exact zeGd_pjc _ h
      · obtain ⟨q', r', e1, e2⟩ := zeWp_okc X hcs hret hcode hcq cuts n nxt ls st σ (by
          cases nxt with
          | nil => rfl
          | cons b r => simp only [zeCq, Bool.and_eq_true] at hc; exact hc.2) (fun z hz => hm z (List.mem_cons_of_mem _ hz)) h
        subst e1
        simp only [zeCq, Bool.and_eq_true, beq_iff_eq] at hc
        dsimp only
        rw [hc.1]
        exact e2
    · rw [Int.toNat_natCast] at h
      split at h
      · exact zeGd_pjc _ h
      · obtain ⟨s1, s2, s3⟩ := zeSk_ok (t := t) hcq
        obtain ⟨q', r', e1, e2⟩ := zeWp_okc X hcs hret hcode hcq cuts n _ ls st σ s1 s2 h
        rw [← s3 _ _ e1]
        exact e2
end ZDO


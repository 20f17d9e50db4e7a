/-! new objects and arrays, stores of references, copies -/
def xAdU (ad : Nat → Nat) (N q : Nat) : Nat → Nat := fun k => if k = N then q else ad k
theorem xAdU_lt {ad : Nat → Nat} {N q : Nat} : ∀ k, k < N → xAdU ad N q k = ad k := fun k h => by
  unfold xAdU; rw [if_neg (by omega)]
theorem xAdU_at {ad : Nat → Nat} {N q : Nat} : xAdU ad N q N = q := by
  unfold xAdU; rw [if_pos rfl]
/-- a class by its place in the pool: (index, class of the worlds) -/
def xNok (own : String) (q : Nat × Nat) : Prop := ∃ r : vw_C, vwCl[q.2]? = some r ∧ Cond.classLink own q.1 r.1 ∈ xBig ∧ Cond.instantiable r.1 r.2.2 ∈ xBig ∧ Cond.initialized r.1 ∈ xBig
def xNokB (own : String) (i : List Nat) (q : Nat × Nat) : Bool := match vwCl[q.2]? with
  | some r => xHas (i.getD 0 0) (.classLink own q.1 r.1) && xHas (i.getD 1 0) (.instantiable r.1 r.2.2) && xHas (i.getD 2 0) (.initialized r.1)
  | none => false
theorem xNokB_ok {own : String} {i : List Nat} {q : Nat × Nat} (h : xNokB own i q = true) : xNok own q := by
  unfold xNokB at h
  split at h
  · rename_i r hr
    simp only [Bool.and_eq_true] at h
    exact ⟨r, hr, xHas_ok h.1.1, xHas_ok h.1.2, xHas_ok h.2⟩
  · cases h
def xTyOf : ArrayType → Option (Nat × xV)
  | .byte => some (0, .inl (Int.ofNat 0, Int.ofNat 0))
  | .int => some (1, .inl (Int.ofNat 0, Int.ofNat 0))
  | .long => some (2, .inr (.inl (Int.ofNat 0, Int.ofNat 0)))
  | .boolean => some (3, .inl (Int.ofNat 0, Int.ofNat 0))
  | _ => none
theorem xarr0 : Cond.arrayClass .byte ∈ xBig ∧ Cond.arrayClass .int ∈ xBig ∧ Cond.arrayClass .long ∈ xBig ∧ Cond.arrayClass .boolean ∈ xBig := ⟨xHas_ok (i := 728) (by decide +kernel), xHas_ok (i := 149) (by decide +kernel), xHas_ok (i := 240) (by decide +kernel), xHas_ok (i := 284) (by decide +kernel)⟩
section XNE
variable {p : Program} {l : Launch} {e : Env} {R : Room} {s : State} {m : MethodId} {args : Array Value} {below : List Frame} {meth : Method} {c : Code} {H : Heap} {locs : List Loc} {cells slots : Nat} {Q : State → Prop}
variable {cc : ByteArray} {pc : Nat} {ls : Array Slot} {rest : List Value} {D : va_G} {cy : Nat → ClassId} {η : Nat → Int32} {ad : Nat → Nat} {N : Nat} {A : Nat → Prop} {H0 : Heap} {hp : xH} {own : String} {Ts : List Cond}
theorem xRel_push {q : Nat} {x : va_E} {e : xE} {ws : va_W} {H1 : Heap} {locs1 : List Loc} (hw : xWok η ad N cy hp ws) (hP : va_P D vwCl (ws ++ [(q, x)]) H1) (hD : va_D A (ws ++ [(q, x)])) (hS : va_S A H0 H1 locs1) (hE : xEok η (xAdU ad N q) (N + 1) cy e x) : xRel D cy η (xAdU ad N q) (N + 1) A H0 ((N, e) :: hp) H1 locs1 :=
  ⟨(q, x) :: ws, ⟨⟨xAdU_at.symm, Nat.lt_succ_self N, hE⟩, xWok_moved (Nat.le_succ N) xAdU_lt hw⟩, xP_perm hP xPerm_cons, xD_perm hD xPerm_cons, hS⟩
theorem xNew_W (hx : p.tables.exec = Jvm.exec) (hb : c.code = cc) (hts : ∀ w ∈ Ts, w.before args s = true) (hbig : ∀ w ∈ xBig, w ∈ Ts) (hown : s.vm.findClass own = some m.cls) (hK : xKK D cy s) (hA : ∀ q, H0.size ≤ q → A q) (hR : xRel D cy η ad N A H0 hp H locs) {q : Nat × Nat} (hq : xNok own q) (hcs : cells + 1 ≤ R.cells ∧ slots + (xDt q.2).length ≤ R.slots) (hdt : ∀ r, vwCl[q.2]? = some r → (xDt q.2).length = r.2.2) (hdg : decode cc pc = .ok (.new q.1, 3))
    (kk : ∀ (ad' : Nat → Nat) (H1 : Heap), (∀ k, k < N → ad' k = ad k) → xRel D cy η ad' (N + 1) A H0 ((N, .inl (q.2, (xDt q.2).map xDa)) :: hp) H1 locs → W p l e R s m args below meth c H1 locs (cells + 1) (slots + (xDt q.2).length) Q (F0 m (pc + 3) ls (.ref (ad' N) :: rest))) : W p l e R s m args below meth c H locs cells slots Q (F0 m pc ls rest) := by
  obtain ⟨ws, hw, hP, hD, hS⟩ := hR
  obtain ⟨⟨C, T, Nf⟩, h1, h2, h3, h4⟩ := hq
  obtain ⟨hin, ty0, hty, hnm, hdf⟩ := xCls h1
  have hn := hdt _ h1
  dsimp only at hn h2 h3 h4 hin hty hdf
  rw [hn] at hcs kk
  refine va_new (D := D) (ci := q.2) hx hb hts (fun w h => hbig w (hin w h)) ty0 hty hown (hts _ (hbig _ h2)) (hts _ (hbig _ h3)) (hts _ (hbig _ h4)) hK.1 hP hD hS hA h1 hdf hcs.1 hcs.2 hdg (fun q' H1 hP hD hS => ?_)
  have := kk (xAdU ad N q') H1 xAdU_lt (xRel_push hw hP hD hS ⟨rfl, xDa_all η _ _ _⟩)
  rw [xAdU_at] at this
  exact this
theorem xNewa_W (hx : p.tables.exec = Jvm.exec) (hb : c.code = cc) (hts : ∀ w ∈ Ts, w.before args s = true) (hbig : ∀ w ∈ xBig, w ∈ Ts) (hK : xKK D cy s) (hA : ∀ q, H0.size ≤ q → A q) (hR : xRel D cy η ad N A H0 hp H locs) {at' : ArrayType} {t : Nat} {d : xV} (hq : xTyOf at' = some (t, d)) {n : Int} (h0 : 0 ≤ n) (hn : n ≤ 1000000) {x : Int32} (hxn : x.toInt = n) (hcs : cells + 1 ≤ R.cells ∧ slots + n.toNat ≤ R.slots) (hdg : decode cc pc = .ok (.newarray at', 2))
    (kk : ∀ (ad' : Nat → Nat) (H1 : Heap), (∀ k, k < N → ad' k = ad k) → xRel D cy η ad' (N + 1) A H0 ((N, .inr (t, n.toNat, d, [])) :: hp) H1 locs → W p l e R s m args below meth c H1 locs (cells + 1) (slots + n.toNat) Q (F0 m (pc + 2) ls (.ref (ad' N) :: rest))) : W p l e R s m args below meth c H locs cells slots Q (F0 m pc ls (.int x :: rest)) := by
  obtain ⟨ws, hw, hP, hD, hS⟩ := hR
  have hx0 : ¬ x < 0 := by
    rw [Int32.lt_iff_toInt_lt]
    have e0 : (0 : Int32).toInt = 0 := rfl
    omega
  have hN : x.toNatClampNeg = n.toNat := by rw [← hxn]; rfl
  have hnn : n.toNat ≤ 1000000 := by omega
  obtain ⟨a0, a1, a2, a3⟩ := xarr0
  have fin : ∀ {q' : Nat} {cA : ClassId} {H1 : Heap} {a : (Nat → Int32) ⊕ (Nat → Int64) ⊕ (Nat → UInt32) ⊕ (Nat → UInt64) ⊕ (Nat → Option Nat)}, cA = cy t → t < 6 → va_P D vwCl (ws ++ [(q', .inl (cA, n.toNat, a))]) H1 → va_D A (ws ++ [(q', .inl (cA, n.toNat, a))]) → va_S A H0 H1 locs → xAr η (xAdU ad N q') (N + 1) t n.toNat d [] a → W p l e R s m args below meth c H1 locs (cells + 1) (slots + n.toNat) Q (F0 m (pc + 2) ls (.ref q' :: rest)) := by
    intro q' cA H1 a h1 h2 hP hD hS h3
    have := kk (xAdU ad N q') H1 xAdU_lt (xRel_push hw hP hD hS ⟨h1, rfl, h2, h3⟩)
    rw [xAdU_at] at this
    exact this
  unfold xTyOf at hq
  split at hq <;> cases hq
  · refine va_newa (atype := .byte) (D := D) (a0 := (n.toNat, .inl (fun _ => 0))) hx hb (hts _ (hbig _ a0)) rfl hK.1 hP hD hS hA (fun _ => rfl) hx0 hN (show n.toNat * 1 ≤ _ by omega) hcs.1 hcs.2 hdg (fun q' cA H1 hK2 hP hD hS => fin ?_ (by decide) hP hD hS ⟨(fun h => by omega), (fun _ => ⟨_, rfl, fun i _ => ⟨0, rfl, Int.le_refl _, Int.le_refl _⟩⟩), (fun h => by omega)⟩)
    exact Option.some.inj ((hK2.2 6 (cA, .byte) rfl).2.symm.trans (hK.1.2 0 (cy 0, .byte) rfl).2)
  · refine va_newa (atype := .int) (D := D) (a0 := (n.toNat, .inl (fun _ => 0))) hx hb (hts _ (hbig _ a1)) rfl hK.1 hP hD hS hA (fun _ => rfl) hx0 hN (show n.toNat * 4 ≤ _ by omega) hcs.1 hcs.2 hdg (fun q' cA H1 hK2 hP hD hS => fin ?_ (by decide) hP hD hS ⟨(fun h => by omega), (fun _ => ⟨_, rfl, fun i _ => ⟨0, rfl, Int.le_refl _, Int.le_refl _⟩⟩), (fun h => by omega)⟩)
    exact Option.some.inj ((hK2.2 6 (cA, .int) rfl).2.symm.trans (hK.1.2 1 (cy 1, .int) rfl).2)
  · refine va_newa (atype := .long) (D := D) (a0 := (n.toNat, .inr (.inl (fun _ => 0)))) hx hb (hts _ (hbig _ a2)) rfl hK.1 hP hD hS hA (fun _ => rfl) hx0 hN (show n.toNat * 8 ≤ _ by omega) hcs.1 hcs.2 hdg (fun q' cA H1 hK2 hP hD hS => fin ?_ (by decide) hP hD hS ⟨(fun _ => ⟨_, rfl, fun i _ => ⟨0, rfl, Int.le_refl _, Int.le_refl _⟩⟩), (fun h => by omega), (fun h => by omega)⟩)
    exact Option.some.inj ((hK2.2 6 (cA, .long) rfl).2.symm.trans (hK.1.2 2 (cy 2, .long) rfl).2)
  · refine va_newa (atype := .boolean) (D := D) (a0 := (n.toNat, .inl (fun _ => 0))) hx hb (hts _ (hbig _ a3)) rfl hK.1 hP hD hS hA (fun _ => rfl) hx0 hN (show n.toNat * 1 ≤ _ by omega) hcs.1 hcs.2 hdg (fun q' cA H1 hK2 hP hD hS => fin ?_ (by decide) hP hD hS ⟨(fun h => by omega), (fun _ => ⟨_, rfl, fun i _ => ⟨0, rfl, Int.le_refl _, Int.le_refl _⟩⟩), (fun h => by omega)⟩)
    exact Option.some.inj ((hK2.2 6 (cA, .boolean) rfl).2.symm.trans (hK.1.2 3 (cy 3, .boolean) rfl).2)
/-- an array of references by its place in the pool: (index, 4 or 5) -/
def xNqk (own : String) (q : Nat × Nat) : Prop := (q.2 = 4 ∧ Cond.classLink own q.1 RX0 ∈ xBig) ∨ (q.2 = 5 ∧ Cond.classLink own q.1 RX9 ∈ xBig)
def xNqkB (own : String) (i : Nat) (q : Nat × Nat) : Bool := (q.2 == 4 && xHas i (.classLink own q.1 RX0)) || (q.2 == 5 && xHas i (.classLink own q.1 RX9))
theorem xNqkB_ok {own : String} {i : Nat} {q : Nat × Nat} (h : xNqkB own i q = true) : xNqk own q := by
  simp only [xNqkB, Bool.or_eq_true, Bool.and_eq_true, beq_iff_eq] at h
  exact h.imp (fun h => ⟨h.1, xHas_ok h.2⟩) (fun h => ⟨h.1, xHas_ok h.2⟩)
theorem xNewq_W (hx : p.tables.exec = Jvm.exec) (hb : c.code = cc) (hts : ∀ w ∈ Ts, w.before args s = true) (hbig : ∀ w ∈ xBig, w ∈ Ts) (hown : s.vm.findClass own = some m.cls) (hK : xKK D cy s) (hA : ∀ q, H0.size ≤ q → A q) (hR : xRel D cy η ad N A H0 hp H locs) {q : Nat × Nat} (hq : xNqk own q) {n : Int} (h0 : 0 ≤ n) (hn : n ≤ 1000000) {x : Int32} (hxn : x.toInt = n) (hcs : cells + 1 ≤ R.cells ∧ slots + n.toNat ≤ R.slots) (hdg : decode cc pc = .ok (.anewarray q.1, 3))
    (kk : ∀ (ad' : Nat → Nat) (H1 : Heap), (∀ k, k < N → ad' k = ad k) → xRel D cy η ad' (N + 1) A H0 ((N, .inr (q.2, n.toNat, .inr (.inr (.inl none)), [])) :: hp) H1 locs → W p l e R s m args below meth c H1 locs (cells + 1) (slots + n.toNat) Q (F0 m (pc + 3) ls (.ref (ad' N) :: rest))) : W p l e R s m args below meth c H locs cells slots Q (F0 m pc ls (.int x :: rest)) := by
  obtain ⟨ws, hw, hP, hD, hS⟩ := hR
  have hx0 : ¬ x < 0 := by
    rw [Int32.lt_iff_toInt_lt]
    have e0 : (0 : Int32).toInt = 0 := rfl
    omega
  have hN : x.toNatClampNeg = n.toNat := by rw [← hxn]; rfl
  have hnn : n.toNat ≤ 1000000 := by omega
  have inj : ∀ {C : String} {a b : ClassId}, va_RA s a (.object C) → va_RA s b (.object C) → a = b := by
    intro C a b h1 h2
    obtain ⟨_, _, _, _, _, e1⟩ := h1
    obtain ⟨_, _, _, _, _, e2⟩ := h2
    exact Option.some.inj (e1.symm.trans e2)
  obtain ⟨qi, qt⟩ := q
  rcases hq with ⟨hqt, hl⟩ | ⟨hqt, hl⟩ <;> dsimp only at hqt hl <;> subst hqt
  · refine va_newq (D := D) hx hb hown (hts _ (hbig _ hl)) hK.2.1 hK.1 hP hD hS hA hx0 hN (by omega) hcs.1 hcs.2 hdg (fun q' cA H1 hK2 hP hD hS => ?_)
    have := kk (xAdU ad N q') H1 xAdU_lt (xRel_push hw hP hD hS ⟨inj (hK2.2 6 (cA, .object RX0) rfl).2 (hK.1.2 4 (cy 4, .object RX0) rfl).2, rfl, (show (4 : Nat) < 6 by decide), (fun h => by omega), (fun h => by omega), (fun _ => ⟨_, rfl, fun i _ => rfl⟩)⟩)
    rw [xAdU_at] at this
    exact this
  · refine va_newq (D := D) hx hb hown (hts _ (hbig _ hl)) hK.2.2.1 hK.1 hP hD hS hA hx0 hN (by omega) hcs.1 hcs.2 hdg (fun q' cA H1 hK2 hP hD hS => ?_)
    have := kk (xAdU ad N q') H1 xAdU_lt (xRel_push hw hP hD hS ⟨inj (hK2.2 6 (cA, .object RX9) rfl).2 (hK.1.2 5 (cy 5, .object RX9) rfl).2, rfl, (show (5 : Nat) < 6 by decide), (fun h => by omega), (fun h => by omega), (fun _ => ⟨_, rfl, fun i _ => rfl⟩)⟩)
    rw [xAdU_at] at this
    exact this
theorem xAastq_W (hx : p.tables.exec = Jvm.exec) (hb : c.code = cc) (hK : xKK D cy s) (hR : xRel D cy η ad N A H0 hp H locs) {k t n k2 ci : Nat} {avs : List xV} {d : xV} {ov : List (Nat × xV)} {hp' : xH} (hg : xTake k hp = some (.inr (t, n, d, ov), hp')) (hg2 : xGet k2 hp' = some (.inl (ci, avs))) (htc : (t = 4 ∧ ci = 0) ∨ (t = 5 ∧ ci = 9)) (hk2 : k2 < N) {i : Int} (h0 : 0 ≤ i) (hn : i < n) {x : Int32} (hxi : x.toInt = i) (hdg : decode cc pc = .ok (.aastore, 1)) (kk : ∀ (H1 : Heap) (locs1 : List Loc), xRel D cy η ad N A H0 ((k, .inr (t, n, d, xPut d i.toNat (.inr (.inr (.inl (some k2)))) ov)) :: hp') H1 locs1 → W p l e R s m args below meth c H1 locs1 cells slots Q (F0 m (pc + 1) ls rest)) : W p l e R s m args below meth c H locs cells slots Q (F0 m pc ls (.ref (ad k2) :: .int x :: .ref (ad k) :: rest)) := by
  obtain ⟨ws, hw, hP, hD, hS⟩ := hR
  obtain ⟨y, ws', e1, e0, e2, e10⟩ := xTake_ok hw hg
  rcases y with ⟨cA, n', y⟩ | y
  rotate_left
  · exact e2.elim
  obtain ⟨rfl, rfl, e5, e6, e7, e8⟩ := e2
  have hP := xP_perm hP e1
  have hD := xD_perm hD e1
  subst hxi
  obtain ⟨g3, g4, g5⟩ := xin_ok h0 hn
  obtain ⟨j, z, f1, f2⟩ := xGet_ok e10 hg2
  rcases z with z | ⟨ci', vs⟩
  · exact f2.elim
  obtain ⟨f3, -⟩ := f2
  dsimp only at f3
  subst f3
  have up : ∀ {f : Nat → Option Nat}, (∀ i, i < n' → xOk η ad N (xAt d ov i) (va_rf (f i))) → ∀ j, j < n' → xOk η ad N (xAt d (xPut d x.toInt.toNat (.inr (.inr (.inl (some k2)))) ov) j) (va_rf (va_up f x.toNatClampNeg (some (ad k2)) j)) := by
    intro f h1 j hj
    rw [xAt_put, ← g4]
    unfold va_up
    by_cases hjx : j = x.toNatClampNeg
    · rw [if_pos hjx, if_pos hjx]; exact ⟨hk2, rfl⟩
    · rw [if_neg hjx, if_neg hjx]; exact h1 j hj
  rcases htc with ⟨rfl, hci⟩ | ⟨rfl, hci⟩ <;> subst hci
  · obtain ⟨f, rfl, e9⟩ := e8 (by omega)
    exact va_astq (D := D) (r := (RX0, TX0, 6)) hx hb hK.1 hP hD hS 0 4 (j + 1) 0 rfl rfl (by rw [List.getElem?_cons_succ]; exact f1) rfl g3 hdg (fun H1 locs1 hP hD hS => kk H1 locs1 (xRel_cons hP hD hS e0 ⟨rfl, rfl, e5, (fun h => by omega), (fun h => by omega), (fun _ => ⟨_, rfl, up e9⟩)⟩ e10))
  · obtain ⟨f, rfl, e9⟩ := e8 (by omega)
    exact va_astq (D := D) (r := (RX9, TX9, 6)) hx hb hK.1 hP hD hS 0 5 (j + 1) 9 rfl rfl (by rw [List.getElem?_cons_succ]; exact f1) rfl g3 hdg (fun H1 locs1 hP hD hS => kk H1 locs1 (xRel_cons hP hD hS e0 ⟨rfl, rfl, e5, (fun h => by omega), (fun h => by omega), (fun _ => ⟨_, rfl, up e9⟩)⟩ e10))
end XNE

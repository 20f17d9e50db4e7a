def R_law : String := "FinedBySightLaw"
def lw_P (b : Addr) (xs : List Int32) (args : Array Value) (s : State) : Prop := args = #[.ref b] ∧ s.IntsAt b xs ∧ xs.length ≤ 6 ∧ (Jvm.Cond.and given_1 narrow_1).before args s = true
def lw_Q (_ : Array Value) (s : State) (o : Outcome) (t : State) : Prop := o = .returned (some (.int 1)) ∧ Framed s o t [] 600002 7302232
def lw_Z (below : List Frame) (a : Array Value) (s : State) : State → Prop := fun t => ∃ o, t.status = .running ∧ Ended t below o ∧ lw_Q a s o t
/-- the law's own end, with 1 on the stack, nothing written that was there before, its room as the claim has it -/
theorem lw_ret {p : Program} {l : Launch} {e : Env} {s : State} {m : MethodId} {below : List Frame} {meth : Method} {c : Code} {b : Nat} (hx : p.tables.exec = Jvm.exec) (hb : c.code = code) (hr : meth.sig.returnType = ret) (hlocks : meth.locks = false) {pc : Nat} {H : Heap} {ls : Array Slot} (hdg : decode code pc = .ok (.ireturn, 1)) : W p l e room_1 s m #[Value.ref b] below meth c H [] 600002 7302232 (lw_Z below #[Value.ref b] s) (F0 m pc ls [.int 1]) := by
  intro T hT X
  obtain ⟨fs, hret, hrun, hended, hW, hframe⟩ := X.leave (v := some (.int 1)) (hlocks := hlocks) (fun h => by rw [hr] at h; cases h)
  have hmeth' : T.vm.method? m = some meth := X.method'
  refine ⟨T.setFrames fs, ?_, .returned (some (.int 1)), hrun, hended, rfl, ⟨_, rfl⟩, hW, hframe⟩
  jvm_step X.here [X.here.top, hx, hb, hdg, hmeth', hr, ret, narrow_b1]
  (try refine ⟨rfl, ?_⟩); (try refine ⟨rfl, ?_⟩)
  first | (intro acts; rw [hret _ acts rfl rfl rfl]) | rw [hret _ _ rfl rfl rfl]
  exact Steps.refl _
/-- what holds at the law's entry: the machine, the code, the tables' words (any of lw_tbl by 'hts w (by decide +kernel)'), the script of L ints xs at the cell b, what the Statement gives of the start (any of its parts by flat_of_before) -/
def lw_At (p : Program) (s : State) (m : MethodId) (meth : Method) (c : Code) (b L : Nat) (xs : Nat → Int32) : Prop :=
  p.tables.exec = Jvm.exec ∧ c.code = code ∧ meth.sig.returnType = ret ∧ c.maxLocals = 8 ∧ s.vm.findClass R_law = some m.cls ∧ (∀ w ∈ lw_tbl, w.before #[Value.ref b] s = true) ∧ va_X b L xs s s.heap ∧ b < s.heap.size ∧ meth.locks = false ∧ (Jvm.Cond.and given_1 narrow_1).before #[Value.ref b] s = true
-- ===== YOUR PART BEGINS =====
/-! the law's start: the words of the tables as the contracts want them -/
theorem xT0 {args : Array Value} {s : State} (hts : ∀ w ∈ lw_tbl, w.before args s = true) (i : Nat) {w : Cond} (h : lw_tbl[i]? = some w) : w.before args s = true := hts w (List.mem_of_getElem? h)
theorem xSS_law {args : Array Value} {s : State} (hts : ∀ w ∈ lw_tbl, w.before args s = true) (hg : (Jvm.Cond.and given_1 narrow_1).before args s = true) : xSS (fun q => s.heap.size ≤ q) s := by
  have hs := flat_of_before _ hg
  have hA : ∀ a : Nat, a < s.heap.size → ¬ s.heap.size ≤ a := fun a h => by omega
  obtain ⟨adK, adV, hS, hE⟩ := vk_Sof (args := args) (s := s) (N := 1) (tm := fun _ => Term.string "FinedBySight$Rule" 81) (len := [6]) (byt := [[121, 115, 102, 104, 108, 99]]) (A := fun q => s.heap.size ≤ q)
    (fun i hi => by rcases (show i = 0 by omega) with rfl; decide) (fun i hi => hs _ (by decide +kernel)) (fun i hi => hs _ (by decide +kernel)) (fun i hi => hs _ (by decide +kernel)) (fun i hi => by rcases (show i = 0 by omega) with rfl; exact hs _ (by decide +kernel))
    (fun i hi j hj => by
      rcases (show i = 0 by omega) with rfl
      have hj : j < 6 := hj
      match j, hj with
      | 0, _ => exact hs _ (by decide +kernel)
      | 1, _ => exact hs _ (by decide +kernel)
      | 2, _ => exact hs _ (by decide +kernel)
      | 3, _ => exact hs _ (by decide +kernel)
      | 4, _ => exact hs _ (by decide +kernel)
      | 5, _ => exact hs _ (by decide +kernel)) (fun i j hi hj h => absurd (by omega : i = j) h) hA
  obtain ⟨h1, h2, h3, h4⟩ := hS.1 0 (by decide)
  refine ⟨adK 0, adV 0, vk_R.of (xT0 hts 642 (by decide +kernel)) (hE 0 (by decide)), h1, h2, h3, ⟨_, h4⟩, va_Zof (xT0 hts 656 (by decide +kernel)) (xT0 hts 110 (by decide +kernel)) (va_eqt (hs _ (by decide +kernel))) hA⟩
theorem xArP {args : Array Value} {s : State} {t : FieldType} (h : (Cond.arrayClass t).before args s = true) : ∃ cA, ArrOfT s cA t ∧ s.vm.findClass ("[" ++ t.toString) = some cA := by
  obtain ⟨cA, kA, comp, hf, hk, hkind⟩ := Cond.arrayClass_spec h
  exact ⟨cA, fun n z => ⟨(fun k h => by cases h), kA, hk, comp, hkind⟩, hf⟩
theorem xArQ {args : Array Value} {s : State} {C : String} (h : (Cond.arrayOver (.object C)).before args s = true) : ∃ cA, ArrOfT s cA (.object C) ∧ va_RA s cA (.object C) := by
  obtain ⟨comp, cA, kA, h1, h2, h3, h4, h5⟩ := Cond.arrayOver_spec h
  exact ⟨cA, fun n z => ⟨(fun k h => by cases h), kA, h3, comp, h4⟩, kA, comp, h3, h4, h1, h5⟩
theorem xInst : ∀ {ci : Nat} {q : vw_C}, vwCl[ci]? = some q → Cond.instantiable q.1 q.2.2 ∈ lw_tbl
  | 0, _, h => by cases h; exact List.mem_of_getElem? (i := 286) (by decide +kernel)
  | 1, _, h => by cases h; exact List.mem_of_getElem? (i := 482) (by decide +kernel)
  | 2, _, h => by cases h; exact List.mem_of_getElem? (i := 452) (by decide +kernel)
  | 3, _, h => by cases h; exact List.mem_of_getElem? (i := 294) (by decide +kernel)
  | 4, _, h => by cases h; exact List.mem_of_getElem? (i := 419) (by decide +kernel)
  | 5, _, h => by cases h; exact List.mem_of_getElem? (i := 242) (by decide +kernel)
  | 6, _, h => by cases h; exact List.mem_of_getElem? (i := 372) (by decide +kernel)
  | 7, _, h => by cases h; exact List.mem_of_getElem? (i := 132) (by decide +kernel)
  | 8, _, h => by cases h; exact List.mem_of_getElem? (i := 151) (by decide +kernel)
  | 9, _, h => by cases h; exact List.mem_of_getElem? (i := 307) (by decide +kernel)
  | 10, _, h => by cases h; exact List.mem_of_getElem? (i := 390) (by decide +kernel)
  | 11, _, h => by cases h; exact List.mem_of_getElem? (i := 124) (by decide +kernel)
  | 12, _, h => by cases h; exact List.mem_of_getElem? (i := 1389) (by decide +kernel)
  | _ + 13, _, h => by cases h
theorem xBigL {w : Cond} (h : w ∈ xBig) : w ∈ lw_tbl := (List.mem_filter.mp h).1
theorem xKK_law {args : Array Value} {s : State} (hts : ∀ w ∈ lw_tbl, w.before args s = true) : ∃ (D : va_G) (cy : Nat → ClassId), xKK D cy s := by
  have h0 : ∀ ci : Nat, ∃ z : ClassId × (Nat → Nat), ∀ q, vwCl[ci]? = some q → u_Kn s q.1 q.2.1 q.2.2 z.1 z.2 := by
    intro ci
    cases hq : vwCl[ci]? with
    | none => exact ⟨(0, fun _ => 0), fun q h => by cases h⟩
    | some q =>
      obtain ⟨cC, iS, h⟩ := u_known hts (fun w hw => xBigL ((xCls hq).1 w hw)) (hts _ (xInst hq))
      exact ⟨(cC, iS), fun q' h' => by cases h'; exact h⟩
  obtain ⟨f, hf⟩ := Classical.axiomOfChoice h0
  obtain ⟨cB, b1, b2⟩ := xArP (xT0 hts 728 (by decide +kernel) : (Cond.arrayClass .byte).before args s = true)
  obtain ⟨cI, i1, i2⟩ := xArP (xT0 hts 149 (by decide +kernel) : (Cond.arrayClass .int).before args s = true)
  obtain ⟨cJ, j1, j2⟩ := xArP (xT0 hts 240 (by decide +kernel) : (Cond.arrayClass .long).before args s = true)
  obtain ⟨cZ, z1, z2⟩ := xArP (xT0 hts 284 (by decide +kernel) : (Cond.arrayClass .boolean).before args s = true)
  have ha : (Cond.arrayOver (.object RX0)).before args s = true := xT0 hts 368 (by decide +kernel)
  have hw : (Cond.arrayOver (.object RX9)).before args s = true := xT0 hts 292 (by decide +kernel)
  obtain ⟨cA, a1, a2⟩ := xArQ ha
  obtain ⟨cW, w1, w2⟩ := xArQ hw
  refine ⟨(fun c => (f c).1, fun c => (f c).2), (fun t => match t with | 0 => cB | 1 => cI | 2 => cJ | 3 => cZ | 4 => cA | _ => cW), ⟨fun c q hq => hf c q hq, fun k q hk => ?_⟩, va_AO.of ha, va_AO.of hw, ?_⟩
  · match k, hk with
    | 0, hk => cases hk; exact ⟨b1, b2⟩
    | 1, hk => cases hk; exact ⟨i1, i2⟩
    | 2, hk => cases hk; exact ⟨j1, j2⟩
    | 3, hk => cases hk; exact ⟨z1, z2⟩
    | 4, hk => cases hk; exact ⟨a1, a2⟩
    | 5, hk => cases hk; exact ⟨w1, w2⟩
    | _ + 6, hk => cases hk
  · have key : ∀ q ∈ xNest, Cond.methodLinkNest q.1 q.2.1 q.2.2.1 q.2.2.2 ∈ lw_tbl := by decide +kernel
    exact fun q hq => va_Nw.of rfl (hts _ (key q hq))
def xLck (o : Option xV) (_ : xH) (_ cs ss : Nat) : Bool := decide (o = some (.inl (Int.ofNat 1, Int.ofNat 1))) && decide (cs ≤ 600002) && decide (ss ≤ 7302232)
def xRm1 : Nat × Nat × Nat × Nat := (2048, 84000, 600002, 7302232)
set_option maxHeartbeats 4000000 in
theorem xLaw {p : Program} {e : Env} {s : State} {m : MethodId} {below : List Frame} {meth : Method} {c : Code} (l : Launch) {b L : Nat} {xs : Nat → Int32} (C0 : lw_At p s m meth c b L xs) {Mi : xMi} {cons : List xCd} {ts : List xT} {sc : List xV} (η : Nat → Int32) (n : Nat) (hM : xMok R_law code Mi) (hC : xConOk R_law cons) (ht : xTok η ts) (hL : sc.length = L) (hv : ∀ (j : Nat) (a : xV), sc[j]? = some a → ∀ (ad : Nat → Nat) (N : Nat), xOk η ad N a (.int (xs j))) (hrun : xRun Mi cons ts (some (0, sc)) false xRm1 8 xLck n 0 Mi.1 [(0, .inr (.inr (.inl (some 0))))] [] [] 1 0 0 = true) : W p l e room_1 s m #[Value.ref b] below meth c s.heap [] 0 0 (lw_Z below #[Value.ref b] s) (entryFrame m ([Value.ref b] : List Value).toArray 8) := by
  obtain ⟨hx, hb, hr, hml, hown, hts, hX, hbl, hlocks, hg⟩ := C0
  obtain ⟨D, cy, hK⟩ := xKK_law hts
  have hSS := xSS_law hts hg
  have hl := lv_entry ([.ref b]) (n := 8) (Nat.le_of_ble_eq_true rfl)
  rw [lg_entry_eq]
  have X : xCx p room_1 s m #[Value.ref b] meth c code D cy η (fun q => s.heap.size ≤ q) R_law lw_tbl (fun _ => b) 1 8 Mi cons ts (some (0, sc)) false xRm1 :=
    ⟨⟨hx, hb, hml, hts, fun w h => xBigL h, hown, hK, fun q h => h, hSS⟩, hM, hC, ht, (fun z hz => by cases hz; exact ⟨(show (0 : Nat) < 1 by decide), L, xs, hX, hbl, (show ¬ s.heap.size ≤ b by omega), hL, hv⟩), (fun h => by cases h), by decide, by decide, by decide, by decide⟩
  refine xRun_ok (below := below) (l := l) (e := e) (Q := lw_Z below #[Value.ref b] s) (chk := xLck) X ?_ n 0 Mi.1 _ _ _ _ _ _ (fun _ h => h) hrun (fun _ => b) _ _ [] s.heap [] (fun _ _ => rfl) (Nat.le_refl _) hl ⟨⟨rfl, by decide, rfl⟩, trivial⟩ trivial ⟨[], trivial, fun k q h => by simp at h, ⟨fun i j p q h => by simp at h, fun k q h => by simp at h⟩, va_S.rf⟩
  intro ins o v hp nx cs ss ad' lsC H locs pc hrk hio hdg hchk had hnx' hret hR
  simp only [xLck, Bool.and_eq_true, decide_eq_true_eq] at hchk
  obtain ⟨⟨h1, h2⟩, h3⟩ := hchk
  subst h1
  obtain ⟨ws1, hw1, hP1, hD1, hS1⟩ := hR
  cases v with
  | none => exact hret.elim
  | some v =>
    obtain ⟨x, rfl, x1, x2⟩ := hret
    have hx1 : x = 1 := Int32.toInt_inj.mp (by
      have e1 : (1 : Int32).toInt = 1 := rfl
      rw [e1]
      have y1 : (1 : Int) ≤ x.toInt := x1
      have y2 : x.toInt ≤ (1 : Int) := x2
      omega)
    subst hx1
    rcases hio with ⟨-, h⟩ | ⟨a, ha, hk⟩
    · cases h
    · cases ha
      rcases xRk_eq (k := 0) hk (by decide) with ⟨-, rfl⟩ | ⟨q, -⟩ | ⟨q, -⟩ | ⟨q, -⟩
      · refine W.widen (k := 600002) (n := 7302232) h2 h3 (va_forget hS1.2.2 ?_)
        exact lw_ret hx hb hr hlocks hdg
      · cases q
      · cases q
      · cases q
/-- the law's case 'op', the script's other ints in a box -/
def xBox (op : Int) (g : (Nat → Int32) → Nat → Int32) (bx : List xI) : Prop := ∀ (p : Program) (l : Launch) (e : Env) (s : State) (m : MethodId) (below : List Frame) (meth : Method) (c : Code) (b : Nat) (xs : Nat → Int32), lw_At p s m meth c b 6 xs → (xs 0 &&& 63).toInt = op → (∀ (j : Nat) (i : xI), bx[j]? = some i → xIn i (g xs (j + 1)).toInt) → W p l e room_1 s m #[Value.ref b] below meth c s.heap [] 0 0 (lw_Z below #[Value.ref b] s) (entryFrame m ([Value.ref b] : List Value).toArray 8)
theorem xBs {op : Int} {g : (Nat → Int32) → Nat → Int32} {b1 b2 : List xI} {lo hi : Int} (mid : Int) (h1 : xBox op g (b1 ++ (lo, mid) :: b2)) (h2 : xBox op g (b1 ++ (mid + 1, hi) :: b2)) : xBox op g (b1 ++ (lo, hi) :: b2) := by
  intro p l e s m below meth c b xs C0 hop hbx
  have hj := hbx b1.length (lo, hi) (by rw [List.getElem?_append_right (Nat.le_refl _), Nat.sub_self]; rfl)
  have key : ∀ (z : xI), xIn z (g xs (b1.length + 1)).toInt → ∀ (j : Nat) (i : xI), (b1 ++ z :: b2)[j]? = some i → xIn i (g xs (j + 1)).toInt := by
    intro z hz j i h
    rcases Nat.lt_trichotomy j b1.length with hlt | heq | hgt
    · exact hbx j i (by rw [List.getElem?_append_left hlt] at h ⊢; exact h)
    · subst heq
      rw [List.getElem?_append_right (Nat.le_refl _), Nat.sub_self] at h
      cases h
      exact hz
    · refine hbx j i ?_
      rw [List.getElem?_append_right (by omega)] at h ⊢
      rw [show j - b1.length = (j - b1.length - 1) + 1 by omega, List.getElem?_cons_succ] at h ⊢
      exact h
  obtain ⟨y1, y2⟩ := hj
  dsimp only at y1 y2
  by_cases hm : (g xs (b1.length + 1)).toInt ≤ mid
  · exact h1 p l e s m below meth c b xs C0 hop (key _ ⟨y1, hm⟩)
  · exact h2 p l e s m below meth c b xs C0 hop (key _ ⟨by show mid + 1 ≤ _; omega, y2⟩)
/-- a run of the law over a box, with no other named int than the first -/
def xg0 (xs : Nat → Int32) (j : Nat) : Int32 := xs j
theorem xBr {op : Int} {bx : List xI} {Mi : xMi} {cons : List xCd} (n : Nat) (hM : xMok R_law code Mi) (hC : xConOk R_law cons) (hl : bx.length = 5) (hrun : xRun Mi cons [(3, .inr (.inr (.inr 0)), .inl (Int.ofNat 63, Int.ofNat 63), .inl (op, op))] (some (0, .inr (.inr (.inr 0)) :: bx.map Sum.inl)) false xRm1 8 xLck n 0 Mi.1 [(0, .inr (.inr (.inl (some 0))))] [] [] 1 0 0 = true) : xBox op xg0 bx := by
  intro p l e s m below meth c b xs C0 hop hbx
  refine xLaw l C0 (fun k => xs k) n hM hC ?_ (by simp [hl]) ?_ hrun
  · intro t ht ad N x y h1 h2
    rcases List.mem_cons.mp ht with rfl | h
    · have h1 : Value.int x = .int (xs 0) := h1
      cases h1
      obtain ⟨y', e1, y1, y2⟩ := h2
      cases e1
      have hy : y = 63 := Int32.toInt_inj.mp (by
        have e1 : (63 : Int32).toInt = 63 := rfl
        rw [e1]
        have z1 : (63 : Int) ≤ y.toInt := y1
        have z2 : y.toInt ≤ (63 : Int) := y2
        omega)
      subst hy
      exact ⟨_, rfl, by show op ≤ (xs 0 &&& 63).toInt; omega, by show (xs 0 &&& 63).toInt ≤ op; omega⟩
    · cases h
  · intro j a h ad N
    cases j with
    | zero => cases h; rfl
    | succ j =>
      rw [List.getElem?_cons_succ, List.getElem?_map] at h
      cases hb : bx[j]? with
      | none => rw [hb] at h; cases h
      | some i => rw [hb] at h; cases h; exact ⟨_, rfl, hbx j i hb⟩
/-- a run of the law over a box, with named ints -/
theorem xBrG {op : Int} {g : (Nat → Int32) → Nat → Int32} {bx : List xI} {Mi : xMi} {cons : List xCd} {ts : List xT} {sc : List xV} (n : Nat) (η : (Nat → Int32) → Nat → Int32) (hM : xMok R_law code Mi) (hC : xConOk R_law cons) (hl : sc.length = 6) (ht : ∀ xs : Nat → Int32, (xs 0 &&& 63).toInt = op → (∀ (j : Nat) (i : xI), bx[j]? = some i → xIn i (g xs (j + 1)).toInt) → xTok (η xs) ts ∧ ∀ (j : Nat) (a : xV), sc[j]? = some a → ∀ (ad : Nat → Nat) (N : Nat), xOk (η xs) ad N a (.int (xs j))) (hrun : xRun Mi cons ts (some (0, sc)) false xRm1 8 xLck n 0 Mi.1 [(0, .inr (.inr (.inl (some 0))))] [] [] 1 0 0 = true) : xBox op g bx := by
  intro p l e s m below meth c b xs C0 hop hbx
  exact xLaw l C0 (η xs) n hM hC (ht xs hop hbx).1 hl (ht xs hop hbx).2 hrun
/-- every case of the law, and the short scripts -/
theorem xAll64 (h : ∀ op : Nat, op < 64 → ∀ (p : Program) (l : Launch) (e : Env) (s : State) (m : MethodId) (below : List Frame) (meth : Method) (c : Code) (b : Nat) (xs : Nat → Int32), lw_At p s m meth c b 6 xs → (xs 0 &&& 63).toInt = op → W p l e room_1 s m #[Value.ref b] below meth c s.heap [] 0 0 (lw_Z below #[Value.ref b] s) (entryFrame m ([Value.ref b] : List Value).toArray 8)) (h5 : ∀ (L : Nat), L < 6 → ∀ (p : Program) (l : Launch) (e : Env) (s : State) (m : MethodId) (below : List Frame) (meth : Method) (c : Code) (b : Nat) (xs : Nat → Int32), lw_At p s m meth c b L xs → W p l e room_1 s m #[Value.ref b] below meth c s.heap [] 0 0 (lw_Z below #[Value.ref b] s) (entryFrame m ([Value.ref b] : List Value).toArray 8)) {p : Program} {e : Env} {s : State} {m : MethodId} {below : List Frame} {meth : Method} {c : Code} (l : Launch) {b L : Nat} {xs : Nat → Int32} (hL : L ≤ 6) (C0 : lw_At p s m meth c b L xs) : W p l e room_1 s m #[Value.ref b] below meth c s.heap [] 0 0 (lw_Z below #[Value.ref b] s) (entryFrame m ([Value.ref b] : List Value).toArray 8) := by
  by_cases h6 : L < 6
  · exact h5 L h6 p l e s m below meth c b xs C0
  · have : L = 6 := by omega
    subst this
    have hr : 0 ≤ (xs 0 &&& 63).toInt ∧ (xs 0 &&& 63).toInt < 64 := by
      have : ∀ x : BitVec 32, 0 ≤ (x &&& 63#32).toInt ∧ (x &&& 63#32).toInt < 64 := by
        intro x
        have h1 : (x &&& 63#32).toNat < 64 := by
          rw [BitVec.toNat_and]
          exact Nat.lt_of_le_of_lt Nat.and_le_right (by decide)
        have h2 : (x &&& 63#32).toInt = ((x &&& 63#32).toNat : Int) := by
          rw [BitVec.toInt_eq_toNat_cond, if_pos (by omega)]
        omega
      exact this (xs 0).toBitVec
    exact h (xs 0 &&& 63).toInt.toNat (by omega) p l e s m below meth c b xs C0 (by omega)
theorem xFull (i : Int32) : xIn (Int.negSucc 2147483647, Int.ofNat 2147483647) i.toInt := xI32 i

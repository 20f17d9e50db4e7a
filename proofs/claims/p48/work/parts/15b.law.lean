/-! THE CLAIM OUT OF ONE WALK OF THE LAW'S BODY. Your part is whole_start (and what it stands on); all else here is the same for every law, but numbers. -/
def R_law : String := "FinedBySightLaw"
def lw_P (b : Addr) (xs : List Int32) (args : Array Value) (s : State) : Prop := args = #[.ref b] ∧ s.IntsAt b xs ∧ xs.length ≤ 3072 ∧ (Jvm.Cond.and given_1 narrow_1).before args s = true
def lw_Q (_ : Array Value) (s : State) (o : Outcome) (t : State) : Prop := o = .returned (some (.int 1)) ∧ Framed s o t [] 601024 7293034
def lw_Z (below : List Frame) (a : Array Value) (s : State) : State → Prop := fun t => ∃ o, t.status = .running ∧ Ended t below o ∧ lw_Q a s o t
/-- the law's own end, with 1 on the stack, nothing written that was there before, its room as the claim has it -/
theorem lw_ret {p : Program} {l : Launch} {e : Env} {s : State} {m : MethodId} {below : List Frame} {meth : Method} {c : Code} {b : Nat} (hx : p.tables.exec = Jvm.exec) (hb : c.code = code) (hr : meth.sig.returnType = ret) (hlocks : meth.locks = false) {pc : Nat} {H : Heap} {ls : Array Slot} (hdg : decode code pc = .ok (.ireturn, 1)) : W p l e room_1 s m #[Value.ref b] below meth c H [] 601024 7293034 (lw_Z below #[Value.ref b] s) (F0 m pc ls [.int 1]) := by
  intro T hT X
  obtain ⟨fs, hret, hrun, hended, hW, hframe⟩ := X.leave (v := some (.int 1)) (hlocks := hlocks) (fun h => by rw [hr] at h; cases h)
  have hmeth' : T.vm.method? m = some meth := X.method'
  refine ⟨T.setFrames fs, ?_, .returned (some (.int 1)), hrun, hended, rfl, ⟨_, rfl⟩, hW, hframe⟩
  jvm_step X.here [X.here.top, hx, hb, hdg, hmeth', hr, ret, narrow_b1]
  (try refine ⟨rfl, ?_⟩); (try refine ⟨rfl, ?_⟩)
  first | (intro acts; rw [hret _ acts rfl rfl rfl]) | rw [hret _ _ rfl rfl rfl]
  exact Steps.refl _
/-- what holds at the law's entry: the machine, the code, the tables' words (any of lw_tbl by 'hts w (by decide +kernel)'), the script of L ints xs at the cell b, what the Statement gives of the start (any of its parts by flat_of_before) -/
def lw_At (p : Program) (s : State) (m : MethodId) (meth : Method) (c : Code) (b L : Nat) (xs : Nat → Int32) : Prop :=
  p.tables.exec = Jvm.exec ∧ c.code = code ∧ meth.sig.returnType = ret ∧ c.maxLocals = 8 ∧ s.vm.findClass R_law = some m.cls ∧ (∀ w ∈ lw_tbl, w.before #[Value.ref b] s = true) ∧ va_X b L xs s s.heap ∧ b < s.heap.size ∧ meth.locks = false ∧ (Jvm.Cond.and given_1 narrow_1).before #[Value.ref b] s = true
-- ===== YOUR PART BEGINS =====
/-! the law's start: the words of the tables as the contracts want them -/
theorem xT0 {args : Array Value} {s : State} (hts : ∀ w ∈ lw_tbl, w.before args s = true) (i : Nat) {w : Cond} (h : lw_tbl[i]? = some w) : w.before args s = true := hts w (List.mem_of_getElem? h)
theorem xSS_l1 {args : Array Value} {s : State} (hts : ∀ w ∈ lw_tbl, w.before args s = true) (hg : (Jvm.Cond.and given_1 narrow_1).before args s = true) : ∃ (sA vA : Nat) (f : Nat → Int32), vk_R RX5 81 "ysfhlc" sA s ∧ xSg sA vA 6 f (fun q => s.heap.size ≤ q) s := by
  have hs := flat_of_before _ hg
  have hA : ∀ a : Nat, a < s.heap.size → ¬ s.heap.size ≤ a := fun a h => by omega
  obtain ⟨adK, adV, hS, hE⟩ := vk_Sof (args := args) (s := s) (N := 1) (tm := fun _ => Term.string "FinedBySight$Rule" 81) (len := [6]) (byt := [[121, 115, 102, 104, 108, 99]]) (A := fun q => s.heap.size ≤ q)
    (fun i hi => by rcases (show i = 0 by omega) with rfl; decide) (fun i hi => hs _ (by decide +kernel)) (fun i hi => hs _ (by decide +kernel)) (fun i hi => hs _ (by decide +kernel)) (fun i hi => by rcases (show i = 0 by omega) with rfl; exact hs _ (by decide +kernel))
    (fun i hi j hj => by
      rcases (show i = 0 by omega) with rfl
      have hj : j < 6 := hj
      match j, hj with
      | 0, _ => exact hs _ (by decide +kernel)
      | 1, _ => exact hs _ (by decide +kernel)
      | 2, _ => exact hs _ (by decide +kernel)
      | 3, _ => exact hs _ (by decide +kernel)
      | 4, _ => exact hs _ (by decide +kernel)
      | 5, _ => exact hs _ (by decide +kernel)) (fun i j hi hj h => absurd (by omega : i = j) h) hA
  obtain ⟨h1, h2, h3, h4⟩ := hS.1 0 (by decide)
  exact ⟨adK 0, adV 0, _, vk_R.of (xT0 hts 642 (by decide +kernel)) (hE 0 (by decide)), h1, h2, h3, h4, va_Zof (xT0 hts 656 (by decide +kernel)) (xT0 hts 110 (by decide +kernel)) (va_eqt (hs _ (by decide +kernel))) hA⟩
theorem xSS_l2 {args : Array Value} {s : State} (hts : ∀ w ∈ lw_tbl, w.before args s = true) (hg : (Jvm.Cond.and given_1 narrow_1).before args s = true) : ∃ (sA vA : Nat) (f : Nat → Int32), vk_R RX9 24 "urdlw" sA s ∧ xSg sA vA 5 f (fun q => s.heap.size ≤ q) s := by
  have hs := flat_of_before _ hg
  have hA : ∀ a : Nat, a < s.heap.size → ¬ s.heap.size ≤ a := fun a h => by omega
  obtain ⟨adK, adV, hS, hE⟩ := vk_Sof (args := args) (s := s) (N := 1) (tm := fun _ => Term.string "FinedBySight$Walk" 24) (len := [5]) (byt := [[117, 114, 100, 108, 119]]) (A := fun q => s.heap.size ≤ q)
    (fun i hi => by rcases (show i = 0 by omega) with rfl; decide) (fun i hi => hs _ (by decide +kernel)) (fun i hi => hs _ (by decide +kernel)) (fun i hi => hs _ (by decide +kernel)) (fun i hi => by rcases (show i = 0 by omega) with rfl; exact hs _ (by decide +kernel))
    (fun i hi j hj => by
      rcases (show i = 0 by omega) with rfl
      have hj : j < 5 := hj
      match j, hj with
      | 0, _ => exact hs _ (by decide +kernel)
      | 1, _ => exact hs _ (by decide +kernel)
      | 2, _ => exact hs _ (by decide +kernel)
      | 3, _ => exact hs _ (by decide +kernel)
      | 4, _ => exact hs _ (by decide +kernel)) (fun i j hi hj h => absurd (by omega : i = j) h) hA
  obtain ⟨h1, h2, h3, h4⟩ := hS.1 0 (by decide)
  exact ⟨adK 0, adV 0, _, vk_R.of (xT0 hts 881 (by decide +kernel)) (hE 0 (by decide)), h1, h2, h3, h4, va_Zof (xT0 hts 656 (by decide +kernel)) (xT0 hts 110 (by decide +kernel)) (va_eqt (hs _ (by decide +kernel))) hA⟩
theorem xSS_l3 {args : Array Value} {s : State} (hts : ∀ w ∈ lw_tbl, w.before args s = true) (hg : (Jvm.Cond.and given_1 narrow_1).before args s = true) : ∃ (sA vA : Nat) (f : Nat → Int32), vk_R RX12 292 "urdlw" sA s ∧ xSg sA vA 5 f (fun q => s.heap.size ≤ q) s := by
  have hs := flat_of_before _ hg
  have hA : ∀ a : Nat, a < s.heap.size → ¬ s.heap.size ≤ a := fun a h => by omega
  obtain ⟨adK, adV, hS, hE⟩ := vk_Sof (args := args) (s := s) (N := 1) (tm := fun _ => Term.string "FinedBySightModel" 292) (len := [5]) (byt := [[117, 114, 100, 108, 119]]) (A := fun q => s.heap.size ≤ q)
    (fun i hi => by rcases (show i = 0 by omega) with rfl; decide) (fun i hi => hs _ (by decide +kernel)) (fun i hi => hs _ (by decide +kernel)) (fun i hi => hs _ (by decide +kernel)) (fun i hi => by rcases (show i = 0 by omega) with rfl; exact hs _ (by decide +kernel))
    (fun i hi j hj => by
      rcases (show i = 0 by omega) with rfl
      have hj : j < 5 := hj
      match j, hj with
      | 0, _ => exact hs _ (by decide +kernel)
      | 1, _ => exact hs _ (by decide +kernel)
      | 2, _ => exact hs _ (by decide +kernel)
      | 3, _ => exact hs _ (by decide +kernel)
      | 4, _ => exact hs _ (by decide +kernel)) (fun i j hi hj h => absurd (by omega : i = j) h) hA
  obtain ⟨h1, h2, h3, h4⟩ := hS.1 0 (by decide)
  exact ⟨adK 0, adV 0, _, vk_R.of (xT0 hts 1739 (by decide +kernel)) (hE 0 (by decide)), h1, h2, h3, h4, va_Zof (xT0 hts 656 (by decide +kernel)) (xT0 hts 110 (by decide +kernel)) (va_eqt (hs _ (by decide +kernel))) hA⟩
theorem xSS_law {args : Array Value} {s : State} (hts : ∀ w ∈ lw_tbl, w.before args s = true) (hg : (Jvm.Cond.and given_1 narrow_1).before args s = true) : ∃ a1 a2 a3 : Nat, ∀ ad : Nat → Nat, ad 1 = a1 → ad 2 = a2 → ad 3 = a3 → xSS ad (fun q => s.heap.size ≤ q) s := by
  obtain ⟨a1, v1, f1, b1, c1⟩ := xSS_l1 hts hg
  obtain ⟨a2, v2, f2, b2, c2⟩ := xSS_l2 hts hg
  obtain ⟨a3, v3, f3, b3, c3⟩ := xSS_l3 hts hg
  refine ⟨a1, a2, a3, fun ad e1 e2 e3 => ?_⟩
  subst e1; subst e2; subst e3
  exact ⟨⟨v1, f1, b1, c1⟩, ⟨v2, f2, b2, c2⟩, v3, f3, b3, c3⟩
theorem xArP {args : Array Value} {s : State} {t : FieldType} (h : (Cond.arrayClass t).before args s = true) : ∃ cA, ArrOfT s cA t ∧ s.vm.findClass ("[" ++ t.toString) = some cA := by
  obtain ⟨cA, kA, comp, hf, hk, hkind⟩ := Cond.arrayClass_spec h
  exact ⟨cA, fun n z => ⟨(fun k h => by cases h), kA, hk, comp, hkind⟩, hf⟩
theorem xArQ {args : Array Value} {s : State} {C : String} (h : (Cond.arrayOver (.object C)).before args s = true) : ∃ cA, ArrOfT s cA (.object C) ∧ va_RA s cA (.object C) := by
  obtain ⟨comp, cA, kA, h1, h2, h3, h4, h5⟩ := Cond.arrayOver_spec h
  exact ⟨cA, fun n z => ⟨(fun k h => by cases h), kA, h3, comp, h4⟩, kA, comp, h3, h4, h1, h5⟩
theorem xInst : ∀ {ci : Nat} {q : vw_C}, vwCl[ci]? = some q → Cond.instantiable q.1 q.2.2 ∈ lw_tbl
  | 0, _, h => by cases h; exact List.mem_of_getElem? (i := 286) (by decide +kernel)
  | 1, _, h => by cases h; exact List.mem_of_getElem? (i := 482) (by decide +kernel)
  | 2, _, h => by cases h; exact List.mem_of_getElem? (i := 452) (by decide +kernel)
  | 3, _, h => by cases h; exact List.mem_of_getElem? (i := 294) (by decide +kernel)
  | 4, _, h => by cases h; exact List.mem_of_getElem? (i := 419) (by decide +kernel)
  | 5, _, h => by cases h; exact List.mem_of_getElem? (i := 242) (by decide +kernel)
  | 6, _, h => by cases h; exact List.mem_of_getElem? (i := 372) (by decide +kernel)
  | 7, _, h => by cases h; exact List.mem_of_getElem? (i := 132) (by decide +kernel)
  | 8, _, h => by cases h; exact List.mem_of_getElem? (i := 151) (by decide +kernel)
  | 9, _, h => by cases h; exact List.mem_of_getElem? (i := 307) (by decide +kernel)
  | 10, _, h => by cases h; exact List.mem_of_getElem? (i := 390) (by decide +kernel)
  | 11, _, h => by cases h; exact List.mem_of_getElem? (i := 124) (by decide +kernel)
  | 12, _, h => by cases h; exact List.mem_of_getElem? (i := 1389) (by decide +kernel)
  | _ + 13, _, h => by cases h
theorem xBigL {w : Cond} (h : w ∈ xBig) : w ∈ lw_tbl := (List.mem_filter.mp h).1
theorem xKK_law {args : Array Value} {s : State} (hts : ∀ w ∈ lw_tbl, w.before args s = true) : ∃ (D : va_G) (cy : Nat → ClassId), xKK D cy s := by
  have h0 : ∀ ci : Nat, ∃ z : ClassId × (Nat → Nat), ∀ q, vwCl[ci]? = some q → u_Kn s q.1 q.2.1 q.2.2 z.1 z.2 := by
    intro ci
    cases hq : vwCl[ci]? with
    | none => exact ⟨(0, fun _ => 0), fun q h => by cases h⟩
    | some q =>
      obtain ⟨cC, iS, h⟩ := u_known hts (fun w hw => xBigL ((xCls hq).1 w hw)) (hts _ (xInst hq))
      exact ⟨(cC, iS), fun q' h' => by cases h'; exact h⟩
  obtain ⟨f, hf⟩ := Classical.axiomOfChoice h0
  obtain ⟨cB, b1, b2⟩ := xArP (xT0 hts 728 (by decide +kernel) : (Cond.arrayClass .byte).before args s = true)
  obtain ⟨cI, i1, i2⟩ := xArP (xT0 hts 149 (by decide +kernel) : (Cond.arrayClass .int).before args s = true)
  obtain ⟨cJ, j1, j2⟩ := xArP (xT0 hts 240 (by decide +kernel) : (Cond.arrayClass .long).before args s = true)
  obtain ⟨cZ, z1, z2⟩ := xArP (xT0 hts 284 (by decide +kernel) : (Cond.arrayClass .boolean).before args s = true)
  have ha : (Cond.arrayOver (.object RX0)).before args s = true := xT0 hts 368 (by decide +kernel)
  have hw : (Cond.arrayOver (.object RX9)).before args s = true := xT0 hts 292 (by decide +kernel)
  obtain ⟨cA, a1, a2⟩ := xArQ ha
  obtain ⟨cW, w1, w2⟩ := xArQ hw
  refine ⟨(fun c => (f c).1, fun c => (f c).2), (fun t => match t with | 0 => cB | 1 => cI | 2 => cJ | 3 => cZ | 4 => cA | _ => cW), ⟨fun c q hq => hf c q hq, fun k q hk => ?_⟩, va_AO.of ha, va_AO.of hw, ?_⟩
  · match k, hk with
    | 0, hk => cases hk; exact ⟨b1, b2⟩
    | 1, hk => cases hk; exact ⟨i1, i2⟩
    | 2, hk => cases hk; exact ⟨j1, j2⟩
    | 3, hk => cases hk; exact ⟨z1, z2⟩
    | 4, hk => cases hk; exact ⟨a1, a2⟩
    | 5, hk => cases hk; exact ⟨w1, w2⟩
    | _ + 6, hk => cases hk
  · have key : ∀ q ∈ xNest, Cond.methodLinkNest q.1 q.2.1 q.2.2.1 q.2.2.2 ∈ lw_tbl := by decide +kernel
    exact fun q hq => va_Nw.of rfl (hts _ (key q hq))

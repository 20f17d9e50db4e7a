/-! the law's row, over exact worlds: FinedBySight.row throws or answers, FinedBySightLaw.row catches -/
/-! what a throw wants beside the good words -/
def xzNg : List Cond := [.castable xzN xzN, .declares (Bundle.initS xzR), .declares (Bundle.initS xzE), .declares (Bundle.initS Bundle.tN)]
def xEx (A : Nat → Prop) (U : State) : Prop := (va_Nw (.castable xzN xzN) U ∧ va_Nw (.declares (Bundle.initS xzR)) U ∧ va_Nw (.declares (Bundle.initS xzE)) U ∧ va_Nw (.declares (Bundle.initS Bundle.tN)) U) ∧ (∃ sa : Nat, vk_R RX11 419 xzM sa U) ∧ vx_Zq Bundle.tN "UNASSIGNED_STACK" Bundle.steD A U U.heap ∧ vx_Zq Bundle.tN "SUPPRESSED_SENTINEL" Bundle.listD A U U.heap
theorem xEx_warm {A B : Nat → Prop} {s U : State} (hW : s.WarmedH U.vm) (hU : ∀ a : Nat, a < s.heap.size → ¬ A a → U.heap[a]? = s.heap[a]?) (hBA : ∀ q, B q → A q) (h : xEx A s) : xEx B U := by
  obtain ⟨⟨h1, h2, h3, h4⟩, ⟨sa, h5⟩, h6, h7⟩ := h
  exact ⟨⟨va_Nw.warmC hW h1, va_Nw.warmD hW h2, va_Nw.warmD hW h3, va_Nw.warmD hW h4⟩, ⟨sa, vk_R.warm hW h5⟩, vx_Zq.moved hW.alike ((h6.kept hU).narrow hBA), vx_Zq.moved hW.alike ((h7.kept hU).narrow hBA)⟩
theorem xEx_calling {A : Nat → Prop} {U : State} {g : JFrame} {mk : MethodId} {a : Array Value} (h : xEx A U) : xEx A (U.calling g mk a) := by
  obtain ⟨⟨h1, h2, h3, h4⟩, ⟨sa, h5⟩, h6, h7⟩ := h
  exact ⟨⟨va_tabs (A := #[]) (u := U) rfl rfl h1, va_tabs (A := #[]) (u := U) rfl rfl h2, va_tabs (A := #[]) (u := U) rfl rfl h3, va_tabs (A := #[]) (u := U) rfl rfl h4⟩, ⟨sa, vk_R.same (u := U) rfl h5⟩, vx_Zq.moved (u := U) (U := U.calling g mk a) (Vm.Alike.refl U.vm) h6, vx_Zq.moved (u := U) (U := U.calling g mk a) (Vm.Alike.refl U.vm) h7⟩
theorem xEx_law {args : Array Value} {s : State} (hts : ∀ w ∈ lw_tbl, w.before args s = true) (hg : (Jvm.Cond.and given_1 narrow_1).before args s = true) : xEx (fun q => s.heap.size ≤ q) s := by
  have hs := flat_of_before _ hg
  have hA : ∀ a : Nat, a < s.heap.size → ¬ s.heap.size ≤ a := fun a h => by omega
  have hstr : (Cond.stringRef RX11 419 xzM).before args s = true := xT0 hts 1362 (by decide +kernel)
  have hcur : ∃ cur, s.vm.findClass RX11 = some cur := by
    have h1 := hstr
    simp only [Cond.before, Cond.holds, Cond.value] at h1
    cases hc : s.vm.findClass RX11 with
    | none => simp [hc] at h1
    | some cur => exact ⟨cur, rfl⟩
  obtain ⟨cur, hcur⟩ := hcur
  obtain ⟨k, cf, i, a, -, -, -, -, -, hev⟩ := Cond.stringRef_spec hcur hstr
  exact ⟨⟨va_Nw.of rfl (xT0 hts 1325 (by decide +kernel)), va_Nw.of rfl (xT0 hts 1327 (by decide +kernel)), va_Nw.of rfl (xT0 hts 1329 (by decide +kernel)), va_Nw.of rfl (xT0 hts 1331 (by decide +kernel))⟩, ⟨a, vk_R.of hstr hev⟩, vx_Zqof (xT0 hts 1350 (by decide +kernel)) (xT0 hts 119 (by decide +kernel)) (hs _ (by decide +kernel)) hA, vx_Zqof (xT0 hts 1352 (by decide +kernel)) (xT0 hts 119 (by decide +kernel)) (hs _ (by decide +kernel)) hA⟩
def xzOkL : List Nat → List Cond → Bool
  | i :: is, w :: ws => (xHas i w || decide (w ∈ xzNg)) && xzOkL is ws
  | _, [] => true
  | [], _ :: _ => false
theorem xzOkL_ok : ∀ {is : List Nat} {ws : List Cond}, xzOkL is ws = true → ∀ w ∈ ws, w ∈ xBig ∨ w ∈ xzNg
  | _, [], _, w, h => by cases h
  | [], _ :: _, h, _, _ => by simp [xzOkL] at h
  | i :: is, v :: ws, h, w, hw => by
    simp only [xzOkL, Bool.and_eq_true, Bool.or_eq_true, decide_eq_true_eq] at h
    rcases List.mem_cons.mp hw with rfl | hw
    · exact h.1.imp xHas_ok id
    · exact xzOkL_ok h.2 w hw
theorem xzWs : xzOkL [119, 1345, 1354, 1356, 1359, 1361, 1346, 1347, 129, 130, 1348, 1353, 1357, 1377, 1335, 1378, 1337, 1379, 1339, 1349, 1351, 1341, 1373, 1374, 1376, 1341, 1364, 1365, 1366, 1367, 0, 1367, 1368, 1369, 1370, 0, 1370, 1371, 1372, 1373, 0, 1363, 1324, 0, 1332, 1333, 1334, 1336, 1338, 1340, 1344, 1343, 1342] (xzAt.filter vx_no) = true := by decide +kernel
theorem xzGd : (Cond.classLink RX11 417 xzN :: Cond.initialized xzN :: xzAt.filter vx_no).all vx_ot = true := by decide +kernel
theorem xzNg_ok {args : Array Value} {A : Nat → Prop} {s : State} (h : xEx A s) : ∀ w ∈ xzNg, w.before args s = true := by
  intro w hw
  obtain ⟨⟨h1, h2, h3, h4⟩, -⟩ := h
  unfold xzNg at hw
  rcases List.mem_cons.mp hw with rfl | hw
  · exact va_Nw.use rfl h1
  rcases List.mem_cons.mp hw with rfl | hw
  · exact va_Nw.use rfl h2
  rcases List.mem_cons.mp hw with rfl | hw
  · exact va_Nw.use rfl h3
  rcases List.mem_cons.mp hw with rfl | hw
  · exact va_Nw.use rfl h4
  · cases hw
theorem xzWd : Cond.classLink RX11 417 xzN ∈ xBig ∧ Cond.initialized xzN ∈ xBig ∧ Cond.classLink RL 13 xzN ∈ xBig ∧ Cond.methodLink RL 7 yX11_row ∈ xBig ∧ Cond.instanceMethod yX11_row ∈ xBig ∧ Cond.selects RX11 yX11_row yX11_row ∈ xBig ∧ Cond.initialized RX11 ∈ xBig ∧ Cond.code yX11_row cX11_row 2 (some .long) ∈ xBig ∧ Cond.methodLink R_law 222 yL_row ∈ xBig ∧ Cond.static yL_row ∈ xBig ∧ Cond.initialized RL ∈ xBig ∧ Cond.codeWith yL_row cL_row 4 (some .int) [(0, 8, 11, 13)] ∈ xBig :=
  ⟨xHas_ok (i := 1323) (by decide +kernel), xHas_ok (i := 122) (by decide +kernel), xHas_ok (i := 1318) (by decide +kernel), xHas_ok (i := 1319) (by decide +kernel), xHas_ok (i := 1320) (by decide +kernel), xHas_ok (i := 1321) (by decide +kernel), xHas_ok (i := 96) (by decide +kernel), xHas_ok (i := 1322) (by decide +kernel), xHas_ok (i := 1315) (by decide +kernel), xHas_ok (i := 1316) (by decide +kernel), xHas_ok (i := 95) (by decide +kernel), xHas_ok (i := 1317) (by decide +kernel)⟩
theorem zxNd : ∀ {A : Nat → Prop} {ws : va_W}, va_D A ws → va_D (fun _ => True) ws := fun h => ⟨h.1, fun _ _ _ => trivial⟩
theorem zdL_63 : zeLy 63 zdL = some (.inr (2, 12)) := by decide +kernel
theorem zdL_127 : zeLy 127 zdL = some (.inr (2, 1)) := by decide +kernel
def zxPc (D : va_G) (cy : Nat → ClassId) (ad : Nat → Nat) (av : List Value) (ws : va_W) (sz : Nat) : Array Value → State → Prop := va_Pc av (fun U => (U.heap.size = sz ∧ va_P D vwCl ws U.heap ∧ xKK D cy U ∧ va_D (fun _ => True) ws ∧ xSS ad (va_A ws sz) U) ∧ xEx (va_A ws sz) U)
theorem zxBlind {D : va_G} {cy : Nat → ClassId} {ad : Nat → Nat} {av : List Value} {ws : va_W} {sz : Nat} : FrameBlind (zxPc D cy ad av ws sz) := fun a U g mk q => by
  obtain ⟨q0, ⟨q1, qP, qK, qD, qS⟩, qE⟩ := q
  exact ⟨q0, ⟨q1, qP, xKK_calling qK, qD, xSS_calling qS⟩, xEx_calling qE⟩
def zxW (ad : Nat → Nat) (cy : Nat → ClassId) (σ : zeS) (ws : va_W) (sz : Nat) (u : va_W) : Prop := zeW ad cy σ zdL u ∧ va_D (va_A ws sz) u
abbrev zxX (D : va_G) (cy : Nat → ClassId) (ad : Nat → Nat) (σ : zeS) (ws : va_W) (sz : Nat) : String → State → State → Prop := vx_X (S := va_W) (zxW ad cy σ ws sz) (fun E u t => E = xzN ∧ va_P D vwCl u t.heap) (va_A ws sz)
abbrev zxQ (D : va_G) (cy : Nat → ClassId) (ad : Nat → Nat) (σ : zeS) (ws : va_W) (sz : Nat) : Array Value → State → Outcome → State → Prop := va_Ql (S := va_W) (fun _ u => zxW ad cy σ ws sz u) (fun u t => va_P D vwCl u t.heap) (va_A ws sz)
noncomputable def xM_X11_row : xM := (yX11_row, cX11_row, 2, (some Jvm.ClassFile.FieldType.long))
noncomputable def xI_rA : xMi := ([(0, .iload_n 1, 1, (fL 0 1)), (1, .ifCond .lt 17, 3, fU), (4, .iload_n 1, 1, (fL 0 1)), (5, .aload_n 0, 1, (fL 2 0)), (6, .getfield 309, 3, (fQ 1 11 13)), (9, .if_icmp .ge 9, 3, fU), (12, .iload_n 1, 1, (fL 0 1)), (13, .bipush 12, 2, (fV (zi (Int.ofNat 12) (Int.ofNat 12)))), (15, .if_icmp .lt 14, 3, fU)], [(309, 11, 13, 0, false)], [], [], [], [])
theorem xK_rA : xMok RX11 cX11_row xI_rA := xMokB_ok (h := ([522], [], [], [], [])) (by decide +kernel)
noncomputable def zt_rA : List zeEn := [(0, .iload 1, 1), (1, .ifCond .lt 18, 3), (4, .iload 1, 1), (5, .aload 0, 1), (6, .getfield 11130, 3), (9, .if_icmp .ge 18, 3), (12, .iload 1, 1), (13, .bipush 12, 2), (15, .if_icmp .lt 29, 3)]
theorem zb_rA : zeTb xI_rA 2 xI_rA.1 = some zt_rA ∧ zeCq zt_rA = true := by decide +kernel
noncomputable def xI_rB : xMi := ([(29, .aload_n 0, 1, (fL 2 0)), (30, .getfield 99, 3, (fQ 1 11 12)), (33, .iload_n 1, 1, (fL 0 1)), (34, .laload, 1, (fQ 2 2 0)), (35, .lreturn, 1, fU)], [(99, 11, 12, 3, true)], [], [], [], [])
theorem xK_rB : xMok RX11 cX11_row xI_rB := xMokB_ok (h := ([521], [], [], [], [])) (by decide +kernel)
noncomputable def zt_rB : List zeEn := [(29, .aload 0, 1), (30, .getfield 11123, 3), (33, .iload 1, 1), (34, .laload, 1), (35, .lreturn, 1)]
theorem zb_rB : zeTb xI_rB 2 xI_rB.1 = some zt_rB ∧ zeCq zt_rB = true := by decide +kernel
theorem zG4c {σ : zeS} (h : zCI zGc σ) : σ.2.2 4 12 = some 63 := by
  have hm : ∃ e, (4, e) ∈ zGc ∧ ∃ o, e = .inl o ∧ o.2[12]? = some (.inr (.inr (.inl (some 63)))) := ⟨_, List.mem_of_getElem? (i := 0) rfl, _, rfl, rfl⟩
  obtain ⟨e, h1, o, rfl, h2⟩ := hm
  exact (h _ h1 12 _ h2).1
theorem zxRowA {G : zeG} {R : Option zeV → zeS → Prop} (st : zeSt zt_rA [] zdL G R) {σ : zeS} {i : Int} (h18 : G 18 [(0, .inr (.inr (some 4))), (1, .inl i)] [] σ) (h29 : 0 ≤ i → i ≤ 11 → G 29 [(0, .inr (.inr (some 4))), (1, .inl i)] [] σ) : G 0 [(0, .inr (.inr (some 4))), (1, .inl i)] [] σ := by
  refine st 9 [(18, [0, 1]), (29, [0, 1])] 0 _ _ _ ?_
  simp only [zt_rA, zeSk, zWcL, zeDo, zeLg, zeKd, zeArgs, zeCat, zeCt, beq_iff_eq, Nat.reduceBEq, Nat.reduceEqDiff, Nat.reduceAdd, Nat.reduceDiv, Nat.reduceMod, cond_true, cond_false, zePr, zePj, zeBF, Int.toNat_natCast, Int.reduceToNat, true_and, and_true, if_false, if_true, zeFv, zeCall, zeCs, zePop, zeSum, zdL_4, zdL_5, zdL_63, Int.cast_ofNat_Int, Nat.reduceLeDiff, Int.reduceLT, Int.reduceEq, and_false, false_and, ite_true, ite_false, eq_self_iff_true, reduceCtorEq, or_true, true_or, Nat.zero_le, List.length_cons, Bool.or_false, zeR1]
  repeat' (first | assumption | exact h29 (by omega) (by omega) | refine And.intro ?_ ?_ | intro _)
theorem zxRowB {G : zeG} {R : Option zeV → zeS → Prop} (st : zeSt zt_rB [] zdL G R) {σ : zeS} {i : Int} (hC : zCI zGc σ) (h0 : 0 ≤ i) (h1 : i ≤ 11) (hR : ∀ x : Int64, R (some (.inr (.inl x))) σ) : G 29 [(0, .inr (.inr (some 4))), (1, .inl i)] [] σ := by
  have r := zG4c hC
  refine st 5 [] 29 _ _ _ ?_
  simp only [zt_rB, r, zeSk, zWcL, zeDo, zeLg, zeKd, zeArgs, zeCat, zeCt, beq_iff_eq, Nat.reduceBEq, Nat.reduceEqDiff, Nat.reduceAdd, Nat.reduceDiv, Nat.reduceMod, cond_true, cond_false, zePr, zePj, zeBF, Int.toNat_natCast, Int.reduceToNat, true_and, and_true, if_false, if_true, zeFv, zeCall, zeCs, zePop, zeSum, zdL_4, zdL_5, zdL_63, Int.cast_ofNat_Int, Nat.reduceLeDiff, Int.reduceLT, Int.reduceEq, and_false, false_and, ite_true, ite_false, eq_self_iff_true, reduceCtorEq, or_true, true_or, Nat.zero_le, List.length_cons, Bool.or_false, zeR1]
  repeat' (first | assumption | exact hR _ | omega | refine And.intro ?_ ?_ | intro _)
section ZXR
variable {p : Program} {l : Launch} {e : Env} {R : Room} {s : State} {m : MethodId} {args : Array Value} {below : List Frame} {meth : Method} {c : Code} {Q : State → Prop}
variable {cc : ByteArray} {D : va_G} {cy : Nat → ClassId} {A : Nat → Prop} {own : String} {Ts : List Cond} {ad : Nat → Nat} {nL : Nat} {M : xMi} {dom : zeD} {rm : Nat × Nat} {cs0 ss0 : Nat}
theorem zeSt_of (X : zeXc p R s m args c cc D cy A own Ts ad nL M dom rm cs0 ss0) {cs : List zeC} (hcs : ∀ q ∈ cs, zeTok own M rm dom q) {Rz : Option zeV → zeS → Prop} (hret : zeRetOkc p l e R s m args below meth c Q cc D cy A ad dom Rz cs0 ss0) {code : List zeEn} (hcode : zeTb M nL M.1 = some code) (hcq : zeCq code = true) : zeSt code cs dom (zeGdc p l e R s m args below meth c Q D cy A ad nL dom cs0 ss0) Rz := fun n cuts pc ls st σ h => by
  obtain ⟨s1, s2, s3⟩ := zeSk_ok (t := pc) hcq
  obtain ⟨q', r', e1, e2⟩ := zeWp_okc X hcs hret hcode hcq cuts n _ ls st σ s1 s2 h
  rw [← s3 _ _ e1]
  exact e2
theorem zeGdc_w {cs1 ss1 : Nat} (h1 : cs0 ≤ cs1) (h2 : ss0 ≤ ss1) {pc : Nat} {ls : zeLs} {st : List zeV} {σ : zeS} (h : zeGdc p l e R s m args below meth c Q D cy A ad nL dom cs1 ss1 pc ls st σ) : zeGdc p l e R s m args below meth c Q D cy A ad nL dom cs0 ss0 pc ls st σ := fun lsC lv stC H locs a1 a2 a3 a4 => W.widen h1 h2 (h lsC lv stC H locs a1 a2 a3 a4)
end ZXR
set_option maxHeartbeats 4000000 in
/-- FinedBySight.row: it throws, or answers and leaves all as it was -/
theorem zxRow (l : Launch) (hl : l.stackTraces = false) {D : va_G} {cy : Nat → ClassId} {ad : Nat → Nat} {sz : Nat} {av : List Value} {ws : va_W} {σ : zeS} {i : Int} (hC : zCI zGc σ) (hav : xAll (zeOk ad) [.inr (.inr (some 4)), .inl i] av) (hws : zeW ad cy σ zdL ws) :
    vx_Met l yX11_row (xWd xM_X11_row) (xRm (6, 82, 1, 6)) (zxPc D cy ad av ws sz) (zxQ D cy ad σ ws sz) (zxX D cy ad σ ws sz) 1 6 (va_A ws sz) := by
  refine vx_ofW (cc := cX11_row) (maxL := 2) (ret := some .long) (by decide +kernel) rfl ?_
  intro p e s m args below meth c s₁ B hml hout hv
  obtain ⟨rfl, ⟨hsz, hP, hK, hD0, hSS⟩, hE⟩ := hv
  subst hsz
  have hx := B.exec
  have hb := B.bytes
  have hr := B.returns
  have hts := atoms_spec (ws := xWd xM_X11_row) B.pre
  have hown : s.vm.findClass RX11 = some m.cls := findClass_of_methodNamed B.named
  have hlocks := B.notSynchronized
  have hD := hD0.self (sz := s.heap.size)
  have hA : ∀ q : Nat, s.heap.size ≤ q → va_A ws s.heap.size q := fun q h => Or.inr h
  have hle := lv_entry av (n := 2) (by rw [zeSl_len hav]; exact Nat.le_refl 2)
  rw [lg_entry_eq]
  have XA : zeXc p (headSpec (xWd xM_X11_row) (xRm (6, 82, 1, 6))).room s m av.toArray c cX11_row D cy (va_A ws s.heap.size) RX11 (xWd xM_X11_row) ad 2 xI_rA zdL (6, 82) 0 0 :=
    ⟨⟨hx, hb, hml, hts, fun w h => List.mem_cons_of_mem _ h, hown, hK, hA, hSS⟩, xK_rA, zdL_nd, Nat.le_refl _, Nat.le_refl _, Nat.zero_le _, Nat.zero_le _⟩
  have XB : zeXc p (headSpec (xWd xM_X11_row) (xRm (6, 82, 1, 6))).room s m av.toArray c cX11_row D cy (va_A ws s.heap.size) RX11 (xWd xM_X11_row) ad 2 xI_rB zdL (6, 82) 0 0 :=
    ⟨⟨hx, hb, hml, hts, fun w h => List.mem_cons_of_mem _ h, hown, hK, hA, hSS⟩, xK_rB, zdL_nd, Nat.le_refl _, Nat.le_refl _, Nat.zero_le _, Nat.zero_le _⟩
  have hret : zeRetOkc p l e (headSpec (xWd xM_X11_row) (xRm (6, 82, 1, 6))).room s m av.toArray below meth c (vx_MQ below (zxQ D cy ad σ ws s.heap.size) (zxX D cy ad σ ws s.heap.size) av.toArray s 1 6 (va_A ws s.heap.size)) cX11_row D cy (va_A ws s.heap.size) ad zdL (fun r τ => (∃ x : Int64, r = some (.inr (.inl x))) ∧ τ = σ) 0 0 := by
    intro ins z v τ lsC H locs pc hio hdg hz hzv hR
    obtain ⟨⟨x, rfl⟩, hτ⟩ := hz
    subst hτ
    obtain ⟨ws1, hw1, hP1, hD1, hS1⟩ := hR
    cases v with
    | none => exact hzv.elim
    | some v =>
      have hzv : v = .long x := hzv
      subst hzv
      rcases hio with ⟨-, h⟩ | ⟨a, ha, hk⟩
      · cases h
      · cases ha
        rcases xRk_eq (k := 1) hk (by decide) with ⟨q, -⟩ | ⟨-, rfl⟩ | ⟨q, -⟩ | ⟨q, -⟩
        · cases q
        · refine W.widen (k := 1) (n := 6) (by decide) (by decide) (vx_ret ?_)
          exact W.lret hx hb hr (fun t ht _ => ⟨⟨x, ws1, rfl, ⟨hw1, hD1⟩, by show va_P D vwCl ws1 t.heap; rw [ht]; exact hP1⟩, hS1.F ht⟩) hS1.2.2 hdg
        · cases q
        · cases q
  have stA := zeSt_of (below := below) (l := l) (e := e) XA (cs := []) zcn hret zb_rA.1 zb_rA.2
  have stB := zeSt_of (below := below) (l := l) (e := e) XB (cs := []) zcn hret zb_rB.1 zb_rB.2
  have key : (∀ (lsC : Array Slot) (lv : List (Nat × Value)) (stC : List Value) (H : Heap) (locs : List Loc), lv_has lsC 2 lv → xAll (zeLk ad) [(0, .inr (.inr (some 4))), (1, .inl i)] lv → xAll (zeOk ad) [] stC → zeRel D cy ad (va_A ws s.heap.size) s.heap zdL σ H locs → W p l e (headSpec (xWd xM_X11_row) (xRm (6, 82, 1, 6))).room s m av.toArray below meth c H locs 0 0 (vx_MQ below (zxQ D cy ad σ ws s.heap.size) (zxX D cy ad σ ws s.heap.size) av.toArray s 1 6 (va_A ws s.heap.size)) (F0 m 18 lsC stC)) → zeGdc p l e (headSpec (xWd xM_X11_row) (xRm (6, 82, 1, 6))).room s m av.toArray below meth c (vx_MQ below (zxQ D cy ad σ ws s.heap.size) (zxX D cy ad σ ws s.heap.size) av.toArray s 1 6 (va_A ws s.heap.size)) D cy (va_A ws s.heap.size) ad 2 zdL 0 0 0 [(0, .inr (.inr (some 4))), (1, .inl i)] [] σ := fun h18 => zxRowA stA h18 (fun h0 h1 => zxRowB stB hC h0 h1 (fun x => ⟨⟨x, rfl⟩, rfl⟩))
  refine key ?_ _ _ [] s.heap [] hle (zeArgs_ok 0 hav) trivial ⟨ws, hws, hP, hD, va_S.rf⟩
  intro lsC lv stC H locs hl' hla hs hR
  obtain ⟨ws1, hw1, hP1, hD1, hS1⟩ := hR
  have hst : stC = [] := by
    cases stC with
    | nil => rfl
    | cons v r => exact hs.elim
  subst hst
  have hE2 := hE
  obtain ⟨-, ⟨sa, hstr⟩, hU, hN⟩ := hE2
  obtain ⟨w1, w2, -⟩ := xzWd
  refine xzThrow (cc := cX11_row) (sa := sa) (A := va_A ws s.heap.size) hx hb hl hown (hts _ (List.mem_cons_of_mem _ w1)) (hts _ (List.mem_cons_of_mem _ w2)) hstr ?_ (List.all_eq_true.mp xzGd) hU hN hS1 (hl'.1.trans hml.symm) (show decode cX11_row 18 = .ok (.new 417, 3) by decide +kernel) (show decode cX11_row 21 = .ok (.dup, 1) by decide +kernel) (show decode cX11_row 22 = .ok (.ldc_w 419, 3) by decide +kernel) (show decode cX11_row 25 = .ok (.invokespecial 421, 3) by decide +kernel) (show decode cX11_row 28 = .ok (.athrow, 1) by decide +kernel) (fun x hx => (hout x hx).elim) (show 5 < 6 by decide) (show 0 + (13 * (2 + 1) + 43) ≤ 82 by decide) (show 0 + 1 ≤ 1 by decide) (show 0 + 6 ≤ 6 by decide) hlocks ?_ hS1.2.2 (by decide) (by decide)
  · intro w hw
    rcases xzOkL_ok xzWs w hw with h | h
    · exact hts _ (List.mem_cons_of_mem _ h)
    · exact xzNg_ok hE w h
  · intro t hal hsz hq
    exact ⟨ws1, ⟨hw1, hD1⟩, ⟨rfl, xP_mem.mpr fun q hqm => (xP_mem.mp hP1 q hqm).kept (hq q.1 (xP_mem.mp hP1 q hqm).lt)⟩, Nat.le_trans hS1.1 hsz, fun q g1 g2 => (hq q (Nat.lt_of_lt_of_le g1 hS1.1)).trans (hS1.2.1 q g1 g2)⟩
theorem xOfWH {l : Launch} {y : MethodName} {ws ws' : List Cond} {rm : Room} {Pc : Array Value → State → Prop} {Qc : Array Value → State → Outcome → State → Prop} {mc ms : Nat} {free : Addr → Prop} {cc : ByteArray} {maxL : Nat} {ret : Option FieldType} {hh : List (Nat × Nat × Nat × Nat)}
    (hy : plainName y.cls = true) (hw : ws = Cond.codeWith y cc maxL ret hh :: ws')
    (body : ∀ p e s m args below meth c s₁, BodyLoose p l y (headSpec ws rm) cc maxL ret e s m args below meth c s₁ → c.maxLocals = maxL → Pc args s → W p l e (headSpec ws rm).room s m args below meth c s.heap [] 0 0 (MQ below Qc args s mc ms free) (entryFrame m args maxL)) : Met l y ws rm Pc Qc mc ms free := by
  refine MetFree.of_bodyS (code := cc) (maxLocals := maxL) (ret := ret) hy ?_ ?_
  · intro args s m h hn
    obtain ⟨m9, meth, c, hn9, h1, h2, h3, h4, -, h5, h6, -⟩ := Cond.codeWith_spec (atoms_spec (ws := ws) h _ (by rw [hw]; exact List.mem_cons_self))
    cases hn.symm.trans hn9
    exact ⟨meth, c, h1, h2, h3, h4, h5, h6⟩
  · intro p e s m args below meth c s₁ B hml hP _
    have hh0 : s₁.heap = s.heap := by rw [B.state]; rfl
    obtain ⟨t, a1, o, b1, b2, b3⟩ := body p e s m args below meth c s₁ B hml hP s₁ hh0 (Stand.of_body B)
    exact ⟨t, o, a1, b1, b2, ⟨b3.1, b3.2⟩⟩
theorem zAv3 {ad : Nat → Nat} {k k' : Nat} {i : Int} : ∀ {av : List Value}, xAll (zeOk ad) [.inr (.inr (some k)), .inl i, .inr (.inr (some k'))] av → ∃ p0 : Int32, av = [.ref (ad k), .int p0, .ref (ad k')] ∧ p0.toInt = i
  | [v0, v1, v2], h => by
    obtain ⟨h0, ⟨p0, rfl, h1⟩, h2, -⟩ := h
    have h0 : v0 = .ref (ad k) := h0
    have h2 : v2 = .ref (ad k') := h2
    subst h0; subst h2
    exact ⟨p0, rfl, h1⟩
  | [], h => h.elim
  | [_], h => h.2.elim
  | [_, _], h => h.2.2.elim
  | _ :: _ :: _ :: _ :: _, h => h.2.2.2.elim
def xLW : List Cond := .codeWith yL_row cL_row 4 (some .int) [(0, 8, 11, 13)] :: xBig
theorem xK_L0 : xMok RL cL_row ([], [], [], [], [], []) := xMokB_ok (h := ([], [], [], [], [])) (by decide +kernel)
set_option maxHeartbeats 4000000 in
theorem zxLRow (l : Launch) (hl : l.stackTraces = false) {D : va_G} {cy : Nat → ClassId} {ad : Nat → Nat} {sz : Nat} {av : List Value} {ws : va_W} {σ : zeS} {i : Int} (hC : zCI zGc σ) (hav : xAll (zeOk ad) [.inr (.inr (some 4)), .inl i, .inr (.inr (some 127))] av) (hws : zeW ad cy σ zdL ws) :
    Met l yL_row xLW (xRm (7, 103, 1, 6)) (zxPc D cy ad av ws sz) (zeQc (fun r τ => (∃ x : Int, r = some (.inl x)) ∧ ∀ k', ¬ k' = 127 → zeSm σ τ k') D cy ad zdL ws sz) 1 6 (va_A ws sz) := by
  obtain ⟨p0, rfl, hp0⟩ := zAv3 hav
  refine xOfWH (cc := cL_row) (maxL := 4) (ret := some .int) (hh := [(0, 8, 11, 13)]) (by decide +kernel) rfl ?_
  intro p e s m args below meth c s₁ B hml hv
  obtain ⟨rfl, ⟨hsz, hP, hK, hD0, hSS⟩, hE⟩ := hv
  subst hsz
  have hx := B.exec
  have hb := B.bytes
  have hr := B.returns
  have hts := atoms_spec (ws := xLW) B.pre
  have hbig : ∀ w ∈ xBig, w ∈ xLW := fun w h => List.mem_cons_of_mem _ h
  have hown : s.vm.findClass RL = some m.cls := findClass_of_methodNamed B.named
  have htab : c.exceptionTable.toList = tableOf [(0, 8, 11, 13)] := vx_table (x := yL_row) B (hts _ List.mem_cons_self)
  have hS : va_S (va_A ws s.heap.size) s.heap s.heap [] := va_S.rf
  obtain ⟨-, -, w3, w4, w5, w6, w7, w8, -⟩ := xzWd
  have hl0 := lv_entry ([.ref (ad 4), .int p0, .ref (ad 127)]) (n := 4) (Nat.le_of_ble_eq_true rfl)
  rw [lg_entry_eq]
  generalize (lg_sl ([.ref (ad 4), .int p0, .ref (ad 127)]) ++ List.replicate (4 - (lg_sl ([.ref (ad 4), .int p0, .ref (ad 127)])).length) Slot.unset).toArray = ls at hl0 ⊢
  have hl0 : lv_has ls 4 [(0, .ref (ad 4)), (1, .int p0), (2, .ref (ad 127))] := hl0
  refine lv_aload_n hx hb (show decode cL_row 0 = .ok (.aload_n 2, 1) by decide +kernel) rfl (lv_at hl0 2 rfl) ?_
  refine lv_iconst (v := 0) hx hb (show decode cL_row 1 = .ok (.iconst 0, 1) by decide +kernel) (by decide) ?_
  refine lv_aload_n hx hb (show decode cL_row 2 = .ok (.aload_n 0, 1) by decide +kernel) rfl (lv_at hl0 0 rfl) ?_
  refine lv_iload_n hx hb (show decode cL_row 3 = .ok (.iload_n 1, 1) by decide +kernel) rfl (lv_at hl0 1 rfl) ?_
  have hav2 : xAll (zeOk ad) [.inr (.inr (some 4)), .inl i] [.ref (ad 4), .int p0] := ⟨rfl, ⟨p0, rfl, hp0⟩, trivial⟩
  have hM := zxRow l hl (D := D) (cy := cy) (sz := s.heap.size) hC hav2 hws
  obtain ⟨j4, x4, e1, e2, -⟩ := zeLy_get hws zdL_4 zdL_nd
  rcases x4 with x4 | ⟨ci, vs⟩
  · exact e2.elim
  obtain ⟨e3, -⟩ := e2
  dsimp only at e3
  subst e3
  have hrecv := va_recv hK.1 hP (show vwCl[11]? = some (RX11, TX11, 14) from rfl) e1
  have hrun := vx_runV (p := p) (e := e) (R := (headSpec xLW (xRm (7, 103, 1, 6))).room) (below := below) (meth := meth) (H := s.heap) (locs := []) (cells := 0) (slots := 0) (C := RX11) (b := ad 4) (As := [.int p0]) (rest := [.int 0, .ref (ad 127)]) (g := F0 m 4 ls [.int p0, .ref (ad 4), .int 0, .ref (ad 127)]) (cc := cL_row) (nL := 4) (Ts := xLW) (own := RL) ⟨hx, hb, hml, hown, hts⟩ hM (cwV 1 hts (xGoodIn hbig (fun w hw => by
    unfold wsV at hw
    rcases List.mem_append.mp hw with h | h
    · rcases List.mem_cons.mp h with rfl | h
      · exact w4
      rcases List.mem_cons.mp h with rfl | h
      · exact w5
      rcases List.mem_cons.mp h with rfl | h
      · exact w6
      rcases List.mem_cons.mp h with rfl | h
      · exact w7
      · cases h
    · rcases List.mem_cons.mp h with rfl | h
      · exact w8
      · exact h)) rfl rfl rfl (by decide +kernel) ⟨Nat.le_of_ble_eq_true rfl, Nat.le_of_ble_eq_true rfl⟩) ⟨zxBlind, hrecv, fun U hU hW => ⟨rfl, ⟨by rw [hU], by rw [hU]; exact hP, xKK_warm hW hK, hD0, xSS_warm hW (fun a _ _ => by rw [hU]) (fun _ h => h) hSS⟩, xEx_warm hW (fun a _ _ => by rw [hU]) (fun _ h => h) hE⟩⟩ rfl rfl hl0.1 rfl (lv_room (Nat.le_of_ble_eq_true rfl)) (show decode cL_row 4 = .ok (.invokevirtual 7, 3) by decide +kernel) ⟨Nat.le_of_ble_eq_true rfl, Nat.le_of_ble_eq_true rfl⟩
  refine vx_calll hrun hS (fun q _ h => h) (fun q h => h) (fun q _ h => h) ?_ ?_
  · intro E ce q9 u t H1 locs1 ht hal hpx hbx hsz hkeep hS1 hce hcv hcl
    obtain ⟨hwu, hDu⟩ := hpx
    obtain ⟨rfl, hPu⟩ := hbx
    refine xzCatch (E := xzN) (name := xzN) hown ⟨0, 8, 11, 13⟩ (by rw [htab]; rfl) (by decide) (by decide) (hts _ (hbig _ w3)) (va_Nw.use rfl hE.1.1) hce hcv hcl ?_
    refine lv_astore_n hx hb (show decode cL_row 11 = .ok (.astore_n 3, 1) by decide +kernel) rfl hl0 (by decide) rfl (fun ls' hl' => ?_)
    refine lv_iconst (v := 1) hx hb (show decode cL_row 12 = .ok (.iconst 1, 1) by decide +kernel) (by decide) ?_
    refine W.widen (k := 1) (n := 6) (by decide) (by decide) ?_
    exact W.iret hx hb hr (fun t' ht' _ => ⟨⟨_, some (.inl 1), σ, u, rfl, ⟨1, rfl, rfl⟩, hwu, by rw [ht', ← ht]; exact hPu, hDu, ⟨1, rfl⟩, fun _ _ => ⟨fun _ => rfl, fun _ => rfl, fun _ => rfl⟩⟩, hS1.F ht'⟩) hS1.2.2 (show decode cL_row 13 = .ok (.ireturn, 1) by decide +kernel)
  · intro r u t H1 locs1 ht _ hpost hPu hsz hkeep hS1
    obtain ⟨hwu, hDu⟩ := hpost
    have hR1 : zeRel D cy ad (va_A ws s.heap.size) s.heap zdL σ H1 locs1 := ⟨u, hwu, by rw [← ht]; exact hPu, hDu, hS1⟩
    have X : zeXc p (headSpec xLW (xRm (7, 103, 1, 6))).room s m ([.ref (ad 4), .int p0, .ref (ad 127)] : List Value).toArray c cL_row D cy (va_A ws s.heap.size) RL xLW ad 4 ([], [], [], [], [], []) zdL (7, 103) (0 + 1) (0 + 6) :=
      ⟨⟨hx, hb, hml, hts, hbig, hown, hK, fun q h => Or.inr h, hSS⟩, xK_L0, zdL_nd, Nat.le_refl _, Nat.le_refl _, Nat.le_refl _, Nat.le_refl _⟩
    refine zeAstL_Wc (x := 0) X hR1 zdL_127 rfl (by decide) (by decide) (show decode cL_row 7 = .ok (.lastore, 1) by decide +kernel) (fun H2 locs2 hR2 => ?_)
    refine lv_goto hx hb (show decode cL_row 8 = .ok (.goto 6, 3) by decide +kernel) (tgt := 14) (by decide) ?_
    refine lv_iconst (v := 0) hx hb (show decode cL_row 14 = .ok (.iconst 0, 1) by decide +kernel) (by decide) ?_
    obtain ⟨ws2, hw2, hP2, hD2, hS2⟩ := hR2
    refine W.widen (k := 1) (n := 6) (by decide) (by decide) ?_
    exact W.iret hx hb hr (fun t' ht' _ => ⟨⟨_, some (.inl 0), _, ws2, rfl, ⟨0, rfl, rfl⟩, hw2, by rw [ht']; exact hP2, hD2, ⟨0, rfl⟩, fun k' hk' => zuL_sm hk'⟩, hS2.F ht'⟩) hS2.2.2 (show decode cL_row 15 = .ok (.ireturn, 1) by decide +kernel)
section ZXC
variable {p : Program} {l : Launch} {e : Env} {s : State} {m : MethodId} {args : Array Value} {below : List Frame} {meth : Method} {c : Code} {Q : State → Prop}
variable {D : va_G} {cy : Nat → ClassId} {A : Nat → Prop} {ad : Nat → Nat} {M : xMi} {rm : Nat × Nat} {cs ss : Nat}
set_option maxHeartbeats 4000000 in
/-- the law's call of row -/
theorem zxCall (hl : l.stackTraces = false) (X : zeXc p room_1 s m args c code D cy A R_law lw_tbl ad 8 M zdL rm cs ss) (hE : xEx A s) (h7 : cs + 1 ≤ 601024) (h8 : ss + 6 ≤ 7293034) {σ : zeS} (hC : zCI zGc σ) {i : Int} {ls : zeLs} (kk : ∀ (x : Int) (τ : zeS), (∀ k', ¬ k' = 127 → zeSm σ τ k') → zeGdc p l e room_1 s m args below meth c Q D cy A ad 8 zdL (cs + 1) (ss + 6) 2272 ls [.inl x] τ) : zeGdc p l e room_1 s m args below meth c Q D cy A ad 8 zdL cs ss 2269 ls [.inr (.inr (some 127)), .inl i, .inr (.inr (some 4))] σ := by
  obtain ⟨⟨hx, hb, hml, hts, hbig, hown, hK, hA, hSS⟩, hM, hnd, hR1, hR2, hcs0⟩ := X
  intro lsC lv stC H locs hl' hla hs hR
  obtain ⟨v3, v2, t1, rfl, g3, g2, gt⟩ := zeSt2 hs
  obtain ⟨v1, restC, rfl, g1, gt⟩ := zeSt1 gt
  have hrc : restC = [] := by
    cases restC with
    | nil => rfl
    | cons v r => exact gt.elim
  subst hrc
  have has : xAll (zeOk ad) [.inr (.inr (some 4)), .inl i, .inr (.inr (some 127))] [v1, v2, v3] := ⟨g1, g2, g3, trivial⟩
  obtain ⟨ws, hw, hP, hD, hS⟩ := hR
  have hMet := zxLRow l hl (D := D) (cy := cy) (ad := ad) (sz := H.size) hC has hw
  have hfr : ∀ q, va_A ws H.size q → A q := by
    intro q h
    rcases h with ⟨k, x, h⟩ | h
    · exact hD.2 k _ h
    · exact hA q (Nat.le_trans hS.1 h)
  have hpc : ∀ U : State, U.heap = H → s.WarmedH U.vm → zxPc D cy ad [v1, v2, v3] ws H.size ([v1, v2, v3] : List Value).toArray U := fun U hU hW => ⟨rfl, ⟨by rw [hU], by rw [hU]; exact hP, xKK_warm hW hK, zxNd hD, xSS_warm hW (fun a z1 z2 => by rw [hU]; exact hS.2.1 a z1 z2) hfr hSS⟩, xEx_warm hW (fun a z1 z2 => by rw [hU]; exact hS.2.1 a z1 z2) hfr hE⟩
  have hdg : decode code 2269 = .ok (.invokestatic 222, 3) := by decide +kernel
  obtain ⟨-, -, -, -, -, -, -, -, w9, w10, w11, w12⟩ := xzWd
  have hrun := vx_runSW (p := p) (e := e) (R := room_1) (s := s) (below := below) (meth := meth) (H := H) (locs := locs) (cells := cs) (slots := ss) (hh := [(0, 8, 11, 13)]) (bytes := cL_row) (maxL := 4) (ret := some .int) (As := [v1, v2, v3]) (rest := []) (g := F0 m 2269 lsC ([v1, v2, v3].reverse ++ [])) (cc := code) (nL := 8) (Ts := lw_tbl) (own := R_law) (index := 222) (n := 3) ⟨hx, hb, hml, hown, hts⟩ hMet (vx_cwSW 3 hts (xGoodIn hbig (fun w hw => by
    unfold va_wsS at hw
    rcases List.mem_append.mp hw with h | h
    · rcases List.mem_cons.mp h with rfl | h
      · exact w9
      rcases List.mem_cons.mp h with rfl | h
      · exact w10
      rcases List.mem_cons.mp h with rfl | h
      · exact w11
      · cases h
    · rcases List.mem_cons.mp h with rfl | h
      · exact w12
      · exact h)) rfl rfl rfl (by decide +kernel) ⟨by decide, by decide⟩) ⟨zxBlind, hpc⟩ rfl rfl hl'.1 rfl (lv_room (Nat.le_of_ble_eq_true rfl)) hdg ⟨Nat.le_trans h7 (by decide), Nat.le_trans h8 (by decide)⟩
  refine xc_call hrun hS hfr (fun st v t hq => hq.2) (fun v st t locs1 hst hqc hS1 => ?_)
  obtain ⟨⟨r, z, τ, ws', hr, hret, hw', hP', hD', ⟨x, hz⟩, hfr2⟩, -⟩ := hqc
  cases hr
  subst hz
  cases v with
  | none => exact hret.elim
  | some v => exact kk x τ hfr2 lsC lv [v] t.heap locs1 hl' hla ⟨hret, trivial⟩ ⟨ws', hw', hP', zeD_mono hfr hD', hS1⟩
end ZXC

/-! the law's row: FinedBySight.row throws on a new object, FinedBySightLaw.row catches and answers 1 -/
noncomputable def xRunB (base : xRec) (M : xMi) (cons : List xCd) (ts : List xT) (sc : Option (Nat × List xV)) (fin : Bool) (rm : Nat × Nat × Nat × Nat) (nL : Nat) (chk : Option xV → xH → Nat → Nat → Nat → Bool) (n : Nat) : xRec := Nat.rec base (fun _ ih => xStep M cons ts sc fin rm nL chk ih) n
section XRB
variable {p : Program} {l : Launch} {e : Env} {R : Room} {s : State} {m : MethodId} {args : Array Value} {below : List Frame} {meth : Method} {c : Code} {Q : State → Prop}
variable {cc : ByteArray} {D : va_G} {cy : Nat → ClassId} {η : Nat → Int32} {A : Nat → Prop} {own : String} {Ts : List Cond} {ad0 : Nat → Nat} {nx0 nL : Nat}
variable {M : xMi} {cons : List xCd} {ts : List xT} {sc : Option (Nat × List xV)} {fin : Bool} {rm : Nat × Nat × Nat × Nat} {chk : Option xV → xH → Nat → Nat → Nat → Bool} {base : xRec}
/-- the walk with another end than its own -/
theorem xRunB_ok (X : xCx p R s m args meth c cc D cy η A own Ts ad0 nx0 nL M cons ts sc fin rm) (hret : xRetOk p l e R s m args below meth c Q cc D cy η A ad0 nx0 chk) (hbase : xIH p l e R s m args below meth c Q D cy η A ad0 nx0 nL M base) : ∀ n : Nat, xIH p l e R s m args below meth c Q D cy η A ad0 nx0 nL M (xRunB base M cons ts sc fin rm nL chk n)
  | 0 => hbase
  | n + 1 => fun pc cur ls st hp nx cs ss hcur h => by
    have h : xStep M cons ts sc fin rm nL chk (xRunB base M cons ts sc fin rm nL chk n) pc cur ls st hp nx cs ss = true := h
    cases cur with
    | nil => cases h
    | cons q nxt =>
      have h : (q.1 == pc && xFast (xRunB base M cons ts sc fin rm nL chk n) (xDo M cons ts sc fin rm nL chk (xRunB base M cons ts sc fin rm nL chk n) pc q.2.1 q.2.2.1 nxt ls st hp nx cs ss) nL q.2.2.2 pc q.2.2.1 nxt ls st hp nx cs ss) = true := h
      rw [Bool.and_eq_true, beq_iff_eq] at h
      obtain ⟨rfl, h⟩ := h
      obtain ⟨h1, h2, h3⟩ := X.2.1.1 q (hcur q List.mem_cons_self)
      exact xFast_ok X (xRunB_ok X hret hbase n) h3 (fun z hz => hcur z (List.mem_cons_of_mem _ hz)) h1 h2 (fun hh => xDo_ok X (xRunB_ok X hret hbase n) hret (fun z hz => hcur z (List.mem_cons_of_mem _ hz)) h1 h2 hh) h
end XRB
/-! what a throw wants beside the good words -/
def xzNg : List Cond := [.castable xzN xzN, .declares (Bundle.initS xzR), .declares (Bundle.initS xzE), .declares (Bundle.initS Bundle.tN)]
def xEx (A : Nat → Prop) (U : State) : Prop := (va_Nw (.castable xzN xzN) U ∧ va_Nw (.declares (Bundle.initS xzR)) U ∧ va_Nw (.declares (Bundle.initS xzE)) U ∧ va_Nw (.declares (Bundle.initS Bundle.tN)) U) ∧ (∃ sa : Nat, vk_R RX11 419 xzM sa U) ∧ vx_Zq Bundle.tN "UNASSIGNED_STACK" Bundle.steD A U U.heap ∧ vx_Zq Bundle.tN "SUPPRESSED_SENTINEL" Bundle.listD A U U.heap
theorem xEx_warm {A B : Nat → Prop} {s U : State} (hW : s.WarmedH U.vm) (hU : ∀ a : Nat, a < s.heap.size → ¬ A a → U.heap[a]? = s.heap[a]?) (hBA : ∀ q, B q → A q) (h : xEx A s) : xEx B U := by
  obtain ⟨⟨h1, h2, h3, h4⟩, ⟨sa, h5⟩, h6, h7⟩ := h
  exact ⟨⟨va_Nw.warmC hW h1, va_Nw.warmD hW h2, va_Nw.warmD hW h3, va_Nw.warmD hW h4⟩, ⟨sa, vk_R.warm hW h5⟩, vx_Zq.moved hW.alike ((h6.kept hU).narrow hBA), vx_Zq.moved hW.alike ((h7.kept hU).narrow hBA)⟩
theorem xEx_calling {A : Nat → Prop} {U : State} {g : JFrame} {mk : MethodId} {a : Array Value} (h : xEx A U) : xEx A (U.calling g mk a) := by
  obtain ⟨⟨h1, h2, h3, h4⟩, ⟨sa, h5⟩, h6, h7⟩ := h
  exact ⟨⟨va_tabs (A := #[]) (u := U) rfl rfl h1, va_tabs (A := #[]) (u := U) rfl rfl h2, va_tabs (A := #[]) (u := U) rfl rfl h3, va_tabs (A := #[]) (u := U) rfl rfl h4⟩, ⟨sa, vk_R.same (u := U) rfl h5⟩, vx_Zq.moved (u := U) (U := U.calling g mk a) (Vm.Alike.refl U.vm) h6, vx_Zq.moved (u := U) (U := U.calling g mk a) (Vm.Alike.refl U.vm) h7⟩
theorem xEx_law {args : Array Value} {s : State} (hts : ∀ w ∈ lw_tbl, w.before args s = true) (hg : (Jvm.Cond.and given_1 narrow_1).before args s = true) : xEx (fun q => s.heap.size ≤ q) s := by
  have hs := flat_of_before _ hg
  have hA : ∀ a : Nat, a < s.heap.size → ¬ s.heap.size ≤ a := fun a h => by omega
  have hstr : (Cond.stringRef RX11 419 xzM).before args s = true := xT0 hts 1362 (by decide +kernel)
  have hcur : ∃ cur, s.vm.findClass RX11 = some cur := by
    have h1 := hstr
    simp only [Cond.before, Cond.holds, Cond.value] at h1
    cases hc : s.vm.findClass RX11 with
    | none => simp [hc] at h1
    | some cur => exact ⟨cur, rfl⟩
  obtain ⟨cur, hcur⟩ := hcur
  obtain ⟨k, cf, i, a, -, -, -, -, -, hev⟩ := Cond.stringRef_spec hcur hstr
  exact ⟨⟨va_Nw.of rfl (xT0 hts 1325 (by decide +kernel)), va_Nw.of rfl (xT0 hts 1327 (by decide +kernel)), va_Nw.of rfl (xT0 hts 1329 (by decide +kernel)), va_Nw.of rfl (xT0 hts 1331 (by decide +kernel))⟩, ⟨a, vk_R.of hstr hev⟩, vx_Zqof (xT0 hts 1350 (by decide +kernel)) (xT0 hts 119 (by decide +kernel)) (hs _ (by decide +kernel)) hA, vx_Zqof (xT0 hts 1352 (by decide +kernel)) (xT0 hts 119 (by decide +kernel)) (hs _ (by decide +kernel)) hA⟩
def xzOkL : List Nat → List Cond → Bool
  | i :: is, w :: ws => (xHas i w || decide (w ∈ xzNg)) && xzOkL is ws
  | _, [] => true
  | [], _ :: _ => false
theorem xzOkL_ok : ∀ {is : List Nat} {ws : List Cond}, xzOkL is ws = true → ∀ w ∈ ws, w ∈ xBig ∨ w ∈ xzNg
  | _, [], _, w, h => by cases h
  | [], _ :: _, h, _, _ => by simp [xzOkL] at h
  | i :: is, v :: ws, h, w, hw => by
    simp only [xzOkL, Bool.and_eq_true, Bool.or_eq_true, decide_eq_true_eq] at h
    rcases List.mem_cons.mp hw with rfl | hw
    · exact h.1.imp xHas_ok id
    · exact xzOkL_ok h.2 w hw
theorem xzWs : xzOkL [119, 1345, 1354, 1356, 1359, 1361, 1346, 1347, 129, 130, 1348, 1353, 1357, 1377, 1335, 1378, 1337, 1379, 1339, 1349, 1351, 1341, 1373, 1374, 1376, 1341, 1364, 1365, 1366, 1367, 0, 1367, 1368, 1369, 1370, 0, 1370, 1371, 1372, 1373, 0, 1363, 1324, 0, 1332, 1333, 1334, 1336, 1338, 1340, 1344, 1343, 1342] (xzAt.filter vx_no) = true := by decide +kernel
theorem xzGd : (Cond.classLink RX11 417 xzN :: Cond.initialized xzN :: xzAt.filter vx_no).all vx_ot = true := by decide +kernel
theorem xzNg_ok {args : Array Value} {A : Nat → Prop} {s : State} (h : xEx A s) : ∀ w ∈ xzNg, w.before args s = true := by
  intro w hw
  obtain ⟨⟨h1, h2, h3, h4⟩, -⟩ := h
  unfold xzNg at hw
  rcases List.mem_cons.mp hw with rfl | hw
  · exact va_Nw.use rfl h1
  rcases List.mem_cons.mp hw with rfl | hw
  · exact va_Nw.use rfl h2
  rcases List.mem_cons.mp hw with rfl | hw
  · exact va_Nw.use rfl h3
  rcases List.mem_cons.mp hw with rfl | hw
  · exact va_Nw.use rfl h4
  · cases hw
theorem xzWd : Cond.classLink RX11 417 xzN ∈ xBig ∧ Cond.initialized xzN ∈ xBig ∧ Cond.classLink RL 13 xzN ∈ xBig ∧ Cond.methodLink RL 7 yX11_row ∈ xBig ∧ Cond.instanceMethod yX11_row ∈ xBig ∧ Cond.selects RX11 yX11_row yX11_row ∈ xBig ∧ Cond.initialized RX11 ∈ xBig ∧ Cond.code yX11_row cX11_row 2 (some .long) ∈ xBig ∧ Cond.methodLink R_law 222 yL_row ∈ xBig ∧ Cond.static yL_row ∈ xBig ∧ Cond.initialized RL ∈ xBig ∧ Cond.codeWith yL_row cL_row 4 (some .int) [(0, 8, 11, 13)] ∈ xBig :=
  ⟨xHas_ok (i := 1323) (by decide +kernel), xHas_ok (i := 122) (by decide +kernel), xHas_ok (i := 1318) (by decide +kernel), xHas_ok (i := 1319) (by decide +kernel), xHas_ok (i := 1320) (by decide +kernel), xHas_ok (i := 1321) (by decide +kernel), xHas_ok (i := 96) (by decide +kernel), xHas_ok (i := 1322) (by decide +kernel), xHas_ok (i := 1315) (by decide +kernel), xHas_ok (i := 1316) (by decide +kernel), xHas_ok (i := 95) (by decide +kernel), xHas_ok (i := 1317) (by decide +kernel)⟩
def xPcX (D : va_G) (cy : Nat → ClassId) (av : List Value) (ws : va_W) (sz : Nat) : Array Value → State → Prop := va_Pc av (fun U => (U.heap.size = sz ∧ va_P D vwCl ws U.heap ∧ xKK D cy U ∧ va_D (fun _ => True) ws ∧ xSS (va_A ws sz) U) ∧ xEx (va_A ws sz) U)
theorem xBlindX {D : va_G} {cy : Nat → ClassId} {av : List Value} {ws : va_W} {sz : Nat} : FrameBlind (xPcX D cy av ws sz) := fun a U g mk q => by
  obtain ⟨q0, ⟨q1, qP, qK, qD, qS⟩, qE⟩ := q
  exact ⟨q0, ⟨q1, qP, xKK_calling qK, qD, xSS_calling qS⟩, xEx_calling qE⟩
abbrev xRX (D : va_G) (cy : Nat → ClassId) (η : Nat → Int32) (ad : Nat → Nat) (N : Nat) (pre : xH) (ws : va_W) (sz : Nat) : String → State → State → Prop := vx_X (S := va_W) (fun w' => xWok η ad N cy pre w' ∧ va_D (va_A ws sz) w') (fun E w' t => E = xzN ∧ va_P D vwCl w' t.heap) (va_A ws sz)
abbrev xRQ (ws : va_W) (sz : Nat) : Array Value → State → Outcome → State → Prop := va_Ql (S := Unit) (fun _ _ => False) (fun _ _ => True) (va_A ws sz)
noncomputable def xM_X11_row : xM := (yX11_row, cX11_row, 2, (some Jvm.ClassFile.FieldType.long))
noncomputable def xI_X11_row : xMi := ([(0, .iload_n 1, 1, (fL 0 1)), (1, .ifCond .lt 17, 3, fU), (4, .iload_n 1, 1, (fL 0 1)), (5, .aload_n 0, 1, (fL 2 0)), (6, .getfield 309, 3, (fQ 1 11 13)), (9, .if_icmp .ge 9, 3, fU), (12, .iload_n 1, 1, (fL 0 1)), (13, .bipush 12, 2, (fV (zi (Int.ofNat 12) (Int.ofNat 12)))), (15, .if_icmp .lt 14, 3, fU), (18, .new 417, 3, fU), (21, .dup, 1, fU), (22, .ldc_w 419, 3, fU), (25, .invokespecial 421, 3, fU), (28, .athrow, 1, fU), (29, .aload_n 0, 1, (fL 2 0)), (30, .getfield 99, 3, (fQ 1 11 12)), (33, .iload_n 1, 1, (fL 0 1)), (34, .laload, 1, (fQ 2 2 0)), (35, .lreturn, 1, fU)], [(309, 11, 13, 0, false), (99, 11, 12, 3, true)], [], [], [], [])
theorem xK_X11_row : xMp xM_X11_row xI_X11_row := ⟨by decide +kernel, xMokB_ok (h := ([522, 521], [], [], [], [])) (by decide +kernel)⟩
/-- where row throws -/
noncomputable def xRwB (pre : xH) (N : Nat) (pc : Nat) (_ : List xEn) (_ : List (Nat × xV)) (st : List xV) (hp : xH) (nx cs ss : Nat) : Bool := pc == 18 && st.isEmpty && nx == N && cs == 0 && ss == 0 && (match xTakeAll pre hp with
  | some _ => true
  | none => false)
noncomputable def xRwGo (pre : xH) (N kx : Nat) (iv : xI) (n : Nat) : Bool := xRunB (xRwB pre N) xI_X11_row [] [] none false (6, 82, 1, 6) 2 (fun _ _ _ _ _ => false) n 0 xI_X11_row.1 (xArgs 0 [.inr (.inr (.inl (some kx))), .inl iv]) [] pre N 0 0
set_option maxHeartbeats 4000000 in
theorem xRow1 (l : Launch) (hl : l.stackTraces = false) {D : va_G} {cy : Nat → ClassId} {η : Nat → Int32} {ad : Nat → Nat} {sz : Nat} {av : List Value} {ws : va_W} {pre : xH} {N kx : Nat} (n : Nat) {iv : xI} (hav : xAll (xOk η ad N) [.inr (.inr (.inl (some kx))), .inl iv] av) (hws : xWok η ad N cy pre ws) (hrun : xRwGo pre N kx iv n = true) :
    vx_Met l yX11_row (xWd xM_X11_row) (xRm (6, 82, 1, 6)) (xPcX D cy av ws sz) (xRQ ws sz) (xRX D cy η ad N pre ws sz) 1 6 (va_A ws sz) := by
  refine vx_ofW (cc := cX11_row) (maxL := 2) (ret := some .long) (by decide +kernel) rfl ?_
  intro p e s m args below meth c s₁ B hml hout hv
  obtain ⟨rfl, ⟨hsz, hP, hK, hD0, hSS⟩, hE⟩ := hv
  subst hsz
  have hx := B.exec
  have hb := B.bytes
  have hts := atoms_spec (ws := xWd xM_X11_row) B.pre
  have hown : s.vm.findClass RX11 = some m.cls := findClass_of_methodNamed B.named
  have hlocks := B.notSynchronized
  have hD := hD0.self (sz := s.heap.size)
  have hA : ∀ q : Nat, s.heap.size ≤ q → va_A ws s.heap.size q := fun q h => Or.inr h
  have hle := lv_entry av (n := 2) (by rw [xSl_len hav]; exact Nat.le_refl 2)
  rw [lg_entry_eq]
  have X : xCx p (headSpec (xWd xM_X11_row) (xRm (6, 82, 1, 6))).room s m av.toArray meth c cX11_row D cy η (va_A ws s.heap.size) RX11 (xWd xM_X11_row) ad N 2 xI_X11_row [] [] none false (6, 82, 1, 6) :=
    ⟨⟨hx, hb, hml, hts, fun w h => List.mem_cons_of_mem _ h, hown, hK, hA, hSS⟩, xK_X11_row.2, xC0, xTok_nil, (fun z hz => by cases hz), (fun h => by cases h), Nat.le_refl _, Nat.le_refl _, Nat.le_refl _, Nat.le_refl _⟩
  refine xRunB_ok (below := below) (l := l) (e := e) (Q := vx_MQ below (xRQ ws s.heap.size) (xRX D cy η ad N pre ws s.heap.size) av.toArray s 1 6 (va_A ws s.heap.size)) (chk := fun _ _ _ _ _ => false) X ?_ ?_ n 0 xI_X11_row.1 _ _ _ _ _ _ (fun _ h => h) hrun ad _ _ [] s.heap [] (fun _ _ => rfl) (Nat.le_refl _) hle (xArgs_ok 0 hav) trivial ⟨ws, hws, hP, hD, va_S.rf⟩
  · intro ins o v hp nx cs ss ad' lsC H locs pc hrk hio hdg hchk
    exact Bool.noConfusion (show false = true from hchk)
  · intro pc cur ls st hp nx cs ss hcur h ad' lsC lv stC H locs had hnx hl' hla hs hR
    simp only [xRwB, Bool.and_eq_true, beq_iff_eq] at h
    obtain ⟨⟨⟨⟨⟨h1, h2⟩, h3⟩, h4⟩, h5⟩, h6⟩ := h
    split at h6
    rotate_left
    · cases h6
    rename_i rest htk
    obtain ⟨ws1, hw1, hP1, hD1, hS1⟩ := hR
    obtain ⟨wc, wr, hperm, hwc, hwr⟩ := xTakeAll_ok hw1 htk
    have hP2 : va_P D vwCl wc H := xP_mem.mpr fun q hq => xP_mem.mp (xP_perm hP1 hperm) q (List.mem_append_left _ hq)
    have hD2 : va_D (va_A ws s.heap.size) wc := by
      have := xD_mem.mp (xD_perm hD1 hperm)
      rw [List.map_append] at this
      exact xD_mem.mpr ⟨(List.nodup_append.mp this.1).1, fun q hq => this.2 q (List.mem_append_left _ hq)⟩
    have hst : stC = [] := by
      cases st with
      | cons a r => simp at h2
      | nil =>
        cases stC with
        | nil => rfl
        | cons v r => exact hs.elim
    rw [h3] at hwc
    have hwc' : xWok η ad N cy pre wc := xWok_moved (Nat.le_refl _) (fun k hk => (had k hk).symm) hwc
    rw [h1, h4, h5, hst]
    have hE2 := hE
    obtain ⟨-, ⟨sa, hstr⟩, hU, hN⟩ := hE2
    obtain ⟨w1, w2, -⟩ := xzWd
    refine xzThrow (cc := cX11_row) (sa := sa) (A := va_A ws s.heap.size) hx hb hl hown (hts _ (List.mem_cons_of_mem _ w1)) (hts _ (List.mem_cons_of_mem _ w2)) hstr ?_ (List.all_eq_true.mp xzGd) hU hN hS1 (hl'.1.trans hml.symm) (show decode cX11_row 18 = .ok (.new 417, 3) by decide +kernel) (show decode cX11_row 21 = .ok (.dup, 1) by decide +kernel) (show decode cX11_row 22 = .ok (.ldc_w 419, 3) by decide +kernel) (show decode cX11_row 25 = .ok (.invokespecial 421, 3) by decide +kernel) (show decode cX11_row 28 = .ok (.athrow, 1) by decide +kernel) (fun x hx => (hout x hx).elim) (show 5 < 6 by decide) (show 0 + (13 * (2 + 1) + 43) ≤ 82 by decide) (show 0 + 1 ≤ 1 by decide) (show 0 + 6 ≤ 6 by decide) hlocks ?_ hS1.2.2 (by decide) (by decide)
    · intro w hw
      rcases xzOkL_ok xzWs w hw with h | h
      · exact hts _ (List.mem_cons_of_mem _ h)
      · exact xzNg_ok hE w h
    · intro t hal hsz hq
      exact ⟨wc, ⟨hwc', hD2⟩, ⟨rfl, xP_mem.mpr fun q hqm => (xP_mem.mp hP2 q hqm).kept (hq q.1 (xP_mem.mp hP2 q hqm).lt)⟩, Nat.le_trans hS1.1 hsz, fun q g1 g2 => (hq q (Nat.lt_of_lt_of_le g1 hS1.1)).trans (hS1.2.1 q g1 g2)⟩
theorem xOfWH {l : Launch} {y : MethodName} {ws ws' : List Cond} {rm : Room} {Pc : Array Value → State → Prop} {Qc : Array Value → State → Outcome → State → Prop} {mc ms : Nat} {free : Addr → Prop} {cc : ByteArray} {maxL : Nat} {ret : Option FieldType} {hh : List (Nat × Nat × Nat × Nat)}
    (hy : plainName y.cls = true) (hw : ws = Cond.codeWith y cc maxL ret hh :: ws')
    (body : ∀ p e s m args below meth c s₁, BodyLoose p l y (headSpec ws rm) cc maxL ret e s m args below meth c s₁ → c.maxLocals = maxL → Pc args s → W p l e (headSpec ws rm).room s m args below meth c s.heap [] 0 0 (MQ below Qc args s mc ms free) (entryFrame m args maxL)) : Met l y ws rm Pc Qc mc ms free := by
  refine MetFree.of_bodyS (code := cc) (maxLocals := maxL) (ret := ret) hy ?_ ?_
  · intro args s m h hn
    obtain ⟨m9, meth, c, hn9, h1, h2, h3, h4, -, h5, h6, -⟩ := Cond.codeWith_spec (atoms_spec (ws := ws) h _ (by rw [hw]; exact List.mem_cons_self))
    cases hn.symm.trans hn9
    exact ⟨meth, c, h1, h2, h3, h4, h5, h6⟩
  · intro p e s m args below meth c s₁ B hml hP _
    have hh0 : s₁.heap = s.heap := by rw [B.state]; rfl
    obtain ⟨t, a1, o, b1, b2, b3⟩ := body p e s m args below meth c s₁ B hml hP s₁ hh0 (Stand.of_body B)
    exact ⟨t, o, a1, b1, b2, ⟨b3.1, b3.2⟩⟩
theorem xAv3 {η : Nat → Int32} {ad : Nat → Nat} {N k k' : Nat} {iv : xI} : ∀ {av : List Value}, xAll (xOk η ad N) [.inr (.inr (.inl (some k))), .inl iv, .inr (.inr (.inl (some k')))] av → ∃ p0 : Int32, av = [.ref (ad k), .int p0, .ref (ad k')] ∧ xIn iv p0.toInt ∧ k < N ∧ k' < N
  | [v0, v1, v2], h => by
    obtain ⟨⟨h0, rfl⟩, ⟨p0, rfl, h1⟩, ⟨h2, rfl⟩, -⟩ := h
    exact ⟨p0, rfl, h1, h0, h2⟩
  | [], h => h.elim
  | [_], h => h.2.elim
  | [_, _], h => h.2.2.elim
  | _ :: _ :: _ :: _ :: _, h => h.2.2.2.elim
theorem xWs1 {η : Nat → Int32} {ad : Nat → Nat} {N k : Nat} {cy : Nat → ClassId} {fs : List xV} : ∀ {ws : va_W}, xWok η ad N cy [(k, .inl (11, fs))] ws → ∃ vs : List Value, ws = [(ad k, .inr (11, vs))]
  | [(a, .inr (ci, vs))], h => by
    obtain ⟨⟨e1, -, e3, -⟩, -⟩ := h
    dsimp only at e1 e3
    subst e1; subst e3
    exact ⟨vs, rfl⟩
  | [(_, .inl _)], h => h.1.2.2.elim
  | [], h => h.elim
  | _ :: _ :: _, h => h.2.elim
def xLCon (kx ko N : Nat) (fs : List xV) : xCon := (([.inr (.inr (.inl (some kx))), .inl (Int.negSucc 2147483647, Int.ofNat 2147483647), .inr (.inr (.inl (some ko)))], [(kx, .inl (11, fs))], N), (some (.inl (Int.ofNat 1, Int.ofNat 1)), [(kx, .inl (11, fs))], N), (7, 103, 1, 6), [])
def xLW : List Cond := .codeWith yL_row cL_row 4 (some .int) [(0, 8, 11, 13)] :: xBig
set_option maxHeartbeats 4000000 in
theorem xLRow (l : Launch) (hl : l.stackTraces = false) {D : va_G} {cy : Nat → ClassId} {η : Nat → Int32} {ad : Nat → Nat} {sz : Nat} {av : List Value} {ws : va_W} {N kx ko : Nat} {fs : List xV} (n1 n2 : Nat) (hav : xAll (xOk η ad N) (xLCon kx ko N fs).1.1 av) (hws : xWok η ad N cy [(kx, .inl (11, fs))] ws)
    (hr1 : xRwGo [(kx, .inl (11, fs))] N kx (Int.negSucc 2147483647, Int.negSucc 0) n1 = true) (hr2 : xRwGo [(kx, .inl (11, fs))] N kx (Int.ofNat 0, Int.ofNat 2147483647) n2 = true) :
    Met l yL_row xLW (xRm (7, 103, 1, 6)) (xPcX D cy av ws sz) (xQc (xLCon kx ko N fs) D cy η ad ws sz) 1 6 (va_A ws sz) := by
  obtain ⟨p0, rfl, hp0, hk0, hk2⟩ := xAv3 hav
  refine xOfWH (cc := cL_row) (maxL := 4) (ret := some .int) (hh := [(0, 8, 11, 13)]) (by decide +kernel) rfl ?_
  intro p e s m args below meth c s₁ B hml hv
  obtain ⟨rfl, ⟨hsz, hP, hK, hD0, hSS⟩, hE⟩ := hv
  subst hsz
  have hx := B.exec
  have hb := B.bytes
  have hr := B.returns
  have hts := atoms_spec (ws := xLW) B.pre
  have hbig : ∀ w ∈ xBig, w ∈ xLW := fun w h => List.mem_cons_of_mem _ h
  have hown : s.vm.findClass RL = some m.cls := findClass_of_methodNamed B.named
  have htab : c.exceptionTable.toList = tableOf [(0, 8, 11, 13)] := vx_table (x := yL_row) B (hts _ List.mem_cons_self)
  have hS : va_S (va_A ws s.heap.size) s.heap s.heap [] := va_S.rf
  obtain ⟨-, -, w3, w4, w5, w6, w7, w8, -⟩ := xzWd
  have hl0 := lv_entry ([.ref (ad kx), .int p0, .ref (ad ko)]) (n := 4) (Nat.le_of_ble_eq_true rfl)
  rw [lg_entry_eq]
  generalize (lg_sl ([.ref (ad kx), .int p0, .ref (ad ko)]) ++ List.replicate (4 - (lg_sl ([.ref (ad kx), .int p0, .ref (ad ko)])).length) Slot.unset).toArray = ls at hl0 ⊢
  have hl0 : lv_has ls 4 [(0, .ref (ad kx)), (1, .int p0), (2, .ref (ad ko))] := hl0
  refine lv_aload_n hx hb (show decode cL_row 0 = .ok (.aload_n 2, 1) by decide +kernel) rfl (lv_at hl0 2 rfl) ?_
  refine lv_iconst (v := 0) hx hb (show decode cL_row 1 = .ok (.iconst 0, 1) by decide +kernel) (by decide) ?_
  refine lv_aload_n hx hb (show decode cL_row 2 = .ok (.aload_n 0, 1) by decide +kernel) rfl (lv_at hl0 0 rfl) ?_
  refine lv_iload_n hx hb (show decode cL_row 3 = .ok (.iload_n 1, 1) by decide +kernel) rfl (lv_at hl0 1 rfl) ?_
  have hM : vx_Met l yX11_row (xWd xM_X11_row) (xRm (6, 82, 1, 6)) (xPcX D cy [.ref (ad kx), .int p0] ws s.heap.size) (xRQ ws s.heap.size) (xRX D cy η ad N [(kx, .inl (11, fs))] ws s.heap.size) 1 6 (va_A ws s.heap.size) := by
    have hlo : (Int.negSucc 2147483647) ≤ p0.toInt := hp0.1
    have hhi : p0.toInt ≤ Int.ofNat 2147483647 := hp0.2
    by_cases hneg : p0.toInt ≤ -1
    · exact xRow1 l hl n1 (iv := (Int.negSucc 2147483647, Int.negSucc 0)) ⟨⟨hk0, rfl⟩, ⟨p0, rfl, hlo, hneg⟩, trivial⟩ hws hr1
    · exact xRow1 l hl n2 (iv := (Int.ofNat 0, Int.ofNat 2147483647)) ⟨⟨hk0, rfl⟩, ⟨p0, rfl, (show (0 : Int) ≤ p0.toInt by omega), hhi⟩, trivial⟩ hws hr2
  obtain ⟨vs, hvs⟩ := xWs1 hws
  have hrecv := va_recv hK.1 hP (show vwCl[11]? = some (RX11, TX11, 14) from rfl) (show ws[0]? = some (ad kx, .inr (11, vs)) by rw [hvs]; rfl)
  have hrun := vx_runV (p := p) (e := e) (R := (headSpec xLW (xRm (7, 103, 1, 6))).room) (below := below) (meth := meth) (H := s.heap) (locs := []) (cells := 0) (slots := 0) (C := RX11) (b := ad kx) (As := [.int p0]) (rest := [.int 0, .ref (ad ko)]) (g := F0 m 4 ls [.int p0, .ref (ad kx), .int 0, .ref (ad ko)]) (cc := cL_row) (nL := 4) (Ts := xLW) (own := RL) ⟨hx, hb, hml, hown, hts⟩ hM (cwV 1 hts (xGoodIn hbig (fun w hw => by
    unfold wsV at hw
    rcases List.mem_append.mp hw with h | h
    · rcases List.mem_cons.mp h with rfl | h
      · exact w4
      rcases List.mem_cons.mp h with rfl | h
      · exact w5
      rcases List.mem_cons.mp h with rfl | h
      · exact w6
      rcases List.mem_cons.mp h with rfl | h
      · exact w7
      · cases h
    · rcases List.mem_cons.mp h with rfl | h
      · exact w8
      · exact h)) rfl rfl rfl (by decide +kernel) ⟨Nat.le_of_ble_eq_true rfl, Nat.le_of_ble_eq_true rfl⟩) ⟨xBlindX, hrecv, fun U hU hW => ⟨rfl, ⟨by rw [hU], by rw [hU]; exact hP, xKK_warm hW hK, hD0, xSS_warm hW (fun a _ _ => by rw [hU]) (fun _ h => h) hSS⟩, xEx_warm hW (fun a _ _ => by rw [hU]) (fun _ h => h) hE⟩⟩ rfl rfl hl0.1 rfl (lv_room (Nat.le_of_ble_eq_true rfl)) (show decode cL_row 4 = .ok (.invokevirtual 7, 3) by decide +kernel) ⟨Nat.le_of_ble_eq_true rfl, Nat.le_of_ble_eq_true rfl⟩
  refine vx_calll hrun hS (fun q _ h => h) (fun q h => h) (fun q _ h => h) ?_ ?_
  · intro E ce q9 u t H1 locs1 ht hal hpx hbx hsz hkeep hS1 hce hcv hcl
    obtain ⟨hwu, hDu⟩ := hpx
    obtain ⟨rfl, hPu⟩ := hbx
    refine xzCatch (E := xzN) (name := xzN) hown ⟨0, 8, 11, 13⟩ (by rw [htab]; rfl) (by decide) (by decide) (hts _ (hbig _ w3)) (va_Nw.use rfl hE.1.1) hce hcv hcl ?_
    refine lv_astore_n hx hb (show decode cL_row 11 = .ok (.astore_n 3, 1) by decide +kernel) rfl hl0 (by decide) rfl (fun ls' hl' => ?_)
    refine lv_iconst (v := 1) hx hb (show decode cL_row 12 = .ok (.iconst 1, 1) by decide +kernel) (by decide) ?_
    refine W.widen (k := 1) (n := 6) (by decide) (by decide) ?_
    exact W.iret hx hb hr (fun t' ht' _ => ⟨⟨_, ad, u, rfl, fun _ _ => rfl, ⟨1, rfl, by decide, by decide⟩, hwu, by rw [ht', ← ht]; exact hPu, hDu⟩, hS1.F ht'⟩) hS1.2.2 (show decode cL_row 13 = .ok (.ireturn, 1) by decide +kernel)
  · intro r u t H1 locs1 _ _ hpost
    exact hpost.elim
/-- the law's call of row, and on with rec -/
noncomputable def xB49 (con : xCon) (rec : xRec) (pc : Nat) (cur : List xEn) (ls : List (Nat × xV)) (st : List xV) (hp : xH) (nx cs ss : Nat) : Bool := match cur, st with
  | q :: nxt, a3 :: a2 :: a1 :: rest => q.1 == pc && decide (q.2.1 = .invokestatic 222) && q.2.2.1 == 3 && xLeL [a1, a2, a3] con.1.1 && decide (con.1.2.2 = nx) && decide (cs + 1 ≤ 600002) && decide (ss + 6 ≤ 7302232) && decide (xSum rest ≤ 8) && (match xTakeAll con.1.2.1 hp with
    | some hp' => rec (pc + 3) nxt ls (.inl (Int.ofNat 1, Int.ofNat 1) :: rest) (con.1.2.1 ++ hp') nx (cs + 1) (ss + 6)
    | none => false)
  | _, _ => false
section XLB
variable {p : Program} {l : Launch} {e : Env} {s : State} {m : MethodId} {args : Array Value} {below : List Frame} {meth : Method} {c : Code} {Q : State → Prop}
variable {D : va_G} {cy : Nat → ClassId} {η : Nat → Int32} {A : Nat → Prop} {ad0 : Nat → Nat} {nx0 : Nat}
variable {M : xMi} {cons : List xCd} {ts : List xT} {sc : Option (Nat × List xV)} {fin : Bool} {rm : Nat × Nat × Nat × Nat} {rec : xRec}
set_option maxHeartbeats 4000000 in
theorem xB49_ok (hl : l.stackTraces = false) (X : xCx p room_1 s m args meth c code D cy η A R_law lw_tbl ad0 nx0 8 M cons ts sc fin rm) (hE : xEx A s) (I : xIH p l e room_1 s m args below meth c Q D cy η A ad0 nx0 8 M rec) {kx ko N : Nat} {fs : List xV} (n1 n2 : Nat)
    (hr1 : xRwGo [(kx, .inl (11, fs))] N kx (Int.negSucc 2147483647, Int.negSucc 0) n1 = true) (hr2 : xRwGo [(kx, .inl (11, fs))] N kx (Int.ofNat 0, Int.ofNat 2147483647) n2 = true) : xIH p l e room_1 s m args below meth c Q D cy η A ad0 nx0 8 M (xB49 (xLCon kx ko N fs) rec) := by
  obtain ⟨⟨hx, hb, hml, hts, hbig, hown, hK, hA, hSS⟩, hM, -⟩ := X
  intro pc cur ls st hp nx cs ss hcur h ad lsC lv stC H locs had hnx hl' hla hs hR
  unfold xB49 at h
  split at h
  rotate_left
  · cases h
  rename_i q nxt a3 a2 a1 rest
  simp only [Bool.and_eq_true, beq_iff_eq, decide_eq_true_eq] at h
  obtain ⟨⟨⟨⟨⟨⟨⟨⟨h1, h2⟩, h3⟩, h4⟩, h5⟩, h7⟩, h8⟩, h9⟩, h10⟩ := h
  split at h10
  rotate_left
  · cases h10
  rename_i hp' htk
  obtain ⟨v3, v2, t1, rfl, g3, g2, gt⟩ := xSt2 hs
  obtain ⟨v1, restC, rfl, g1, gt⟩ := xSt1 gt
  have has : xAll (xOk η ad nx) (xLCon kx ko N fs).1.1 [v1, v2, v3] := xLeL_ok h4 ⟨g1, g2, g3, trivial⟩
  have h5 : N = nx := h5
  subst h5
  obtain ⟨ws, hw, hP, hD, hS⟩ := hR
  obtain ⟨wc, wr, hperm, hwc, hwr⟩ := xTakeAll_ok hw htk
  have hP := xP_perm hP hperm
  have hD := xD_perm hD hperm
  have hMet := xLRow l hl (D := D) (cy := cy) (η := η) (ad := ad) (sz := H.size) n1 n2 has hwc hr1 hr2
  have hfr : ∀ q, va_A wc H.size q → A q := by
    intro q h
    rcases h with ⟨k, x, h⟩ | h
    · exact (xD_mem.mp hD).2 (q, x) (List.mem_append_left _ (List.mem_of_getElem? h))
    · exact hA q (Nat.le_trans hS.1 h)
  have hpc : ∀ U : State, U.heap = H → s.WarmedH U.vm → xPcX D cy [v1, v2, v3] wc H.size ([v1, v2, v3] : List Value).toArray U := fun U hU hW => ⟨rfl, ⟨by rw [hU], by rw [hU]; exact xP_mem.mpr fun q hq => xP_mem.mp hP q (List.mem_append_left _ hq), xKK_warm hW hK, xD_mem.mpr ⟨(List.nodup_append.mp (by have := (xD_mem.mp hD).1; rw [List.map_append] at this; exact this)).1, fun _ _ => trivial⟩, xSS_warm hW (fun a z1 z2 => by rw [hU]; exact hS.2.1 a z1 z2) hfr hSS⟩, xEx_warm hW (fun a z1 z2 => by rw [hU]; exact hS.2.1 a z1 z2) hfr hE⟩
  obtain ⟨d1, -, -⟩ := hM.1 q (hcur q List.mem_cons_self)
  have hdg : decode code pc = .ok (.invokestatic 222, 3) := by rw [← h1, d1, h2, h3]
  obtain ⟨-, -, -, -, -, -, -, -, w9, w10, w11, w12⟩ := xzWd
  have hrun := vx_runSW (p := p) (e := e) (R := room_1) (s := s) (below := below) (meth := meth) (H := H) (locs := locs) (cells := cs) (slots := ss) (hh := [(0, 8, 11, 13)]) (bytes := cL_row) (maxL := 4) (ret := some .int) (As := [v1, v2, v3]) (rest := restC) (g := F0 m pc lsC ([v1, v2, v3].reverse ++ restC)) (cc := code) (nL := 8) (Ts := lw_tbl) (own := R_law) (index := 222) (n := 3) ⟨hx, hb, hml, hown, hts⟩ hMet (vx_cwSW 3 hts (xGoodIn hbig (fun w hw => by
    unfold va_wsS at hw
    rcases List.mem_append.mp hw with h | h
    · rcases List.mem_cons.mp h with rfl | h
      · exact w9
      rcases List.mem_cons.mp h with rfl | h
      · exact w10
      rcases List.mem_cons.mp h with rfl | h
      · exact w11
      · cases h
    · rcases List.mem_cons.mp h with rfl | h
      · exact w12
      · exact h)) rfl rfl rfl (by decide +kernel) ⟨by decide, by decide⟩) ⟨xBlindX, hpc⟩ rfl rfl hl'.1 rfl (lv_room (by rw [xSum_ok gt]; exact h9)) hdg ⟨Nat.le_trans h7 (by decide), Nat.le_trans h8 (by decide)⟩
  refine xc_call hrun hS hfr (fun st v t hq => hq.2) (fun v st t locs1 hst hqc hS1 => ?_)
  obtain ⟨⟨r, ad', ws', hr, had', hret, hw', hP', hD'⟩, hF⟩ := hqc
  cases hr
  obtain ⟨hz, hk⟩ := hF
  rw [hst] at hz hk
  obtain ⟨hP1, hD1⟩ := xJoin (H0 := s.heap) hP hD hS hA hk hP' hD'
  cases v with
  | none => exact (show False from hret).elim
  | some v => exact I _ _ _ _ _ _ _ _ (fun z hz => hcur z (List.mem_cons_of_mem _ hz)) h10 ad' lsC lv _ t.heap locs1 (fun k hk => (had' k (Nat.lt_of_lt_of_le hk hnx)).trans (had k hk)) hnx hl' (xLs_moved (Nat.le_refl _) had' hla) ⟨hret, xAll_moved (Nat.le_refl _) had' gt⟩ ⟨ws' ++ wr, xAll_app hw' (xWok_moved (Nat.le_refl _) had' hwr), hP1, hD1, hS1⟩
end XLB
set_option maxHeartbeats 4000000 in
/-- the law's case of row -/
theorem xLaw49 {p : Program} {e : Env} {s : State} {m : MethodId} {below : List Frame} {meth : Method} {c : Code} (l : Launch) (hls : l.stackTraces = false) {b L : Nat} {xs : Nat → Int32} (C0 : lw_At p s m meth c b L xs) {Mi : xMi} {cons : List xCd} {ts : List xT} {sc : List xV} (η : Nat → Int32) (n n2 m1 m2 : Nat) {kx ko N : Nat} {fs : List xV} (hM : xMok R_law code Mi) (hC : xConOk R_law cons) (ht : xTok η ts) (hL : sc.length = L) (hv : ∀ (j : Nat) (a : xV), sc[j]? = some a → ∀ (ad : Nat → Nat) (N : Nat), xOk η ad N a (.int (xs j)))
    (hr1 : xRwGo [(kx, .inl (11, fs))] N kx (Int.negSucc 2147483647, Int.negSucc 0) m1 = true) (hr2 : xRwGo [(kx, .inl (11, fs))] N kx (Int.ofNat 0, Int.ofNat 2147483647) m2 = true)
    (hrun : xRunB (xB49 (xLCon kx ko N fs) (xRun Mi cons ts (some (0, sc)) false xRm1 8 xLck n2)) Mi cons ts (some (0, sc)) false xRm1 8 xLck n 0 Mi.1 [(0, .inr (.inr (.inl (some 0))))] [] [] 1 0 0 = true) : W p l e room_1 s m #[Value.ref b] below meth c s.heap [] 0 0 (lw_Z below #[Value.ref b] s) (entryFrame m ([Value.ref b] : List Value).toArray 8) := by
  obtain ⟨hx, hb, hr, hml, hown, hts, hX, hbl, hlocks, hg⟩ := C0
  obtain ⟨D, cy, hK⟩ := xKK_law hts
  have hSS := xSS_law hts hg
  have hE := xEx_law hts hg
  have hl := lv_entry ([.ref b]) (n := 8) (Nat.le_of_ble_eq_true rfl)
  rw [lg_entry_eq]
  have X : xCx p room_1 s m #[Value.ref b] meth c code D cy η (fun q => s.heap.size ≤ q) R_law lw_tbl (fun _ => b) 1 8 Mi cons ts (some (0, sc)) false xRm1 :=
    ⟨⟨hx, hb, hml, hts, fun w h => xBigL h, hown, hK, fun q h => h, hSS⟩, hM, hC, ht, (fun z hz => by cases hz; exact ⟨(show (0 : Nat) < 1 by decide), L, xs, hX, hbl, (show ¬ s.heap.size ≤ b by omega), hL, hv⟩), (fun h => by cases h), by decide, by decide, by decide, by decide⟩
  have hret : xRetOk p l e room_1 s m #[Value.ref b] below meth c (lw_Z below #[Value.ref b] s) code D cy η (fun q => s.heap.size ≤ q) (fun _ => b) 1 xLck := by
    intro ins o v hp nx cs ss ad' lsC H locs pc hrk hio hdg hchk had hnx' hret hR
    simp only [xLck, Bool.and_eq_true, decide_eq_true_eq] at hchk
    obtain ⟨⟨h1, h2⟩, h3⟩ := hchk
    subst h1
    obtain ⟨ws1, hw1, hP1, hD1, hS1⟩ := hR
    cases v with
    | none => exact hret.elim
    | some v =>
      obtain ⟨x, rfl, x1, x2⟩ := hret
      have hx1 : x = 1 := Int32.toInt_inj.mp (by
        have e1 : (1 : Int32).toInt = 1 := rfl
        rw [e1]
        have y1 : (1 : Int) ≤ x.toInt := x1
        have y2 : x.toInt ≤ (1 : Int) := x2
        omega)
      subst hx1
      rcases hio with ⟨-, h⟩ | ⟨a, ha, hk⟩
      · cases h
      · cases ha
        rcases xRk_eq (k := 0) hk (by decide) with ⟨-, rfl⟩ | ⟨q, -⟩ | ⟨q, -⟩ | ⟨q, -⟩
        · refine W.widen (k := 600002) (n := 7302232) h2 h3 (va_forget hS1.2.2 ?_)
          exact lw_ret hx hb hr hlocks hdg
        · cases q
        · cases q
        · cases q
  exact xRunB_ok (below := below) (l := l) (e := e) (Q := lw_Z below #[Value.ref b] s) (chk := xLck) X hret (xB49_ok hls X hE (xRun_ok X hret n2) m1 m2 hr1 hr2) n 0 Mi.1 _ _ _ _ _ _ (fun _ h => h) hrun (fun _ => b) _ _ [] s.heap [] (fun _ _ => rfl) (Nat.le_refl _) hl ⟨⟨rfl, by decide, rfl⟩, trivial⟩ trivial ⟨[], trivial, fun k q h => by simp at h, ⟨fun i j p q h => by simp at h, fun k q h => by simp at h⟩, va_S.rf⟩
theorem xBr49 {Mi : xMi} {cons : List xCd} {kx ko N : Nat} {fs : List xV} (n n2 m1 m2 : Nat) (hM : xMok R_law code Mi) (hC : xConOk R_law cons)
    (hr1 : xRwGo [(kx, .inl (11, fs))] N kx (Int.negSucc 2147483647, Int.negSucc 0) m1 = true) (hr2 : xRwGo [(kx, .inl (11, fs))] N kx (Int.ofNat 0, Int.ofNat 2147483647) m2 = true)
    (hrun : xRunB (xB49 (xLCon kx ko N fs) (xRun Mi cons [(3, .inr (.inr (.inr 0)), .inl (Int.ofNat 63, Int.ofNat 63), .inl (49, 49))] (some (0, .inr (.inr (.inr 0)) :: [zT, zT, zT, zT, zT])) false xRm1 8 xLck n2)) Mi cons [(3, .inr (.inr (.inr 0)), .inl (Int.ofNat 63, Int.ofNat 63), .inl (49, 49))] (some (0, .inr (.inr (.inr 0)) :: [zT, zT, zT, zT, zT])) false xRm1 8 xLck n 0 Mi.1 [(0, .inr (.inr (.inl (some 0))))] [] [] 1 0 0 = true)
    (p : Program) (l : Launch) (hls : l.stackTraces = false) (e : Env) (s : State) (m : MethodId) (below : List Frame) (meth : Method) (c : Code) (b : Nat) (xs : Nat → Int32) (C0 : lw_At p s m meth c b 6 xs) (hop : (xs 0 &&& 63).toInt = 49) : W p l e room_1 s m #[Value.ref b] below meth c s.heap [] 0 0 (lw_Z below #[Value.ref b] s) (entryFrame m ([Value.ref b] : List Value).toArray 8) := by
  refine xLaw49 l hls C0 (fun k => xs k) n n2 m1 m2 hM hC ?_ rfl ?_ hr1 hr2 hrun
  · intro t ht ad N x y h1 h2
    rcases List.mem_cons.mp ht with rfl | h
    · have h1 : Value.int x = .int (xs 0) := h1
      cases h1
      obtain ⟨y', e1, y1, y2⟩ := h2
      cases e1
      have hy : y = 63 := Int32.toInt_inj.mp (by
        have e1 : (63 : Int32).toInt = 63 := rfl
        rw [e1]
        have z1 : (63 : Int) ≤ y.toInt := y1
        have z2 : y.toInt ≤ (63 : Int) := y2
        omega)
      subst hy
      exact ⟨_, rfl, by show (49 : Int) ≤ (xs 0 &&& 63).toInt; omega, by show (xs 0 &&& 63).toInt ≤ (49 : Int); omega⟩
    · cases h
  · intro j a h ad N
    match j, h with
    | 0, h => cases h; rfl
    | 1, h => cases h; exact ⟨_, rfl, xFull _⟩
    | 2, h => cases h; exact ⟨_, rfl, xFull _⟩
    | 3, h => cases h; exact ⟨_, rfl, xFull _⟩
    | 4, h => cases h; exact ⟨_, rfl, xFull _⟩
    | 5, h => cases h; exact ⟨_, rfl, xFull _⟩
    | _ + 6, h => cases h

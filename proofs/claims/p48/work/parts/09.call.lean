/-! new cells, contracts, calls -/
abbrev xM : Type := MethodName × ByteArray × Nat × Option FieldType
abbrev xCon : Type := (List xV × xH × Nat) × (Option xV × xH × Nat) × (Nat × Nat × Nat × Nat) × List xT
def xRm (q : Nat × Nat × Nat × Nat) : Room := { frames := q.1, cells := q.2.2.1, slots := q.2.2.2, locals := q.2.1 }
def xWd (M : xM) : List Cond := .code M.1 M.2.1 M.2.2.1 M.2.2.2 :: xBig
def xPc (D : va_G) (cy : Nat → ClassId) (ad : Nat → Nat) (av : List Value) (ws : va_W) (sz : Nat) : Array Value → State → Prop := va_Pc av (fun U => U.heap.size = sz ∧ va_P D vwCl ws U.heap ∧ xKK D cy U ∧ va_D (fun _ => True) ws ∧ xSS ad (va_A ws sz) U)
def xRet (η : Nat → Int32) (ad : Nat → Nat) (N : Nat) : Option xV → Option Value → Prop
  | none, none => True
  | some a, some v => xOk η ad N a v
  | none, some _ => False
  | some _, none => False
def xQc (con : xCon) (D : va_G) (cy : Nat → ClassId) (η : Nat → Int32) (ad : Nat → Nat) (ws : va_W) (sz : Nat) : Array Value → State → Outcome → State → Prop := fun _ st oc t =>
  (∃ (r : Option Value) (ad' : Nat → Nat) (ws' : va_W), oc = .returned r ∧ (∀ k, k < con.1.2.2 → ad' k = ad k) ∧ xRet η ad' con.2.1.2.2 con.2.1.1 r ∧ xWok η ad' con.2.1.2.2 cy con.2.1.2.1 ws' ∧ va_P D vwCl ws' t.heap ∧ va_D (va_A ws sz) ws') ∧ va_F (va_A ws sz) st t
def xBdV (n : Nat) : xV → Bool
  | .inr (.inr (.inl (some k))) => decide (k < n)
  | _ => true
def xBdE (n : Nat) : xE → Bool
  | .inl o => o.2.all (xBdV n)
  | .inr (_, _, d, ov) => xBdV n d && ov.all (fun q => xBdV n q.2)
def xBd (con : xCon) : Bool := con.1.1.all (xBdV con.1.2.2) && con.1.2.1.all (fun q => decide (q.1 < con.1.2.2) && xBdE con.1.2.2 q.2)
def xHolds (M : xM) (con : xCon) : Prop := xBd con = true ∧ ∀ (l : Launch) (D : va_G) (cy : Nat → ClassId) (η : Nat → Int32) (ad : Nat → Nat) (sz : Nat) (av : List Value) (ws : va_W), xTok η con.2.2.2 → xAll (xOk η ad con.1.2.2) con.1.1 av → xWok η ad con.1.2.2 cy con.1.2.1 ws →
  Met l M.1 (xWd M) (xRm con.2.2.1) (xPc D cy ad av ws sz) (xQc con D cy η ad ws sz) con.2.2.1.2.2.1 con.2.2.1.2.2.2 (va_A ws sz)
theorem xBdV_ok {η : Nat → Int32} {ad : Nat → Nat} {N n : Nat} {a : xV} {v : Value} (h : xBdV n a = true) (g : xOk η ad N a v) : xOk η ad n a v := by
  rcases a with i | i | k | j
  · exact g
  · exact g
  · cases k with
    | none => exact g
    | some k => exact ⟨by simpa [xBdV] using h, g.2⟩
  · exact g
theorem xBdL_ok {η : Nat → Int32} {ad : Nat → Nat} {N n : Nat} : ∀ {as : List xV} {vs : List Value}, as.all (xBdV n) = true → xAll (xOk η ad N) as vs → xAll (xOk η ad n) as vs
  | [], [], _, _ => trivial
  | a :: as, v :: vs, h, g => by
    simp only [List.all_cons, Bool.and_eq_true] at h
    exact ⟨xBdV_ok h.1 g.1, xBdL_ok h.2 g.2⟩
  | [], _ :: _, _, g => g.elim
  | _ :: _, [], _, g => g.elim
theorem xBdA_ok {n : Nat} {d : xV} (hd : xBdV n d = true) : ∀ {ov : List (Nat × xV)} (i : Nat), ov.all (fun q => xBdV n q.2) = true → xBdV n (xAt d ov i) = true
  | [], _, _ => hd
  | q :: r, i, h => by
    simp only [List.all_cons, Bool.and_eq_true] at h
    unfold xAt
    by_cases hq : (q.1 == i) = true
    · rw [hq, cond_true]; exact h.1
    · rw [show (q.1 == i) = false by simpa using hq, cond_false]; exact xBdA_ok hd i h.2
theorem xBdE_ok {η : Nat → Int32} {ad : Nat → Nat} {N n : Nat} {cy : Nat → ClassId} : ∀ {a : xE} {v : va_E}, xBdE n a = true → xEok η ad N cy a v → xEok η ad n cy a v
  | .inl o, .inr o', h, g => ⟨g.1, xBdL_ok h g.2⟩
  | .inr (t, m, d, ov), .inl (cA, n', a), h, g => by
    simp only [xBdE, Bool.and_eq_true] at h
    obtain ⟨h1, h2, h3, h4, h5, h6⟩ := g
    refine ⟨h1, h2, h3, fun e => ?_, fun e => ?_, fun e => ?_⟩
    · obtain ⟨f, e1, e2⟩ := h4 e
      exact ⟨f, e1, fun i hi => xBdV_ok (xBdA_ok h.1 i h.2) (e2 i hi)⟩
    · obtain ⟨f, e1, e2⟩ := h5 e
      exact ⟨f, e1, fun i hi => xBdV_ok (xBdA_ok h.1 i h.2) (e2 i hi)⟩
    · obtain ⟨f, e1, e2⟩ := h6 e
      exact ⟨f, e1, fun i hi => xBdV_ok (xBdA_ok h.1 i h.2) (e2 i hi)⟩
  | .inl _, .inl _, _, g => g.elim
  | .inr _, .inr _, _, g => g.elim
theorem xBdW_ok {η : Nat → Int32} {ad : Nat → Nat} {N n : Nat} {cy : Nat → ClassId} : ∀ {hp : xH} {ws : va_W}, hp.all (fun q => decide (q.1 < n) && xBdE n q.2) = true → xWok η ad N cy hp ws → xWok η ad n cy hp ws
  | [], [], _, _ => trivial
  | a :: as, v :: vs, h, g => by
    simp only [List.all_cons, Bool.and_eq_true, decide_eq_true_eq] at h
    exact ⟨⟨g.1.1, h.1.1, xBdE_ok h.1.2 g.1.2.2⟩, xBdW_ok (by simpa using h.2) g.2⟩
  | [], _ :: _, _, g => g.elim
  | _ :: _, [], _, g => g.elim
/-- a call by its place in the pool: (index, kind, how many parameters, the method, the receiver's class of the worlds) -/
abbrev xCl : Type := Nat × Nat × Nat × xM × Nat
def xCok (own : String) (q : xCl) : Prop :=
  (Cond.code q.2.2.2.1.1 q.2.2.2.1.2.1 q.2.2.2.1.2.2.1 q.2.2.2.1.2.2.2 ∈ xBig ∧ Cond.initialized q.2.2.2.1.1.cls ∈ xBig ∧ (q.2.2.2.1.1.cls ≠ "java/lang/invoke/MethodHandle" ∧ q.2.2.2.1.1.cls ≠ "java/lang/invoke/VarHandle" ∧ (parseMethodDescriptor q.2.2.2.1.1.desc).map (fun d => d.parameters.length) = some q.2.2.1)) ∧
  (q.2.1 = 0 → Cond.methodLink own q.1 q.2.2.2.1.1 ∈ xBig ∧ Cond.instanceMethod q.2.2.2.1.1 ∈ xBig ∧ Cond.selects q.2.2.2.1.1.cls q.2.2.2.1.1 q.2.2.2.1.1 ∈ xBig ∧ ∃ r, vwCl[q.2.2.2.2]? = some r ∧ r.1 = q.2.2.2.1.1.cls) ∧
  (q.2.1 = 1 → Cond.methodLink own q.1 q.2.2.2.1.1 ∈ xBig ∧ Cond.static q.2.2.2.1.1 ∈ xBig) ∧
  (q.2.1 = 2 → Cond.methodLink own q.1 q.2.2.2.1.1 ∈ xBig ∧ Cond.instanceMethod q.2.2.2.1.1 ∈ xBig ∧ q.2.2.2.1.1.name = "<init>" ∧ q.2.2.2.1.2.2.2 = none) ∧
  (q.2.1 = 4 → (own, q.1, q.2.2.2.1.1, "FinedBySight") ∈ xNest ∧ Cond.static q.2.2.2.1.1 ∈ xBig) ∧
  (q.2.1 = 5 → (own, q.1, q.2.2.2.1.1, "FinedBySight") ∈ xNest ∧ Cond.instanceMethod q.2.2.2.1.1 ∈ xBig ∧ q.2.2.2.1.1.name = "<init>" ∧ q.2.2.2.1.2.2.2 = none)
def xCokB (own : String) (i : List Nat) (q : xCl) : Bool :=
  xHas (i.getD 0 0) (.code q.2.2.2.1.1 q.2.2.2.1.2.1 q.2.2.2.1.2.2.1 q.2.2.2.1.2.2.2) && xHas (i.getD 1 0) (.initialized q.2.2.2.1.1.cls) && decide (q.2.2.2.1.1.cls ≠ "java/lang/invoke/MethodHandle") && decide (q.2.2.2.1.1.cls ≠ "java/lang/invoke/VarHandle") && decide ((parseMethodDescriptor q.2.2.2.1.1.desc).map (fun d => d.parameters.length) = some q.2.2.1) && (match q.2.1 with
    | 0 => xHas (i.getD 2 0) (.methodLink own q.1 q.2.2.2.1.1) && xHas (i.getD 3 0) (.instanceMethod q.2.2.2.1.1) && xHas (i.getD 4 0) (.selects q.2.2.2.1.1.cls q.2.2.2.1.1 q.2.2.2.1.1) && (match vwCl[q.2.2.2.2]? with | some r => decide (r.1 = q.2.2.2.1.1.cls) | none => false)
    | 1 => xHas (i.getD 2 0) (.methodLink own q.1 q.2.2.2.1.1) && xHas (i.getD 3 0) (.static q.2.2.2.1.1)
    | 2 => xHas (i.getD 2 0) (.methodLink own q.1 q.2.2.2.1.1) && xHas (i.getD 3 0) (.instanceMethod q.2.2.2.1.1) && decide (q.2.2.2.1.1.name = "<init>") && decide (q.2.2.2.1.2.2.2 = none)
    | 4 => decide ((own, q.1, q.2.2.2.1.1, "FinedBySight") ∈ xNest) && xHas (i.getD 3 0) (.static q.2.2.2.1.1)
    | 5 => decide ((own, q.1, q.2.2.2.1.1, "FinedBySight") ∈ xNest) && xHas (i.getD 3 0) (.instanceMethod q.2.2.2.1.1) && decide (q.2.2.2.1.1.name = "<init>") && decide (q.2.2.2.1.2.2.2 = none)
    | _ => false)
theorem xCokB_ok {own : String} {i : List Nat} {q : xCl} (h : xCokB own i q = true) : xCok own q := by
  unfold xCokB at h
  simp only [Bool.and_eq_true, decide_eq_true_eq] at h
  obtain ⟨⟨⟨⟨⟨h1, h2⟩, h3⟩, h4⟩, h5⟩, h6⟩ := h
  refine ⟨⟨xHas_ok h1, xHas_ok h2, h3, h4, h5⟩, fun e => ?_, fun e => ?_, fun e => ?_, fun e => ?_, fun e => ?_⟩ <;> rw [e] at h6 <;> simp only [Bool.and_eq_true, decide_eq_true_eq] at h6
  · obtain ⟨⟨⟨g1, g2⟩, g3⟩, g4⟩ := h6
    split at g4
    · rename_i r hr
      exact ⟨xHas_ok g1, xHas_ok g2, xHas_ok g3, r, hr, by simpa using g4⟩
    · cases g4
  · exact ⟨xHas_ok h6.1, xHas_ok h6.2⟩
  · exact ⟨xHas_ok h6.1.1.1, xHas_ok h6.1.1.2, h6.1.2, h6.2⟩
  · exact ⟨h6.1, xHas_ok h6.2⟩
  · exact ⟨h6.1.1.1, xHas_ok h6.1.1.2, h6.1.2, h6.2⟩
section XCA
variable {p : Program} {l : Launch} {e : Env} {R : Room} {s : State} {m : MethodId} {args : Array Value} {below : List Frame} {meth : Method} {c : Code} {H : Heap} {locs : List Loc} {cells slots : Nat} {Q : State → Prop}
variable {cc : ByteArray} {pc : Nat} {ls : Array Slot} {rest : List Value} {D : va_G} {cy : Nat → ClassId} {η : Nat → Int32} {ad : Nat → Nat} {N : Nat} {A : Nat → Prop} {H0 : Heap} {hp : xH} {own : String} {Ts : List Cond}
theorem xc_call {st0 : List Value} {mc ms : Nat} {Qa : State → Outcome → State → Prop} {free : Addr → Prop} (hr : va_Run p l e R s m args below meth c H locs cells slots mc ms (F0 m pc ls st0) rest Qa free) (hS : va_S A H0 H locs) (hf : ∀ q, free q → A q) (hF : ∀ st v t, Qa st (.returned v) t → va_F free st t)
    (kk : ∀ (v : Option Value) (st t : State) (locs1 : List Loc), st.heap = H → Qa st (.returned v) t → va_S A H0 t.heap locs1 → W p l e R s m args below meth c t.heap locs1 (cells + mc) (slots + ms) Q (F0 m (pc + 3) ls (v.toList ++ rest))) : W p l e R s m args below meth c H locs cells slots Q (F0 m pc ls st0) := by
  intro T hT X
  obtain ⟨v, st₀, t, T', L, h0, X', hL, e1, e2, hq, st⟩ := hr T hT X
  obtain ⟨hz, hk⟩ := hF _ _ _ hq
  rw [h0] at hz hk
  obtain ⟨t2, a1, b1⟩ := kk v st₀ t (locs ++ L) h0 hq ⟨Nat.le_trans hS.1 hz, fun q h1 h2 => (hk q (Nat.lt_of_lt_of_le h1 hS.1) (fun z => h2 (hf q z))).trans (hS.2.1 q h1 h2), fun q hq => (List.mem_append.mp hq).elim (hS.2.2 q) (fun h => hf _ (hL q h))⟩ T' e1 X'
  exact ⟨t2, st t2 a1, b1⟩
theorem xBlind {av : List Value} {ws : va_W} {sz : Nat} : FrameBlind (xPc D cy ad av ws sz) := fun a U g mk q => by
  obtain ⟨q0, q1, qP, qK, qD, qS⟩ := q
  exact ⟨q0, q1, qP, xKK_calling qK, qD, xSS_calling qS⟩
theorem xPerm_cons {α : Type} {a : α} {l : List α} : (l ++ [a]).Perm (a :: l) := List.perm_append_comm
/-- the callee's cells changed, the others as they were -/
theorem xJoin {wc wr ws' : va_W} {H1 : Heap} (hP : va_P D vwCl (wc ++ wr) H) (hD : va_D A (wc ++ wr)) (hS : va_S A H0 H locs) (hA : ∀ q, H0.size ≤ q → A q) (hk : ∀ q : Nat, q < H.size → ¬ va_A wc H.size q → H1[q]? = H[q]?) (hP' : va_P D vwCl ws' H1) (hD' : va_D (va_A wc H.size) ws') : va_P D vwCl (ws' ++ wr) H1 ∧ va_D A (ws' ++ wr) := by
  have hP := xP_mem.mp hP
  have hD := xD_mem.mp hD
  have hD' := xD_mem.mp hD'
  rw [List.map_append] at hD
  obtain ⟨n1, n2, n3⟩ := List.nodup_append.mp hD.1
  have off : ∀ q ∈ wr, ¬ va_A wc H.size q.1 := by
    intro q hq h
    rcases h with ⟨k, x, h⟩ | h
    · exact n3 q.1 (List.mem_map.mpr ⟨(q.1, x), List.mem_of_getElem? h, rfl⟩) q.1 (List.mem_map.mpr ⟨q, hq, rfl⟩) rfl
    · have := (hP q (List.mem_append_right _ hq)).lt
      omega
  have fr : ∀ q, va_A wc H.size q → A q := by
    intro q h
    rcases h with ⟨k, x, h⟩ | h
    · exact hD.2 (q, x) (List.mem_append_left _ (List.mem_of_getElem? h))
    · exact hA q (Nat.le_trans hS.1 h)
  refine ⟨xP_mem.mpr fun q hq => ?_, xD_mem.mpr ⟨?_, fun q hq => ?_⟩⟩
  · rcases List.mem_append.mp hq with h | h
    · exact xP_mem.mp hP' q h
    · exact (hP q (List.mem_append_right _ h)).kept (hk q.1 (hP q (List.mem_append_right _ h)).lt (off q h))
  · rw [List.map_append]
    refine List.nodup_append.mpr ⟨hD'.1, n2, fun a ha b hb hab => ?_⟩
    obtain ⟨q, hq, rfl⟩ := List.mem_map.mp ha
    obtain ⟨r, hr, rfl⟩ := List.mem_map.mp hb
    exact off r hr (by rw [← hab]; exact hD'.2 q hq)
  · rcases List.mem_append.mp hq with h | h
    · exact fr _ (hD'.2 q h)
    · exact hD.2 q (List.mem_append_right _ h)
/-- a call by contract -/
theorem xCall_W {con : xCon} {q : xCl} {ins : Instr} {nL : Nat} (hx : p.tables.exec = Jvm.exec) (hb : c.code = cc) (hml : c.maxLocals = nL) (hls : ls.size = nL) (hts : ∀ w ∈ Ts, w.before args s = true) (hbig : ∀ w ∈ xBig, w ∈ Ts) (hown : s.vm.findClass own = some m.cls) (hK : xKK D cy s) (hA : ∀ q, H0.size ≤ q → A q) (hSS : xSS ad A s) (hH0 : H0 = s.heap) (hR : xRel D cy η ad N A H0 hp H locs)
    (hq : xCok own q) (hh : xHolds q.2.2.2.1 con) (ht : xTok η con.2.2.2) {hp' : xH} (htk : xTakeAll con.1.2.1 hp = some hp') {as : List Value} (has : xAll (xOk η ad N) con.1.1 as) (hN : (con.1.2.2 = N ∧ N ≤ con.2.1.2.2) ∨ (con.1.2.2 = con.2.1.2.2 ∧ con.1.2.2 ≤ N))
    (hroom : con.2.2.1.1 + 1 ≤ R.frames ∧ 8 + (q.2.2.2.1.2.2.1 + 11) + con.2.2.1.2.1 ≤ R.locals) (hcs : cells + con.2.2.1.2.2.1 ≤ R.cells ∧ slots + con.2.2.1.2.2.2 ≤ R.slots) (hrest : (rest.map fun v => v.category).sum ≤ 8)
    (hins : (q.2.1 = 0 ∧ ins = .invokevirtual q.1 ∧ as.length = q.2.2.1 + 1 ∧ ∃ (k : Nat) (avs : List xV), as.head? = some (.ref (ad k)) ∧ xGet k hp = some (.inl (q.2.2.2.2, avs))) ∨ ((q.2.1 = 1 ∨ q.2.1 = 4) ∧ ins = .invokestatic q.1 ∧ as.length = q.2.2.1) ∨ ((q.2.1 = 2 ∨ q.2.1 = 5) ∧ ins = .invokespecial q.1 ∧ as.length = q.2.2.1 + 1 ∧ ∃ k : Nat, as.head? = some (.ref k)))
    (hdg : decode cc pc = .ok (ins, 3))
    (kk : ∀ (ad' : Nat → Nat) (v : Option Value) (H1 : Heap) (locs1 : List Loc), (∀ k, k < N → ad' k = ad k) → xRet η ad' (max N con.2.1.2.2) con.2.1.1 v → xRel D cy η ad' (max N con.2.1.2.2) A H0 (con.2.1.2.1 ++ hp') H1 locs1 → W p l e R s m args below meth c H1 locs1 (cells + con.2.2.1.2.2.1) (slots + con.2.2.1.2.2.2) Q (F0 m (pc + 3) ls (v.toList ++ rest))) : W p l e R s m args below meth c H locs cells slots Q (F0 m pc ls (as.reverse ++ rest)) := by
  obtain ⟨ws, hw, hP, hD, hS⟩ := hR
  obtain ⟨wc, wr, hperm, hwc, hwr⟩ := xTakeAll_ok hw htk
  have hP0 := hP
  have hP := xP_perm hP hperm
  have hD := xD_perm hD hperm
  obtain ⟨⟨hbd, hM⟩, hbase, k0, k1, k2, k4, k5⟩ := And.intro hh hq
  simp only [xBd, Bool.and_eq_true] at hbd
  have hM := hM l D cy η ad H.size as wc ht (xBdL_ok hbd.1 has) (xBdW_ok hbd.2 hwc)
  have hfr : ∀ q, va_A wc H.size q → A q := by
    intro q h
    rcases h with ⟨k, x, h⟩ | h
    · exact (xD_mem.mp hD).2 (q, x) (List.mem_append_left _ (List.mem_of_getElem? h))
    · exact hA q (Nat.le_trans hS.1 h)
  have hpc : ∀ U : State, U.heap = H → s.WarmedH U.vm → xPc D cy ad as wc H.size as.toArray U := fun U hU hW => ⟨rfl, by rw [hU], by rw [hU]; exact xP_mem.mpr fun q hq => xP_mem.mp hP q (List.mem_append_left _ hq), xKK_warm hW hK, xD_mem.mpr ⟨(List.nodup_append.mp (by have := (xD_mem.mp hD).1; rw [List.map_append] at this; exact this)).1, fun _ _ => trivial⟩, xSS_warm hW (fun a h1 h2 => by rw [hU]; exact hS.2.1 a (by rw [hH0]; exact h1) h2 |>.trans (by rw [hH0])) hfr hSS⟩
  have hG : ∀ w ∈ xWd q.2.2.2.1, w ∈ xBig := fun w hw => (List.mem_cons.mp hw).elim (fun e => by rw [e]; exact hbase.1) id
  have hroom' : (xRm con.2.2.1).frames + 1 ≤ R.frames ∧ 8 + (q.2.2.2.1.2.2.1 + 11) + (xRm con.2.2.1).locals ≤ R.locals := hroom
  have word : ∀ {w : Cond}, w ∈ xBig → w.before args s = true := fun h => hts _ (hbig _ h)
  have hrun : va_Run p l e R s m args below meth c H locs cells slots con.2.2.1.2.2.1 con.2.2.1.2.2.2 (F0 m pc ls (as.reverse ++ rest)) rest (xQc con D cy η ad wc H.size as.toArray) (va_A wc H.size) := by
    have fix : CallFix p m c cc nL s args Ts own := ⟨hx, hb, hml, hown, hts⟩
    rcases hins with ⟨hk, rfl, hl, k, avs, hhd, hget⟩ | ⟨hk, rfl, hl⟩ | ⟨hk, rfl, hl, k, hhd⟩
    · obtain ⟨g1, g2, g3, r, g4, g5⟩ := k0 hk
      cases as with
      | nil => cases hhd
      | cons a As =>
        cases hhd
        have hl' : As.length = q.2.2.1 := by simpa using hl
        obtain ⟨i, x, e1, e2⟩ := xGet_ok hw hget
        rcases x with x | ⟨ci, vs⟩
        · exact e2.elim
        obtain ⟨e3, -⟩ := e2
        dsimp only at e3
        subst e3
        have hrecv := va_recv hK.1 hP0 g4 e1
        rw [g5] at hrecv
        exact va_runV (C := q.2.2.2.1.1.cls) (As := As) fix hM (cwV q.2.2.1 hts (xGoodIn hbig (fun w hw => by
          unfold wsV at hw
          rcases List.mem_append.mp hw with h | h
          · rcases List.mem_cons.mp h with rfl | h
            · exact g1
            rcases List.mem_cons.mp h with rfl | h
            · exact g2
            rcases List.mem_cons.mp h with rfl | h
            · exact g3
            rcases List.mem_cons.mp h with rfl | h
            · exact hbase.2.1
            · cases h
          · exact hG w h)) rfl rfl rfl ⟨rfl, hbase.2.2⟩ hroom') ⟨xBlind, hrecv, hpc⟩ rfl hl' hls (by rw [List.reverse_cons, List.append_assoc]; rfl) (lv_room hrest) hdg hcs
    · rcases hk with hk | hk
      · obtain ⟨g1, g2⟩ := k1 hk
        exact va_runS (As := as) fix hM (va_cwS q.2.2.1 hts (xGoodIn hbig (fun w hw => by
          unfold va_wsS at hw
          rcases List.mem_append.mp hw with h | h
          · rcases List.mem_cons.mp h with rfl | h
            · exact g1
            rcases List.mem_cons.mp h with rfl | h
            · exact g2
            rcases List.mem_cons.mp h with rfl | h
            · exact hbase.2.1
            · cases h
          · exact hG w h)) rfl rfl rfl hbase.2.2 hroom') ⟨xBlind, hpc⟩ rfl hl hls rfl (lv_room hrest) hdg hcs
      · obtain ⟨g1, g2⟩ := k4 hk
        exact va_runSN (As := as) fix hM ⟨va_cnB q.2.2.1 hts (xGoodIn hbig hG) rfl rfl rfl (hK.2.2.2 _ g1) (word hbase.2.1) hbase.2.2 hroom', word g2, trivial⟩ ⟨xBlind, hpc⟩ rfl hl hls rfl (lv_room hrest) hdg hcs
    · cases as with
      | nil => cases hhd
      | cons a As =>
        cases hhd
        have hl' : As.length = q.2.2.1 := by simpa using hl
        obtain ⟨qi, qk, qn, ⟨yy, by', mx, rt⟩, rc⟩ := q
        rcases hk with hk | hk
        · obtain ⟨g1, g2, g3, g4⟩ := k2 hk
          dsimp only at g1 g2 g3 g4 hl' hbase hroom' hM hG hdg ⊢
          subst g4
          exact va_runI (As := As) fix hM (cwI qn hts (xGoodIn hbig hG) rfl rfl rfl (word hbase.2.1) (word g1) (word g2) g3 hbase.2.2 hroom') ⟨xBlind, hpc⟩ rfl hl' hls (by rw [List.reverse_cons, List.append_assoc]; rfl) (lv_room hrest) hdg hcs
        · obtain ⟨g1, g2, g3, g4⟩ := k5 hk
          dsimp only at g1 g2 g3 g4 hl' hbase hroom' hM hG hdg ⊢
          subst g4
          exact va_runIN (As := As) fix hM ⟨va_cnB qn hts (xGoodIn hbig hG) rfl rfl rfl (hK.2.2.2 _ g1) (word hbase.2.1) hbase.2.2 hroom', g3, word g2⟩ ⟨xBlind, hpc⟩ rfl hl' hls (by rw [List.reverse_cons, List.append_assoc]; rfl) (lv_room hrest) hdg hcs
  refine xc_call hrun hS hfr (fun st v t hq => hq.2) (fun v st t locs1 hst hqc hS1 => ?_)
  obtain ⟨⟨r, ad', ws', hr, had, hret, hw', hP', hD'⟩, hF⟩ := hqc
  cases hr
  obtain ⟨hz, hk⟩ := hF
  rw [hst] at hz hk
  obtain ⟨hP1, hD1⟩ := xJoin hP hD hS hA hk hP' hD'
  have ret_moved : ∀ {ad1 ad2 : Nat → Nat} {n1 n2 : Nat}, n1 ≤ n2 → (∀ k, k < n1 → ad2 k = ad1 k) → xRet η ad1 n1 con.2.1.1 v → xRet η ad2 n2 con.2.1.1 v := by
    intro ad1 ad2 n1 n2 h1 h2 h3
    generalize con.2.1.1 = o at h3 ⊢
    cases o with
    | none => cases v with
      | none => trivial
      | some v => exact h3.elim
    | some o => cases v with
      | none => exact h3.elim
      | some v => exact xOk_moved h1 h2 h3
  rcases hN with ⟨hN1, hN2⟩ | ⟨hN1, hN2⟩
  · have hmx : max N con.2.1.2.2 = con.2.1.2.2 := Nat.max_eq_right hN2
    rw [hN1] at had
    refine kk ad' v t.heap locs1 had (by rw [hmx]; exact hret) ?_
    rw [hmx]
    exact ⟨ws' ++ wr, xAll_app hw' (xWok_moved hN2 had hwr), hP1, hD1, hS1⟩
  · have hmx : max N con.2.1.2.2 = N := Nat.max_eq_left (by omega)
    have hle : con.2.1.2.2 ≤ N := by omega
    have had2 : ∀ k, k < con.2.1.2.2 → ad k = ad' k := fun k hk => (had k (by omega)).symm
    refine kk ad v t.heap locs1 (fun _ _ => rfl) ?_ ?_
    · rw [hmx]; exact ret_moved hle had2 hret
    · rw [hmx]
      exact ⟨ws' ++ wr, xAll_app (xWok_moved hle had2 hw') hwr, hP1, hD1, hS1⟩
end XCA

/-! the walk by a program is a walk of the machine -/
section XMA
variable {p : Program} {l : Launch} {e : Env} {R : Room} {s : State} {m : MethodId} {args : Array Value} {below : List Frame} {meth : Method} {c : Code} {Q : State → Prop}
variable {cc : ByteArray} {D : va_G} {cy : Nat → ClassId} {η : Nat → Int32} {A : Nat → Prop} {own : String} {Ts : List Cond} {ad0 : Nat → Nat} {nx0 nL : Nat}
variable {M : xMi} {cons : List xCd} {ts : List xT} {sc : Option (Nat × List xV)} {fin : Bool} {rm : Nat × Nat × Nat × Nat} {chk : Option xV → xH → Nat → Nat → Nat → Bool} {rec : xRec}
def xCx (p : Program) (R : Room) (s : State) (m : MethodId) (args : Array Value) (meth : Method) (c : Code) (cc : ByteArray) (D : va_G) (cy : Nat → ClassId) (η : Nat → Int32) (A : Nat → Prop) (own : String) (Ts : List Cond) (ad0 : Nat → Nat) (nx0 nL : Nat) (M : xMi) (cons : List xCd) (ts : List xT) (sc : Option (Nat × List xV)) (fin : Bool) (rm : Nat × Nat × Nat × Nat) : Prop :=
  (p.tables.exec = Jvm.exec ∧ c.code = cc ∧ c.maxLocals = nL ∧ (∀ w ∈ Ts, w.before args s = true) ∧ (∀ w ∈ xBig, w ∈ Ts) ∧ s.vm.findClass own = some m.cls ∧ xKK D cy s ∧ (∀ q, s.heap.size ≤ q → A q) ∧ (∀ ad : Nat → Nat, (∀ k, k < nx0 → ad k = ad0 k) → xSS ad A s)) ∧ xMok own cc M ∧ xConOk own cons ∧ xTok η ts ∧ xScOk s A η ad0 nx0 sc ∧ (fin = true → meth.name = "<init>") ∧ (rm.1 ≤ R.frames ∧ rm.2.1 ≤ R.locals ∧ rm.2.2.1 ≤ R.cells ∧ rm.2.2.2 ≤ R.slots)
def xIH (p : Program) (l : Launch) (e : Env) (R : Room) (s : State) (m : MethodId) (args : Array Value) (below : List Frame) (meth : Method) (c : Code) (Q : State → Prop) (D : va_G) (cy : Nat → ClassId) (η : Nat → Int32) (A : Nat → Prop) (ad0 : Nat → Nat) (nx0 nL : Nat) (M : xMi) (rec : xRec) : Prop :=
  ∀ (pc : Nat) (cur : List xEn) (ls : List (Nat × xV)) (st : List xV) (hp : xH) (nx cs ss : Nat), (∀ q ∈ cur, q ∈ M.1) → rec pc cur ls st hp nx cs ss = true → xGood p l e R s m args below meth c Q D cy η A ad0 nx0 nL pc ls st hp nx cs ss
theorem xSeek_in {t : Nat} : ∀ q ∈ xSeek t M.1, q ∈ M.1 := fun _ h => xSeek_mem h
set_option maxHeartbeats 4000000 in
theorem xInv_ok (X : xCx p R s m args meth c cc D cy η A own Ts ad0 nx0 nL M cons ts sc fin rm) (I : xIH p l e R s m args below meth c Q D cy η A ad0 nx0 nL M rec) {ins : Instr} {i pc : Nat} {nxt : List xEn} (hi : ins = .invokevirtual i ∨ ins = .invokestatic i ∨ ins = .invokespecial i) (hn : ∀ q ∈ nxt, q ∈ M.1) (hdg : decode cc pc = .ok (ins, 3)) {ls : List (Nat × xV)} {st : List xV} {hp : xH} {nx cs ss : Nat} (h : xInv cons ts rm rec ins i pc nxt ls st hp nx cs ss = true) : xGood p l e R s m args below meth c Q D cy η A ad0 nx0 nL pc ls st hp nx cs ss := by
  obtain ⟨⟨hx, hb, hml, hts, hbig, hown, hK, hA, hSS⟩, hM, hC, ht, hsc, hfin, hR1, hR2, hR3, hR4⟩ := X
  intro ad lsC lv stC H locs had hnx hl hla hs hR
  unfold xInv at h
  split at h
  · rename_i q as rest hp' hq
    obtain ⟨hmem, hidx, hpop, hle, htk⟩ := xCf_ok hq
    simp only [Bool.and_eq_true, Bool.or_eq_true, beq_iff_eq, decide_eq_true_eq] at h
    obtain ⟨⟨⟨⟨⟨⟨⟨⟨h1, h2⟩, h3⟩, h4⟩, h5⟩, h6⟩, h7⟩, h8⟩, h9⟩ := h
    obtain ⟨M', hcok, hmx, hh⟩ := hC q hmem
    obtain ⟨asC, restC, e1, e2, e3⟩ := xPop_ok (accC := []) hpop hs trivial
    rw [List.reverse_nil, List.nil_append] at e1
    subst e1
    refine xCall_W (q := (q.1.1, q.1.2.1, q.1.2.2.1, M', q.1.2.2.2.1)) (con := q.2) (ins := ins) hx hb hml hl.1 hts hbig hown hK hA (hSS ad had) rfl hR hcok hh (xTe_ok h2 ht) htk (xLeL_ok hle e2) h3 ⟨by omega, by rw [hmx]; omega⟩ ⟨by omega, by omega⟩ (by rw [xSum_ok e3]; exact h8) ?_ hdg (fun ad' v H1 locs1 had' hret hR' => ?_)
    · have hlen := xAll_len e2
      rcases hi with rfl | rfl | rfl
      · simp only [xCk, Bool.and_eq_true, beq_iff_eq] at h1
        obtain ⟨⟨g1, g2⟩, g3⟩ := h1
        refine Or.inl ⟨g1, by rw [hidx], by rw [← hlen]; exact g2, ?_⟩
        split at g3
        · rename_i k r
          match asC, e2 with
          | [], e2 => exact e2.elim
          | v :: asC, e2 =>
            split at g3
            · rename_i o ho
              obtain ⟨-, rfl⟩ := e2.1
              refine ⟨k, o.2, rfl, ?_⟩
              rw [ho, ← eq_of_beq g3]
            · cases g3
        · cases g3
      · simp only [xCk, Bool.and_eq_true, Bool.or_eq_true, beq_iff_eq] at h1
        exact Or.inr (Or.inl ⟨h1.1, by rw [hidx], by rw [← hlen]; exact h1.2⟩)
      · simp only [xCk, Bool.and_eq_true, Bool.or_eq_true, beq_iff_eq] at h1
        obtain ⟨⟨g1, g2⟩, g3⟩ := h1
        refine Or.inr (Or.inr ⟨g1, by rw [hidx], by rw [← hlen]; exact g2, ?_⟩)
        split at g3
        · rename_i k r
          match asC, e2 with
          | [], e2 => exact e2.elim
          | v :: asC, e2 =>
            obtain ⟨-, rfl⟩ := e2.1
            exact ⟨_, rfl⟩
        · cases g3
    · have hm : nx ≤ max nx q.2.2.1.2.2 := Nat.le_max_left _ _
      refine I _ _ _ _ _ _ _ _ hn h9 ad' lsC lv _ H1 locs1 (fun k hk => (had' k (by omega)).trans (had k hk)) (by omega) hl (xLs_moved hm had' hla) ?_ hR'
      have e3' := xAll_moved hm had' e3
      generalize q.2.2.1.1 = o at hret ⊢
      cases o with
      | none => cases v with
        | none => exact e3'
        | some v => exact hret.elim
      | some o => cases v with
        | none => exact hret.elim
        | some v => exact ⟨hret, e3'⟩
  · cases h
theorem xSumR {rest : List xV} {restC : List Value} {ad : Nat → Nat} {N k B : Nat} (h : xSum rest + k ≤ B) (g : xAll (xOk η ad N) rest restC) : (restC.map fun v => v.category).sum + k ≤ B := by rw [xSum_ok g]; exact h
theorem xSt2 {ad : Nat → Nat} {N : Nat} {b a : xV} {st : List xV} {stC : List Value} (h : xAll (xOk η ad N) (b :: a :: st) stC) : ∃ (w v : Value) (tC : List Value), stC = w :: v :: tC ∧ xOk η ad N b w ∧ xOk η ad N a v ∧ xAll (xOk η ad N) st tC := by
  match stC, h with
  | [], h => exact h.elim
  | [_], h => exact h.2.elim
  | w :: v :: tC, h => exact ⟨w, v, tC, rfl, h.1, h.2.1, h.2.2⟩
theorem xSt1 {ad : Nat → Nat} {N : Nat} {a : xV} {st : List xV} {stC : List Value} (h : xAll (xOk η ad N) (a :: st) stC) : ∃ (v : Value) (tC : List Value), stC = v :: tC ∧ xOk η ad N a v ∧ xAll (xOk η ad N) st tC := by
  match stC, h with
  | [], h => exact h.elim
  | v :: tC, h => exact ⟨v, tC, rfl, h.1, h.2⟩
theorem xZI {a : xI} {x : Int32} (h : xK a = true) (g : xIn a x.toInt) : x.toInt = a.1 := by
  have h' : a.1 = a.2 := by simpa [xK] using h
  obtain ⟨g1, g2⟩ := g
  omega
set_option maxHeartbeats 4000000 in
theorem xSp_ok (X : xCx p R s m args meth c cc D cy η A own Ts ad0 nx0 nL M cons ts sc fin rm) (I : xIH p l e R s m args below meth c Q D cy η A ad0 nx0 nL M rec) {i k pc : Nat} {nxt : List xEn} (hk : (i, k) ∈ M.2.2.2.2.2) (hn : ∀ q ∈ nxt, q ∈ M.1) (hdg : decode cc pc = .ok (.invokestatic i, 3)) {ls : List (Nat × xV)} {st : List xV} {hp : xH} {nx cs ss : Nat} (h : xSp ts rm rec k pc nxt ls st hp nx cs ss = true) : xGood p l e R s m args below meth c Q D cy η A ad0 nx0 nL pc ls st hp nx cs ss := by
  obtain ⟨⟨hx, hb, hml, hts, hbig, hown, hK, hA, hSS⟩, hM, hC, ht, hsc, hfin, hR1, hR2, hR3, hR4⟩ := X
  intro ad lsC lv stC H locs had hnx hl hla hs hR
  have word : ∀ {w : Cond}, w ∈ xBig → w.before args s = true := fun h => hts _ (hbig _ h)
  have hsl := hM.2.2.2.2.2 _ hk
  have hml' : c.maxLocals = lsC.size := by rw [hml, hl.1]
  unfold xSp at h
  split at h
  · simp only [Bool.and_eq_true, decide_eq_true_eq] at h
    obtain ⟨⟨⟨⟨⟨⟨h1, h2⟩, h3⟩, h4⟩, h5⟩, h6⟩, h7⟩ := h
    obtain ⟨w, v, tC, rfl, gb, ga, gt⟩ := xSt2 hs
    obtain ⟨w1, w2, w3, w4⟩ := hsl.2.1 rfl
    obtain ⟨x, rfl⟩ := xIsI_ok h5 ga
    obtain ⟨y, rfl⟩ := xIsI_ok h6 gb
    have h2' := xSumR (B := R.locals) (k := 13) (by omega) gt
    refine va_mmin hx hb hml' hown (word w1) (word w2) (word w3) (word w4) (by omega) h2' (by omega) (by omega) hdg ?_
    split at h7
    · obtain ⟨x', ex, gx⟩ := ga
      obtain ⟨y', ey, gy⟩ := gb
      cases ex; cases ey
      exact I _ _ _ _ _ _ _ _ hn h7 ad lsC lv _ H locs had hnx hl hla ⟨⟨_, rfl, xMinA_ok gx gy⟩, gt⟩ hR
    · split at h7
      · rename_i r hr
        exact I _ _ _ _ _ _ _ _ hn h7 ad lsC lv _ H locs had hnx hl hla ⟨ht _ (xTf_ok hr) ad nx x y ga gb, gt⟩ hR
      · cases h7
  · simp only [Bool.and_eq_true, decide_eq_true_eq] at h
    obtain ⟨⟨⟨⟨⟨⟨h1, h2⟩, h3⟩, h4⟩, h5⟩, h6⟩, h7⟩ := h
    obtain ⟨w, v, tC, rfl, gb, ga, gt⟩ := xSt2 hs
    obtain ⟨w1, w2, w3, w4⟩ := hsl.2.2.1 rfl
    obtain ⟨x, rfl⟩ := xIsI_ok h5 ga
    obtain ⟨y, rfl⟩ := xIsI_ok h6 gb
    have h2' := xSumR (B := R.locals) (k := 13) (by omega) gt
    refine va_mmax hx hb hml' hown (word w1) (word w2) (word w3) (word w4) (by omega) h2' (by omega) (by omega) hdg ?_
    split at h7
    · obtain ⟨x', ex, gx⟩ := ga
      obtain ⟨y', ey, gy⟩ := gb
      cases ex; cases ey
      exact I _ _ _ _ _ _ _ _ hn h7 ad lsC lv _ H locs had hnx hl hla ⟨⟨_, rfl, xMaxA_ok gx gy⟩, gt⟩ hR
    · split at h7
      · rename_i r hr
        exact I _ _ _ _ _ _ _ _ hn h7 ad lsC lv _ H locs had hnx hl hla ⟨ht _ (xTf_ok hr) ad nx x y ga gb, gt⟩ hR
      · cases h7
  · rename_i n dp kd sp ks st'
    simp only [Bool.and_eq_true, decide_eq_true_eq] at h
    obtain ⟨⟨⟨⟨h1, h2⟩, h3⟩, h4⟩, h7⟩ := h
    obtain ⟨vn, vdp, t1, rfl, gn, gdp, g⟩ := xSt2 hs
    obtain ⟨vd, vsp, t2, rfl, gd, gsp, g⟩ := xSt2 g
    obtain ⟨vs, t3, rfl, gs, gt⟩ := xSt1 g
    obtain ⟨n', rfl, gn⟩ := gn
    obtain ⟨dp', rfl, gdp⟩ := gdp
    obtain ⟨sp', rfl, gsp⟩ := gsp
    obtain ⟨-, rfl⟩ := gd
    obtain ⟨-, rfl⟩ := gs
    obtain ⟨w1, w2, w3, w4⟩ := hsl.2.2.2.1 rfl
    have ed := xZ_ok h3 gdp
    have es := xZ_ok h4 gsp
    subst ed; subst es
    have h2' := xSumR (B := R.locals) (k := 18) (by omega) gt
    obtain ⟨ws, hw, hP, hD, hS⟩ := hR
    split at h7
    · rename_i t n1 d1 ov1 hp' htk
      split at h7
      · rename_i t' n0 d0 ov0 hg
        simp only [Bool.and_eq_true, Bool.or_eq_true, beq_iff_eq] at h7
        obtain ⟨⟨⟨htt, rfl⟩, hkn⟩, h8⟩ := h7
        obtain ⟨y, ws', e1, e0, e2, e10⟩ := xTake_ok hw htk
        have hP := xP_perm hP e1
        have hD := xD_perm hD e1
        obtain ⟨j, z, f1, f2⟩ := xGet_ok e10 hg
        rcases y with ⟨cA, n1', y⟩ | y
        rotate_left
        · exact e2.elim
        rcases z with ⟨cB, n0', z⟩ | z
        rotate_left
        · exact f2.elim
        obtain ⟨rfl, rfl, e5, e6, e7, e8⟩ := e2
        obtain ⟨rfl, rfl, f5, f6, f7, f8⟩ := f2
        have hnv := xZI hkn gn
        -- the length is 0 or the whole
        have hlen : (n'.toNatClampNeg = 0 ∧ rec (pc + 3) nxt ls st' ((kd, .inr (t', n1', d1, ov1)) :: hp') nx cs ss = true) ∨ (n'.toNatClampNeg = n0' ∧ n1' = n0' ∧ rec (pc + 3) nxt ls st' ((kd, .inr (t', n1', d0, ov0)) :: hp') nx cs ss = true) := by
          by_cases hz : n.1 = 0
          · rw [decide_eq_true hz, cond_true] at h8
            exact Or.inl ⟨by show n'.toInt.toNat = 0; rw [hnv, hz]; rfl, h8⟩
          · rw [decide_eq_false hz, cond_false] at h8
            simp only [Bool.and_eq_true, decide_eq_true_eq, beq_iff_eq] at h8
            exact Or.inr ⟨by show n'.toInt.toNat = n0'; rw [hnv, h8.1.1]; rfl, h8.1.2, h8.2⟩
        have hn0 : ¬ n' < 0 := by
          rw [Int32.lt_iff_toInt_lt]
          have e0 : (0 : Int32).toInt = 0 := rfl
          rcases hlen with ⟨h, -⟩ | ⟨h, -, -⟩
          · by_cases hz : n.1 = 0
            · omega
            · rw [decide_eq_false hz, cond_false] at h8
              simp only [Bool.and_eq_true, decide_eq_true_eq] at h8
              rw [hnv, h8.1.1, e0]
              exact Int.not_lt.mpr (Int.natCast_nonneg _)
          · by_cases hz : n.1 = 0
            · omega
            · rw [decide_eq_false hz, cond_false] at h8
              simp only [Bool.and_eq_true, decide_eq_true_eq] at h8
              rw [hnv, h8.1.1, e0]
              exact Int.not_lt.mpr (Int.natCast_nonneg _)
        have hz0 : (0 : Int32).toNatClampNeg = 0 := rfl
        have fits0 : n'.toNatClampNeg ≤ n0' ∧ n'.toNatClampNeg ≤ n1' := by
          rcases hlen with ⟨h, -⟩ | ⟨h, h', -⟩ <;> omega
        rcases htt with rfl | rfl
        · obtain ⟨g, rfl, e9⟩ := e7 (by omega)
          obtain ⟨f, rfl, f9⟩ := f7 (by omega)
          refine va_copyi (D := D) hx hb hml' hown (word w1) (word w2) (word w3) (word w4) hK.1 hP hD hS (j + 1) 0 1 1 (by rw [List.getElem?_cons_succ]; exact f1) rfl rfl rfl rfl (by decide) (by decide) hn0 (by rw [hz0]; omega) (by rw [hz0]; omega) (fun _ _ => rfl) (by omega) h2' hdg (fun H1 locs1 hP hD hS => ?_)
          rcases hlen with ⟨hl0, hrec⟩ | ⟨hl0, hl1, hrec⟩
          · refine I _ _ _ _ _ _ _ _ hn hrec ad lsC lv _ H1 locs1 had hnx hl hla gt (xRel_cons hP hD hS e0 ⟨rfl, rfl, e5, (fun h => by omega), (fun _ => ⟨_, rfl, fun i hi => ?_⟩), (fun h => by omega)⟩ e10)
            unfold va_cpy
            rw [if_neg (by rw [hz0]; omega)]
            exact e9 i hi
          · refine I _ _ _ _ _ _ _ _ hn hrec ad lsC lv _ H1 locs1 had hnx hl hla gt (xRel_cons hP hD hS e0 ⟨rfl, rfl, e5, (fun h => by omega), (fun _ => ⟨_, rfl, fun i hi => ?_⟩), (fun h => by omega)⟩ e10)
            unfold va_cpy
            rw [if_pos (by rw [hz0]; omega), hz0]
            have := f9 i (by omega)
            rw [show 0 + (i - 0) = i by omega]
            exact this
        · obtain ⟨g, rfl, e9⟩ := e6 (by omega)
          obtain ⟨f, rfl, f9⟩ := f6 (by omega)
          refine va_copyl (D := D) hx hb hml' hown (word w1) (word w2) (word w3) (word w4) hK.1 hP hD hS (j + 1) 0 2 2 (by rw [List.getElem?_cons_succ]; exact f1) rfl rfl rfl rfl (by decide) (by decide) hn0 (by rw [hz0]; omega) (by rw [hz0]; omega) (fun _ _ => rfl) (by omega) h2' hdg (fun H1 locs1 hP hD hS => ?_)
          rcases hlen with ⟨hl0, hrec⟩ | ⟨hl0, hl1, hrec⟩
          · refine I _ _ _ _ _ _ _ _ hn hrec ad lsC lv _ H1 locs1 had hnx hl hla gt (xRel_cons hP hD hS e0 ⟨rfl, rfl, e5, (fun _ => ⟨_, rfl, fun i hi => ?_⟩), (fun h => by omega), (fun h => by omega)⟩ e10)
            unfold va_cpy
            rw [if_neg (by rw [hz0]; omega)]
            exact e9 i hi
          · refine I _ _ _ _ _ _ _ _ hn hrec ad lsC lv _ H1 locs1 had hnx hl hla gt (xRel_cons hP hD hS e0 ⟨rfl, rfl, e5, (fun _ => ⟨_, rfl, fun i hi => ?_⟩), (fun h => by omega), (fun h => by omega)⟩ e10)
            unfold va_cpy
            rw [if_pos (by rw [hz0]; omega), hz0]
            have := f9 i (by omega)
            rw [show 0 + (i - 0) = i by omega]
            exact this
      · cases h7
    · cases h7
  · cases h
theorem xStL_ok {ad : Nat → Nat} {j n : Nat} (h : xStL j = some n) (hSS : xSS ad A s) : n < 100 ∧ 0 < n ∧ ∃ (vA : Nat) (f : Nat → Int32), xSg (ad j) vA n f A s := by
  obtain ⟨⟨v1, f1, a1, b1⟩, ⟨v2, f2, a2, b2⟩, v3, f3, a3, b3⟩ := hSS
  unfold xStL at h
  split at h
  · cases h; exact ⟨by decide, by decide, v1, f1, b1⟩
  · cases h; exact ⟨by decide, by decide, v2, f2, b2⟩
  · cases h; exact ⟨by decide, by decide, v3, f3, b3⟩
  · cases h
theorem xStC_ok (X : xCx p R s m args meth c cc D cy η A own Ts ad0 nx0 nL M cons ts sc fin rm) (I : xIH p l e R s m args below meth c Q D cy η A ad0 nx0 nL M rec) {i k pc : Nat} {nxt : List xEn} (hk : (i, k) ∈ M.2.2.2.2.2) (hn : ∀ q ∈ nxt, q ∈ M.1) (hdg : decode cc pc = .ok (.invokevirtual i, 3)) {ls : List (Nat × xV)} {st : List xV} {hp : xH} {nx cs ss : Nat} (h : xStC rm rec k pc nxt ls st hp nx cs ss = true) : xGood p l e R s m args below meth c Q D cy η A ad0 nx0 nL pc ls st hp nx cs ss := by
  obtain ⟨⟨hx, hb, hml, hts, hbig, hown, hK, hA, hSS⟩, hM, hC, ht, hsc, hfin, hR1, hR2, hR3, hR4⟩ := X
  intro ad lsC lv stC H locs had hnx hl hla hs hR
  have hsl := hM.2.2.2.2.2 _ hk
  unfold xStC at h
  split at h
  · simp only [Bool.and_eq_true, decide_eq_true_eq] at h
    obtain ⟨⟨⟨⟨⟨h1, h2⟩, h3⟩, h4⟩, h5⟩, h6⟩ := h
    obtain ⟨v, tC, rfl, ga, gt⟩ := xSt1 hs
    obtain ⟨-, rfl⟩ := ga
    split at h6
    · rename_i n hj
      obtain ⟨e1, e2, vA, f, e3⟩ := xStL_ok hj (hSS ad had)
      obtain ⟨ws, hw, hP, hD, hS⟩ := hR
      exact xStrlen_W e1 hx hb hml hl.1 hts hbig hown (hsl.2.2.2.2.1 rfl) e3 hS ⟨by omega, by omega⟩ ⟨by omega, by omega⟩ (by rw [xSum_ok gt]; exact h5) hdg (I _ _ _ _ _ _ _ _ hn h6 ad lsC lv _ H locs had hnx hl hla ⟨⟨_, rfl, by rw [xOfN (by omega)]; exact ⟨Int.le_refl _, Int.le_refl _⟩⟩, gt⟩ ⟨ws, hw, hP, hD, hS⟩)
    · cases h6
  · simp only [Bool.and_eq_true, decide_eq_true_eq] at h
    obtain ⟨⟨⟨⟨⟨⟨h1, h2⟩, h3⟩, h4⟩, h5⟩, h7⟩, h6⟩ := h
    obtain ⟨w, v, tC, rfl, gb, ga, gt⟩ := xSt2 hs
    obtain ⟨-, rfl⟩ := ga
    obtain ⟨y, rfl⟩ := xIsI_ok h7 gb
    split at h6
    · rename_i n hj
      obtain ⟨e1, e2, vA, f, e3⟩ := xStL_ok hj (hSS ad had)
      obtain ⟨ws, hw, hP, hD, hS⟩ := hR
      obtain ⟨i1, i2⟩ := xIxC_in f e1 y
      exact xStridx_W e1 e2 hx hb hml hl.1 hts hbig hown (hsl.2.2.2.2.2 rfl) e3 hS ⟨by omega, by omega⟩ ⟨by omega, by omega⟩ (by rw [xSum_ok gt]; exact h5) hdg (I _ _ _ _ _ _ _ _ hn h6 ad lsC lv _ H locs had hnx hl hla ⟨⟨_, rfl, i1, by show _ ≤ Int.ofNat n - 1; have : (Int.ofNat n) = (n : Int) := rfl; omega⟩, gt⟩ ⟨ws, hw, hP, hD, hS⟩)
    · cases h6
  · cases h
end XMA

/-! contracts over names: what was there keeps its name; several ends -/
abbrev yCo2 : Type := List xV × xH × Nat × List (Option xV × xH × List xI) × (Nat × Nat × Nat × Nat) × List xI
def yQc (k : yCo2) (D : va_G) (cy : Nat → ClassId) (σ : Nat → Int) (ad : Nat → Nat) (ws : va_W) (sz : Nat) : Array Value → State → Outcome → State → Prop := fun _ st oc t =>
  (∃ (z : Option xV × xH × List xI) (r : Option Value) (ws' : va_W), z ∈ k.2.2.2.1 ∧ oc = .returned r ∧ xRet (yη σ) ad k.2.2.1 z.1 r ∧ xWok (yη σ) ad k.2.2.1 cy z.2.1 ws' ∧ va_P D vwCl ws' t.heap ∧ va_D (va_A ws sz) ws' ∧ yOkE σ z.2.2) ∧ va_F (va_A ws sz) st t
def yBd (k : yCo2) : Bool := k.1.all (xBdV k.2.2.1) && k.2.1.all (fun q => decide (q.1 < k.2.2.1) && xBdE k.2.2.1 q.2)
def yHolds (M : xM) (k : yCo2) : Prop := yBd k = true ∧ ∀ (l : Launch) (D : va_G) (cy : Nat → ClassId) (σ : Nat → Int) (ad : Nat → Nat) (sz : Nat) (av : List Value) (ws : va_W), yOkE σ k.2.2.2.2.2 → xAll (xOk (yη σ) ad k.2.2.1) k.1 av → xWok (yη σ) ad k.2.2.1 cy k.2.1 ws →
  Met l M.1 (xWd M) (xRm k.2.2.2.2.1) (xPc D cy ad av ws sz) (yQc k D cy σ ad ws sz) k.2.2.2.2.1.2.2.1 k.2.2.2.2.1.2.2.2 (va_A ws sz)
/-! other names -/
abbrev yRo : Type := List (Nat ⊕ Int)
def yRσ (ρ : yRo) (σ : Nat → Int) (j : Nat) : Int := match ρ[j]? with
  | some (.inl k) => σ (yN k) + yO k
  | some (.inr n) => n
  | none => 0
def yRv (ρ : yRo) : xV → xV
  | .inr (.inr (.inr q)) => (match ρ[yN q]? with
    | some (.inl k) => .inr (.inr (.inr (yC (yN k) (yO k + yO q))))
    | some (.inr n) => .inl (n + yO q, n + yO q)
    | none => .inl (Int.ofNat 1, Int.ofNat 0))
  | v => v
def yRk (ρ : yRo) : xV → Bool
  | .inr (.inr (.inr q)) => (match ρ[yN q]? with
    | some (.inl k) => decide (-32768 ≤ yO k + yO q) && decide (yO k + yO q < 32768)
    | some (.inr n) => xInR (n + yO q)
    | none => false)
  | _ => true
theorem yRv_ok {ρ : yRo} {σ : Nat → Int} {ad : Nat → Nat} {N : Nat} {a : xV} {v : Value} (hk : yRk ρ a = true) : xOk (yη (yRσ ρ σ)) ad N a v ↔ xOk (yη σ) ad N (yRv ρ a) v := by
  unfold yRk at hk
  unfold yRv
  split at hk
  · rename_i q
    split at hk
    · rename_i k hr
      simp only [Bool.and_eq_true, decide_eq_true_eq] at hk
      have e : yη (yRσ ρ σ) q = yη σ (yC (yN k) (yO k + yO q)) := by
        unfold yη
        rw [yC_N hk.1 hk.2, yC_O hk.1 hk.2]
        unfold yRσ
        rw [hr]
        dsimp only
        congr 1
        omega
      show (v = .int (yη (yRσ ρ σ) q)) ↔ (v = .int (yη σ (yC (yN k) (yO k + yO q))))
      rw [e]
    · rename_i n hr
      have hi := xInR_ok hk
      have e : yη (yRσ ρ σ) q = Int32.ofInt (n + yO q) := by
        unfold yη yRσ
        rw [hr]
      show (v = .int (yη (yRσ ρ σ) q)) ↔ xOk (yη σ) ad N (.inl (n + yO q, n + yO q)) v
      rw [e]
      constructor
      · rintro rfl
        exact ⟨_, rfl, by rw [Int32.toInt_ofInt, xbm hi.1 hi.2]; exact ⟨Int.le_refl _, Int.le_refl _⟩⟩
      · rintro ⟨x, rfl, x1, x2⟩
        dsimp only at x1 x2
        have : x.toInt = n + yO q := by omega
        rw [← this, Int32.ofInt_toInt]
    · cases hk
  · rename_i hne
    rcases a with i | i | o | k
    · exact Iff.rfl
    · exact Iff.rfl
    · cases o with
      | none => exact Iff.rfl
      | some o => exact Iff.rfl
    · exact absurd rfl (hne k)
theorem yRl_ok {ρ : yRo} {σ : Nat → Int} {ad : Nat → Nat} {N : Nat} : ∀ {as : List xV} {vs : List Value}, as.all (yRk ρ) = true → (xAll (xOk (yη (yRσ ρ σ)) ad N) as vs ↔ xAll (xOk (yη σ) ad N) (as.map (yRv ρ)) vs)
  | [], [], _ => Iff.rfl
  | a :: as, v :: vs, h => by
    simp only [List.all_cons, Bool.and_eq_true] at h
    exact and_congr (yRv_ok h.1) (yRl_ok h.2)
  | [], _ :: _, _ => Iff.rfl
  | _ :: _, [], _ => Iff.rfl
/-- an array's places have no names -/
def yRe (ρ : yRo) : xE → xE
  | .inl o => .inl (o.1, o.2.map (yRv ρ))
  | .inr a => .inr a
def yRek (ρ : yRo) : xE → Bool
  | .inl o => o.2.all (yRk ρ)
  | .inr a => yBe 0 (.inr a)
theorem yRe_ok {ρ : yRo} {σ : Nat → Int} {ad : Nat → Nat} {N : Nat} {cy : Nat → ClassId} : ∀ {a : xE} {v : va_E}, yRek ρ a = true → (xEok (yη (yRσ ρ σ)) ad N cy a v ↔ xEok (yη σ) ad N cy (yRe ρ a) v)
  | .inl o, .inr o', h => and_congr Iff.rfl (yRl_ok h)
  | .inr _, .inl _, h => ⟨fun g => yFe_ok h g, fun g => yFe_ok h g⟩
  | .inl _, .inl _, _ => Iff.rfl
  | .inr _, .inr _, _ => Iff.rfl
def yRh (ρ : yRo) (hp : xH) : xH := hp.map (fun q => (q.1, yRe ρ q.2))
def yRhk (ρ : yRo) (hp : xH) : Bool := hp.all (fun q => yRek ρ q.2)
theorem yRh_ok {ρ : yRo} {σ : Nat → Int} {ad : Nat → Nat} {N : Nat} {cy : Nat → ClassId} : ∀ {hp : xH} {ws : va_W}, yRhk ρ hp = true → (xWok (yη (yRσ ρ σ)) ad N cy hp ws ↔ xWok (yη σ) ad N cy (yRh ρ hp) ws)
  | [], [], _ => Iff.rfl
  | a :: as, v :: vs, h => by
    simp only [yRhk, List.all_cons, Bool.and_eq_true] at h
    exact and_congr (and_congr Iff.rfl (and_congr Iff.rfl (yRe_ok h.1))) (yRh_ok h.2)
  | [], _ :: _, _ => Iff.rfl
  | _ :: _, [], _ => Iff.rfl
def yRo1 (ρ : yRo) : Option xV → Option xV
  | some a => some (yRv ρ a)
  | none => none
def yRok (ρ : yRo) : Option xV → Bool
  | some a => yRk ρ a
  | none => true
theorem yRo_ok {ρ : yRo} {σ : Nat → Int} {ad : Nat → Nat} {N : Nat} {o : Option xV} {v : Option Value} (hk : yRok ρ o = true) (h : xRet (yη (yRσ ρ σ)) ad N o v) : xRet (yη σ) ad N (yRo1 ρ o) v := by
  cases o with
  | none => cases v with
    | none => trivial
    | some v => exact h.elim
  | some a => cases v with
    | none => exact h.elim
    | some v => exact (yRv_ok hk).mp h
/-- what a contract asks of its names -/
def yRen (env : List xI) : yRo → List xI → Bool
  | r :: ρ, i :: is => (match r with
    | .inl k => (match yIv env k with
      | some j => decide (i.1 ≤ j.1) && decide (j.2 ≤ i.2)
      | none => false)
    | .inr n => decide (i.1 ≤ n) && decide (n ≤ i.2)) && yRen env ρ is
  | _, [] => true
  | [], _ :: _ => false
theorem yRen_ok {σ : Nat → Int} {env : List xI} (hE : yOkE σ env) : ∀ {ρ : yRo} {is : List xI}, yRen env ρ is = true → yOkE (yRσ ρ σ) is
  | r :: ρ, i :: is, h => by
    simp only [yRen, Bool.and_eq_true] at h
    obtain ⟨h1, h2⟩ := h
    intro j q hj
    cases j with
    | zero =>
      rw [List.getElem?_cons_zero] at hj
      cases hj
      unfold yRσ
      rw [List.getElem?_cons_zero]
      split at h1
      · rename_i k
        split at h1
        · rename_i z hz
          simp only [decide_eq_true_eq, Bool.and_eq_true] at h1
          obtain ⟨e1, e2, -⟩ := yIv_ok hE hz
          rw [e1] at e2
          obtain ⟨b1, b2⟩ := e2
          exact ⟨Int.le_trans h1.1 b1, Int.le_trans b2 h1.2⟩
        · cases h1
      · rename_i n
        simp only [decide_eq_true_eq, Bool.and_eq_true] at h1
        exact h1
    | succ j =>
      rw [List.getElem?_cons_succ] at hj
      have := yRen_ok hE h2 j q hj
      unfold yRσ at this ⊢
      rw [List.getElem?_cons_succ]
      exact this
  | [], [], _ => fun j q hj => by cases hj
  | _ :: _, [], _ => fun j q hj => by cases hj
  | [], _ :: _, h => by simp [yRen] at h
/-! what an end tells of the names -/
theorem yTight2 {σ : Nat → Int} {env : List xI} (h : yOkE σ env) {k : Nat} {i : xI} (hi : xIn i (σ (yN k) + yO k)) : yOkE σ (yTight env (.inr (.inr (.inr k))) i) := by
  unfold yTight
  dsimp only
  split
  · rename_i j hj
    obtain ⟨e1, e2, -⟩ := yIv_ok h hj
    rw [e1] at e2
    intro q r hq
    by_cases hqk : yN k = q
    · subst hqk
      rw [List.getElem?_set, if_pos rfl] at hq
      split at hq
      · cases hq
        obtain ⟨b1, b2⟩ := e2
        obtain ⟨c1, c2⟩ := hi
        refine yMeet_ok ⟨?_, ?_⟩ ⟨?_, ?_⟩
        · show j.1 - yO k ≤ σ (yN k); omega
        · show σ (yN k) ≤ j.2 - yO k; omega
        · show i.1 - yO k ≤ σ (yN k); omega
        · show σ (yN k) ≤ i.2 - yO k; omega
      · cases hq
    · rw [List.getElem?_set, if_neg hqk] at hq
      exact h q r hq
  · exact h
def yRt (env : List xI) : yRo → List xI → List xI
  | .inl k :: ρ, i :: is => yRt (yTight env (.inr (.inr (.inr k))) i) ρ is
  | .inr _ :: ρ, _ :: is => yRt env ρ is
  | _, _ => env
theorem yRt_len : ∀ {ρ : yRo} {is env : List xI}, (yRt env ρ is).length = env.length
  | .inl k :: ρ, i :: is, env => by
    unfold yRt
    rw [yRt_len, yTight_len]
  | .inr _ :: ρ, _ :: is, env => by
    unfold yRt
    exact yRt_len
  | [], _, _ => by unfold yRt; rfl
  | .inl _ :: _, [], _ => by unfold yRt; rfl
  | .inr _ :: _, [], _ => by unfold yRt; rfl
theorem yRt_ok {σ : Nat → Int} : ∀ {ρ : yRo} {is env : List xI}, yOkE σ env → yOkE (yRσ ρ σ) is → yOkE σ (yRt env ρ is)
  | .inl k :: ρ, i :: is, env, h, g => by
    unfold yRt
    refine yRt_ok (yTight2 h ?_) (fun j q hj => ?_)
    · have := g 0 i rfl
      unfold yRσ at this
      exact this
    · have := g (j + 1) q hj
      unfold yRσ at this ⊢
      rw [List.getElem?_cons_succ] at this
      exact this
  | .inr n :: ρ, i :: is, env, h, g => by
    unfold yRt
    refine yRt_ok h (fun j q hj => ?_)
    have := g (j + 1) q hj
    unfold yRσ at this ⊢
    rw [List.getElem?_cons_succ] at this
    exact this
  | [], _, _, h, _ => by unfold yRt; exact h
  | .inl _ :: _, [], _, h, _ => by unfold yRt; exact h
  | .inr _ :: _, [], _, h, _ => by unfold yRt; exact h
def yEm (env : List xI) : Bool := env.any (fun i => decide (i.2 < i.1))
theorem yEm_ok {σ : Nat → Int} {env : List xI} (h : yOkE σ env) : yEm env = false := by
  cases hc : yEm env with
  | false => rfl
  | true =>
    obtain ⟨i, hi, hlt⟩ := List.any_eq_true.mp hc
    obtain ⟨j, hj⟩ := List.getElem?_of_mem hi
    obtain ⟨b1, b2⟩ := h j i hj
    have hlt : i.2 < i.1 := by simpa using hlt
    omega
section YRM
variable {p : Program} {l : Launch} {e : Env} {R : Room} {s : State} {m : MethodId} {args : Array Value} {below : List Frame} {meth : Method} {c : Code} {H : Heap} {locs : List Loc} {cells slots : Nat} {Q : State → Prop}
variable {cc : ByteArray} {pc : Nat} {ls : Array Slot} {rest : List Value} {D : va_G} {cy : Nat → ClassId} {η : Nat → Int32} {ad : Nat → Nat} {N : Nat} {A : Nat → Prop} {H0 : Heap} {hp : xH} {own : String} {Ts : List Cond}
theorem yRunM {rmq : Nat × Nat × Nat × Nat} {Qc : Array Value → State → Outcome → State → Prop} {q : xCl} {ins : Instr} {nL : Nat} (hx : p.tables.exec = Jvm.exec) (hb : c.code = cc) (hml : c.maxLocals = nL) (hls : ls.size = nL) (hts : ∀ w ∈ Ts, w.before args s = true) (hbig : ∀ w ∈ xBig, w ∈ Ts) (hown : s.vm.findClass own = some m.cls) (hK : xKK D cy s) {ws wc : va_W} (hw : xWok η ad N cy hp ws) (hP0 : va_P D vwCl ws H) (hq : xCok own q) {as : List Value}
    (hM : Met l q.2.2.2.1.1 (xWd q.2.2.2.1) (xRm rmq) (xPc D cy ad as wc H.size) Qc rmq.2.2.1 rmq.2.2.2 (va_A wc H.size)) (hpc : ∀ U : State, U.heap = H → s.WarmedH U.vm → xPc D cy ad as wc H.size as.toArray U)
    (hroom : rmq.1 + 1 ≤ R.frames ∧ 8 + (q.2.2.2.1.2.2.1 + 11) + rmq.2.1 ≤ R.locals) (hcs : cells + rmq.2.2.1 ≤ R.cells ∧ slots + rmq.2.2.2 ≤ R.slots) (hrest : (rest.map fun v => v.category).sum ≤ 8)
    (hins : (q.2.1 = 0 ∧ ins = .invokevirtual q.1 ∧ as.length = q.2.2.1 + 1 ∧ ∃ (k : Nat) (avs : List xV), as.head? = some (.ref (ad k)) ∧ xGet k hp = some (.inl (q.2.2.2.2, avs))) ∨ ((q.2.1 = 1 ∨ q.2.1 = 4) ∧ ins = .invokestatic q.1 ∧ as.length = q.2.2.1) ∨ ((q.2.1 = 2 ∨ q.2.1 = 5) ∧ ins = .invokespecial q.1 ∧ as.length = q.2.2.1 + 1 ∧ ∃ k : Nat, as.head? = some (.ref k)))
    (hdg : decode cc pc = .ok (ins, 3)) : va_Run p l e R s m args below meth c H locs cells slots rmq.2.2.1 rmq.2.2.2 (F0 m pc ls (as.reverse ++ rest)) rest (Qc as.toArray) (va_A wc H.size) := by
  obtain ⟨hbase, k0, k1, k2, k4, k5⟩ := hq
  have hG : ∀ w ∈ xWd q.2.2.2.1, w ∈ xBig := fun w hw => (List.mem_cons.mp hw).elim (fun e => by rw [e]; exact hbase.1) id
  have hroom' : (xRm rmq).frames + 1 ≤ R.frames ∧ 8 + (q.2.2.2.1.2.2.1 + 11) + (xRm rmq).locals ≤ R.locals := hroom
  have word : ∀ {w : Cond}, w ∈ xBig → w.before args s = true := fun h => hts _ (hbig _ h)
  have fix : CallFix p m c cc nL s args Ts own := ⟨hx, hb, hml, hown, hts⟩
  rcases hins with ⟨hk, rfl, hl, k, avs, hhd, hget⟩ | ⟨hk, rfl, hl⟩ | ⟨hk, rfl, hl, k, hhd⟩
  · obtain ⟨g1, g2, g3, r, g4, g5⟩ := k0 hk
    cases as with
    | nil => cases hhd
    | cons a As =>
      cases hhd
      have hl' : As.length = q.2.2.1 := by simpa using hl
      obtain ⟨i, x, e1, e2⟩ := xGet_ok hw hget
      rcases x with x | ⟨ci, vs⟩
      · exact e2.elim
      obtain ⟨e3, -⟩ := e2
      dsimp only at e3
      subst e3
      have hrecv := va_recv hK.1 hP0 g4 e1
      rw [g5] at hrecv
      exact va_runV (C := q.2.2.2.1.1.cls) (As := As) fix hM (cwV q.2.2.1 hts (xGoodIn hbig (fun w hw => by
        unfold wsV at hw
        rcases List.mem_append.mp hw with h | h
        · rcases List.mem_cons.mp h with rfl | h
          · exact g1
          rcases List.mem_cons.mp h with rfl | h
          · exact g2
          rcases List.mem_cons.mp h with rfl | h
          · exact g3
          rcases List.mem_cons.mp h with rfl | h
          · exact hbase.2.1
          · cases h
        · exact hG w h)) rfl rfl rfl ⟨rfl, hbase.2.2⟩ hroom') ⟨xBlind, hrecv, hpc⟩ rfl hl' hls (by rw [List.reverse_cons, List.append_assoc]; rfl) (lv_room hrest) hdg hcs
  · rcases hk with hk | hk
    · obtain ⟨g1, g2⟩ := k1 hk
      exact va_runS (As := as) fix hM (va_cwS q.2.2.1 hts (xGoodIn hbig (fun w hw => by
        unfold va_wsS at hw
        rcases List.mem_append.mp hw with h | h
        · rcases List.mem_cons.mp h with rfl | h
          · exact g1
          rcases List.mem_cons.mp h with rfl | h
          · exact g2
          rcases List.mem_cons.mp h with rfl | h
          · exact hbase.2.1
          · cases h
        · exact hG w h)) rfl rfl rfl hbase.2.2 hroom') ⟨xBlind, hpc⟩ rfl hl hls rfl (lv_room hrest) hdg hcs
    · obtain ⟨g1, g2⟩ := k4 hk
      exact va_runSN (As := as) fix hM ⟨va_cnB q.2.2.1 hts (xGoodIn hbig hG) rfl rfl rfl (hK.2.2.2 _ g1) (word hbase.2.1) hbase.2.2 hroom', word g2, trivial⟩ ⟨xBlind, hpc⟩ rfl hl hls rfl (lv_room hrest) hdg hcs
  · cases as with
    | nil => cases hhd
    | cons a As =>
      cases hhd
      have hl' : As.length = q.2.2.1 := by simpa using hl
      obtain ⟨qi, qk, qn, ⟨yy, by', mx, rt⟩, rc⟩ := q
      rcases hk with hk | hk
      · obtain ⟨g1, g2, g3, g4⟩ := k2 hk
        dsimp only at g1 g2 g3 g4 hl' hbase hroom' hM hG hdg ⊢
        subst g4
        exact va_runI (As := As) fix hM (cwI qn hts (xGoodIn hbig hG) rfl rfl rfl (word hbase.2.1) (word g1) (word g2) g3 hbase.2.2 hroom') ⟨xBlind, hpc⟩ rfl hl' hls (by rw [List.reverse_cons, List.append_assoc]; rfl) (lv_room hrest) hdg hcs
      · obtain ⟨g1, g2, g3, g4⟩ := k5 hk
        dsimp only at g1 g2 g3 g4 hl' hbase hroom' hM hG hdg ⊢
        subst g4
        exact va_runIN (As := As) fix hM ⟨va_cnB qn hts (xGoodIn hbig hG) rfl rfl rfl (hK.2.2.2 _ g1) (word hbase.2.1) hbase.2.2 hroom', g3, word g2⟩ ⟨xBlind, hpc⟩ rfl hl' hls (by rw [List.reverse_cons, List.append_assoc]; rfl) (lv_room hrest) hdg hcs
end YRM

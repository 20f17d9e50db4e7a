/-! the walk by a program -/
abbrev xFa : Type := (Nat × Nat) ⊕ (xV ⊕ ((Nat × Nat) ⊕ ((Nat × Nat × Nat) ⊕ Unit)))
abbrev xEn : Type := Nat × Instr × Nat × xFa
abbrev xMi : Type := List xEn × List xFl × List (Nat × xV) × List (Nat × Nat) × List (Nat × Nat) × List (Nat × Nat)
abbrev xCd : Type := (Nat × Nat × Nat × Nat × Nat) × xCon
def xTgt (pc : Nat) (off : Int) : Option Nat := match Int.ofNat pc + off with
  | .ofNat n => some n
  | .negSucc _ => none
theorem xTgt_ok {pc t : Nat} {off : Int} (h : xTgt pc off = some t) : (pc : Int) + off = (t : Int) := by
  unfold xTgt at h
  split at h
  · rename_i n hn; cases h; exact hn
  · cases h
def xSeek (t : Nat) : List xEn → List xEn
  | [] => []
  | q :: r => bif q.1 == t then q :: r else xSeek t r
theorem xSeek_mem {t : Nat} : ∀ {es : List xEn} {q : xEn}, q ∈ xSeek t es → q ∈ es
  | [], _, h => h
  | z :: r, q, h => by
    unfold xSeek at h
    by_cases hq : (z.1 == t) = true
    · rw [hq, cond_true] at h; exact h
    · rw [show (z.1 == t) = false by simpa using hq, cond_false] at h
      exact List.mem_cons_of_mem _ (xSeek_mem h)
def xPop : Nat → List xV → List xV → Option (List xV × List xV)
  | 0, st, acc => some (acc, st)
  | n + 1, v :: st, acc => xPop n st (v :: acc)
  | _ + 1, [], _ => none
theorem xPop_ok {η : Nat → Int32} {ad : Nat → Nat} {N : Nat} : ∀ {n : Nat} {st acc as rest : List xV} {sC accC : List Value}, xPop n st acc = some (as, rest) → xAll (xOk η ad N) st sC → xAll (xOk η ad N) acc accC → ∃ asC restC : List Value, accC.reverse ++ sC = asC.reverse ++ restC ∧ xAll (xOk η ad N) as asC ∧ xAll (xOk η ad N) rest restC
  | 0, st, acc, as, rest, sC, accC, h, g1, g2 => by
    simp only [xPop, Option.some.injEq, Prod.mk.injEq] at h
    obtain ⟨rfl, rfl⟩ := h
    exact ⟨accC, sC, rfl, g2, g1⟩
  | n + 1, v :: st, acc, as, rest, [], accC, h, g1, g2 => g1.elim
  | n + 1, v :: st, acc, as, rest, w :: sC, accC, h, g1, g2 => by
    obtain ⟨asC, restC, h1, h2, h3⟩ := xPop_ok (accC := w :: accC) (sC := sC) (show xPop n st (v :: acc) = some (as, rest) from h) g1.2 ⟨g1.1, g2⟩
    exact ⟨asC, restC, by rw [← h1, List.reverse_cons, List.append_assoc]; rfl, h2, h3⟩
  | n + 1, [], acc, as, rest, sC, accC, h, _, _ => by simp [xPop] at h
def xCf (i : Nat) (st : List xV) (hp : xH) : List xCd → Option (xCd × List xV × List xV × xH)
  | [] => none
  | q :: r => bif q.1.1 == i then (match xPop q.2.1.1.length st [] with
      | some z => bif xLeL z.1 q.2.1.1 then (match xTakeAll q.2.1.2.1 hp with
          | some hp' => some (q, z.1, z.2, hp')
          | none => xCf i st hp r) else xCf i st hp r
      | none => none) else xCf i st hp r
theorem xCf_ok {i : Nat} {st : List xV} {hp : xH} {q : xCd} {as rest : List xV} {hp' : xH} : ∀ {cs : List xCd}, xCf i st hp cs = some (q, as, rest, hp') → q ∈ cs ∧ q.1.1 = i ∧ xPop q.2.1.1.length st [] = some (as, rest) ∧ xLeL as q.2.1.1 = true ∧ xTakeAll q.2.1.2.1 hp = some hp'
  | [], h => by simp [xCf] at h
  | z :: r, h => by
    have next : xCf i st hp r = some (q, as, rest, hp') → _ := fun h => by
      obtain ⟨h1, h2⟩ := xCf_ok h
      exact (⟨List.mem_cons_of_mem z h1, h2⟩ : q ∈ z :: r ∧ _)
    unfold xCf at h
    by_cases hq : (z.1.1 == i) = true
    · rw [hq, cond_true] at h
      split at h
      · rename_i y hy
        by_cases hl : xLeL y.1 z.2.1.1 = true
        · rw [hl, cond_true] at h
          split at h
          · rename_i hp2 hh
            cases h
            exact ⟨List.mem_cons_self, eq_of_beq hq, hy, hl, hh⟩
          · exact next h
        · rw [show xLeL y.1 z.2.1.1 = false by simpa using hl, cond_false] at h
          exact next h
      · cases h
    · rw [show (z.1.1 == i) = false by simpa using hq, cond_false] at h
      exact next h
def xAs {β : Type} (i : Nat) : List (Nat × β) → Option β
  | [] => none
  | q :: r => bif q.1 == i then some q.2 else xAs i r
theorem xAs_ok {β : Type} {i : Nat} {b : β} : ∀ {l : List (Nat × β)}, xAs i l = some b → (i, b) ∈ l
  | [], h => by simp [xAs] at h
  | q :: r, h => by
    unfold xAs at h
    by_cases hq : (q.1 == i) = true
    · rw [hq, cond_true] at h; cases h
      have : q.1 = i := eq_of_beq hq
      rw [← this]; exact List.mem_cons_self
    · rw [show (q.1 == i) = false by simpa using hq, cond_false] at h
      exact List.mem_cons_of_mem _ (xAs_ok h)
/-- which instruction calls which kind; of a virtual call the receiver's class -/
def xCk (ins : Instr) (q : Nat × Nat × Nat × Nat × Nat) (as : List xV) (hp : xH) : Bool := match ins with
  | .invokevirtual _ => q.2.1 == 0 && as.length == q.2.2.1 + 1 && (match as with
    | .inr (.inr (.inl (some k))) :: _ => (match xGet k hp with
      | some (.inl o) => o.1 == q.2.2.2.1
      | _ => false)
    | _ => false)
  | .invokestatic _ => (q.2.1 == 1 || q.2.1 == 4) && as.length == q.2.2.1
  | .invokespecial _ => (q.2.1 == 2 || q.2.1 == 5) && as.length == q.2.2.1 + 1 && (match as with
    | .inr (.inr (.inl (some _))) :: _ => true
    | _ => false)
  | _ => false
def xSum : List xV → Nat
  | [] => 0
  | a :: r => xcat a + xSum r
def xRv : Option xV → List xV → List xV
  | some a, st => a :: st
  | none, st => st
def xRk : Instr → Nat
  | .ireturn => 0
  | .lreturn => 1
  | .areturn => 2
  | .return_ => 3
  | _ => 9
def xTq : List xT → List xT → Bool
  | [], [] => true
  | a :: as, b :: bs => a.1 == b.1 && decide (a.2.1 = b.2.1) && decide (a.2.2.1 = b.2.2.1) && decide (a.2.2.2 = b.2.2.2) && xTq as bs
  | _, _ => false
theorem xTq_ok : ∀ {as bs : List xT}, xTq as bs = true → as = bs
  | [], [], _ => rfl
  | a :: as, b :: bs, h => by
    simp only [xTq, Bool.and_eq_true, beq_iff_eq, decide_eq_true_eq] at h
    obtain ⟨⟨⟨⟨h1, h2⟩, h3⟩, h4⟩, h5⟩ := h
    obtain ⟨a1, a2, a3, a4⟩ := a
    obtain ⟨b1, b2, b3, b4⟩ := b
    dsimp only at h1 h2 h3 h4
    rw [h1, h2, h3, h4, xTq_ok h5]
  | [], _ :: _, h => by simp [xTq] at h
  | _ :: _, [], h => by simp [xTq] at h
def xTe (ts us : List xT) : Bool := match us with
  | [] => true
  | u :: us => xTq (u :: us) ts
theorem xTe_ok {η : Nat → Int32} {ts us : List xT} (h : xTe ts us = true) (g : xTok η ts) : xTok η us := by
  cases us with
  | nil => intro t ht; cases ht
  | cons u us => rw [xTq_ok h]; exact g
abbrev xRec : Type := Nat → List xEn → List (Nat × xV) → List xV → xH → Nat → Nat → Nat → Bool
def xInv (cons : List xCd) (ts : List xT) (rm : Nat × Nat × Nat × Nat) (rec : xRec) (ins : Instr) (i pc : Nat) (nxt : List xEn) (ls : List (Nat × xV)) (st : List xV) (hp : xH) (nx cs ss : Nat) : Bool := match xCf i st hp cons with
  | some (q, as, rest, hp') => xCk ins q.1 as hp && xTe ts q.2.2.2.2 && ((q.2.1.2.2 == nx && decide (nx ≤ q.2.2.1.2.2)) || (q.2.1.2.2 == q.2.2.1.2.2 && decide (q.2.1.2.2 ≤ nx))) && decide (q.2.2.2.1.1 + 1 ≤ rm.1) && decide (8 + (q.1.2.2.2.2 + 11) + q.2.2.2.1.2.1 ≤ rm.2.1) && decide (cs + q.2.2.2.1.2.2.1 ≤ rm.2.2.1) && decide (ss + q.2.2.2.1.2.2.2 ≤ rm.2.2.2) && decide (xSum rest ≤ 8) && rec (pc + 3) nxt ls (xRv q.2.2.1.1 rest) (q.2.2.1.2.1 ++ hp') (max nx q.2.2.1.2.2) (cs + q.2.2.2.1.2.2.1) (ss + q.2.2.2.1.2.2.2)
  | none => false
def xSp (ts : List xT) (rm : Nat × Nat × Nat × Nat) (rec : xRec) (k pc : Nat) (nxt : List xEn) (ls : List (Nat × xV)) (st : List xV) (hp : xH) (nx cs ss : Nat) : Bool := match k, st with
  | 1, b :: a :: st => decide (1 ≤ rm.1) && decide (xSum st + 13 ≤ rm.2.1) && decide (cs ≤ rm.2.2.1) && decide (ss ≤ rm.2.2.2) && xIsI a && xIsI b && (match a, b with
    | .inl i, .inl j => rec (pc + 3) nxt ls (.inl (xMinA i j) :: st) hp nx cs ss
    | a, b => (match xTf 5 a b ts with | some r => rec (pc + 3) nxt ls (r :: st) hp nx cs ss | none => false))
  | 2, b :: a :: st => decide (1 ≤ rm.1) && decide (xSum st + 13 ≤ rm.2.1) && decide (cs ≤ rm.2.2.1) && decide (ss ≤ rm.2.2.2) && xIsI a && xIsI b && (match a, b with
    | .inl i, .inl j => rec (pc + 3) nxt ls (.inl (xMaxA i j) :: st) hp nx cs ss
    | a, b => (match xTf 4 a b ts with | some r => rec (pc + 3) nxt ls (r :: st) hp nx cs ss | none => false))
  | 3, .inl n :: .inl dp :: .inr (.inr (.inl (some kd))) :: .inl sp :: .inr (.inr (.inl (some ks))) :: st => decide (1 ≤ rm.1) && decide (xSum st + 18 ≤ rm.2.1) && xZ dp && xZ sp && (match xTake kd hp with
    | some (.inr (t, n1, d1, ov1), hp') => (match xGet ks hp' with
      | some (.inr (t', n0, d0, ov0)) => (t == 1 || t == 2) && t' == t && xK n && (bif decide (n.1 = 0) then rec (pc + 3) nxt ls st ((kd, .inr (t, n1, d1, ov1)) :: hp') nx cs ss else (decide (n.1 = Int.ofNat n0) && n1 == n0 && rec (pc + 3) nxt ls st ((kd, .inr (t, n1, d0, ov0)) :: hp') nx cs ss))
      | _ => false)
    | _ => false)
  | _, _ => false
def xSl (sc : Option (Nat × List xV)) (rec : xRec) (ins : Instr) (i : xI) (k pc : Nat) (nxt : List xEn) (ls : List (Nat × xV)) (st : List xV) (hp : xH) (nx cs ss : Nat) : Bool := decide (ins = .iaload) && (match sc with
  | some z => z.1 == k && xK i && decide (0 ≤ i.1) && (match z.2[i.1.toNat]? with
    | some r => rec (pc + 1) nxt ls (r :: st) hp nx cs ss
    | none => false)
  | none => false)
def xWid (ts : List xT) (a : xV) : xV := match a with
  | .inr (.inr (.inr j)) => (match xTf 8 (.inr (.inr (.inr j))) (.inr (.inr (.inr j))) ts with
    | some r => r
    | none => .inr (.inr (.inr j)))
  | a => a
theorem xWid_ok {η : Nat → Int32} {ad : Nat → Nat} {N : Nat} {ts : List xT} (ht : xTok η ts) {a : xV} {x : Int32} (h : xOk η ad N a (.int x)) : xOk η ad N (xWid ts a) (.int x) := by
  unfold xWid
  split
  · split
    · rename_i r hr
      exact ht _ (xTf_ok hr) ad N x x h h
    · exact h
  · exact h
def xCmpW (ts : List xT) (k : xCo) (a b : xV) : Option Bool := match xCmpV k a b with
  | some r => some r
  | none => xCmpV k (xWid ts a) (xWid ts b)
theorem xCmpW_ok {η : Nat → Int32} {ad : Nat → Nat} {N : Nat} {ts : List xT} (ht : xTok η ts) {k : xCo} {a b : xV} {x y : Int32} {r : Bool} (h : xCmpW ts k a b = some r) (hx : xOk η ad N a (.int x)) (hy : xOk η ad N b (.int y)) : xPr k x y ↔ r = true := by
  unfold xCmpW at h
  split at h
  · rename_i r' hr
    cases h
    exact xCmpV_ok hr hx hy
  · exact xCmpV_ok h (xWid_ok ht hx) (xWid_ok ht hy)
/-- a text's id: how long it is -/
def xStL : Nat → Option Nat
  | 1 => some 6
  | 2 => some 5
  | 3 => some 5
  | _ => none
/-- length and indexOf of a text -/
def xStC (rm : Nat × Nat × Nat × Nat) (rec : xRec) (k pc : Nat) (nxt : List xEn) (ls : List (Nat × xV)) (st : List xV) (hp : xH) (nx cs ss : Nat) : Bool := match k, st with
  | 4, .inr (.inr (.inl (some j))) :: st => decide (2 ≤ rm.1) && decide (40 ≤ rm.2.1) && decide (cs ≤ rm.2.2.1) && decide (ss ≤ rm.2.2.2) && decide (xSum st ≤ 8) && (match xStL j with
    | some n => rec (pc + 3) nxt ls (.inl (Int.ofNat n, Int.ofNat n) :: st) hp nx cs ss
    | none => false)
  | 5, a :: .inr (.inr (.inl (some j))) :: st => decide (4 ≤ rm.1) && decide (131 ≤ rm.2.1) && decide (cs ≤ rm.2.2.1) && decide (ss ≤ rm.2.2.2) && decide (xSum st ≤ 8) && xIsI a && (match xStL j with
    | some n => rec (pc + 3) nxt ls (.inl (Int.negSucc 0, Int.ofNat n - 1) :: st) hp nx cs ss
    | none => false)
  | _, _ => false
def xDo (M : xMi) (cons : List xCd) (ts : List xT) (sc : Option (Nat × List xV)) (fin : Bool) (rm : Nat × Nat × Nat × Nat) (nL : Nat) (chk : Option xV → xH → Nat → Nat → Nat → Bool) (rec : xRec) (pc : Nat) (ins : Instr) (len : Nat) (nxt : List xEn) (ls : List (Nat × xV)) (st : List xV) (hp : xH) (nx cs ss : Nat) : Bool := match ins with
  | .goto off => (match xTgt pc off with
    | some t => rec t (xSeek t M.1) ls st hp nx cs ss
    | none => false)
  | .if_icmp k off => (match st, xTgt pc off with
    | b :: a :: st, some t => xIsI a && xIsI b && (match xCmpW ts k a b with
      | some true => rec t (xSeek t M.1) ls st hp nx cs ss
      | some false => rec (pc + 3) nxt ls st hp nx cs ss
      | none => rec t (xSeek t M.1) ls st hp nx cs ss && rec (pc + 3) nxt ls st hp nx cs ss)
    | _, _ => false)
  | .ifCond k off => (match st, xTgt pc off with
    | a :: st, some t => xIsI a && (match xCmpW ts k a (.inl (Int.ofNat 0, Int.ofNat 0)) with
      | some true => rec t (xSeek t M.1) ls st hp nx cs ss
      | some false => rec (pc + 3) nxt ls st hp nx cs ss
      | none => rec t (xSeek t M.1) ls st hp nx cs ss && rec (pc + 3) nxt ls st hp nx cs ss)
    | _, _ => false)
  | .ifnull off => (match st, xTgt pc off with
    | .inr (.inr (.inl none)) :: st, some t => rec t (xSeek t M.1) ls st hp nx cs ss
    | .inr (.inr (.inl (some _))) :: st, _ => rec (pc + 3) nxt ls st hp nx cs ss
    | _, _ => false)
  | .ifnonnull off => (match st, xTgt pc off with
    | .inr (.inr (.inl (some _))) :: st, some t => rec t (xSeek t M.1) ls st hp nx cs ss
    | .inr (.inr (.inl none)) :: st, _ => rec (pc + 3) nxt ls st hp nx cs ss
    | _, _ => false)
  | .tableswitch dflt lo hi offs => (match st with
    | .inl i :: st => bif decide (i.2 < lo) || decide (hi < i.1) then (match xTgt pc dflt with
        | some t => rec t (xSeek t M.1) ls st hp nx cs ss
        | none => false)
      else xK i && (match offs[(i.1 - lo).toNat]? with
        | some off => (match xTgt pc off with
          | some t => rec t (xSeek t M.1) ls st hp nx cs ss
          | none => false)
        | none => false)
    | _ => false)
  | .iinc i n => (match xLg i ls with
    | some (.inl a) => xInR n && decide (i < nL) && rec (pc + 3) nxt (xS1 i (.inl (xAdd a (n, n))) ls) st hp nx cs ss
    | _ => false)
  | .getfield i => (match st, xAs i M.2.1 with
    | .inr (.inr (.inl (some k))) :: st, some f => (match xGet k hp with
      | some (.inl o) => o.1 == f.1 && (match o.2[f.2.1]? with
        | some a => rec (pc + 3) nxt ls (a :: st) hp nx cs ss
        | none => false)
      | _ => false)
    | _, _ => false)
  | .putfield i => (match st, xAs i M.2.1 with
    | a :: .inr (.inr (.inl (some k))) :: st, some f => (match xTake k hp with
      | some (.inl o, hp') => o.1 == f.1 && (!f.2.2.2 || fin) && xFit f.2.2.1 a && decide (f.2.1 < o.2.length) && rec (pc + 3) nxt ls st ((k, .inl (o.1, o.2.set f.2.1 a)) :: hp') nx cs ss
      | _ => false)
    | _, _ => false)
  | .arraylength => (match st with
    | .inr (.inr (.inl (some k))) :: st => (match xGet k hp with
      | some (.inr (_, n, _, _)) => decide (n < 2147483648) && rec (pc + 1) nxt ls (.inl (Int.ofNat n, Int.ofNat n) :: st) hp nx cs ss
      | some (.inl _) => false
      | none => (match sc with
        | some z => z.1 == k && decide (z.2.length < 2147483648) && rec (pc + 1) nxt ls (.inl (Int.ofNat z.2.length, Int.ofNat z.2.length) :: st) hp nx cs ss
        | none => false))
    | _ => false)
  | .aastore => (match st with
    | .inr (.inr (.inl (some k2))) :: .inl i :: .inr (.inr (.inl (some k))) :: st => (match xTake k hp with
      | some (.inr (t, n, d, ov), hp') => (match xGet k2 hp' with
        | some (.inl o) => ((t == 4 && o.1 == 0) || (t == 5 && o.1 == 9)) && xK i && decide (0 ≤ i.1) && decide (i.1 < n) && rec (pc + 1) nxt ls st ((k, .inr (t, n, d, xPut d i.1.toNat (.inr (.inr (.inl (some k2)))) ov)) :: hp') nx cs ss
        | _ => false)
      | _ => false)
    | _ => false)
  | .new i => (match xAs i M.2.2.2.1 with
    | some ci => decide (cs + 1 ≤ rm.2.2.1) && decide (ss + (xDt ci).length ≤ rm.2.2.2) && rec (pc + 3) nxt ls (.inr (.inr (.inl (some nx))) :: st) ((nx, .inl (ci, (xDt ci).map xDa)) :: hp) (nx + 1) (cs + 1) (ss + (xDt ci).length)
    | none => false)
  | .newarray a => (match st, xTyOf a with
    | .inl n :: st, some td => xK n && decide (0 ≤ n.1) && decide (n.1 ≤ 1000000) && decide (cs + 1 ≤ rm.2.2.1) && decide (ss + n.1.toNat ≤ rm.2.2.2) && rec (pc + 2) nxt ls (.inr (.inr (.inl (some nx))) :: st) ((nx, .inr (td.1, n.1.toNat, td.2, [])) :: hp) (nx + 1) (cs + 1) (ss + n.1.toNat)
    | _, _ => false)
  | .anewarray i => (match st, xAs i M.2.2.2.2.1 with
    | .inl n :: st, some t => xK n && decide (0 ≤ n.1) && decide (n.1 ≤ 1000000) && decide (cs + 1 ≤ rm.2.2.1) && decide (ss + n.1.toNat ≤ rm.2.2.2) && rec (pc + 3) nxt ls (.inr (.inr (.inl (some nx))) :: st) ((nx, .inr (t, n.1.toNat, .inr (.inr (.inl none)), [])) :: hp) (nx + 1) (cs + 1) (ss + n.1.toNat)
    | _, _ => false)
  | .ldc i => (match xAs i M.2.2.1 with
    | some (.inl a) => rec (pc + 2) nxt ls (.inl a :: st) hp nx cs ss
    | some (.inr (.inr (.inl (some k)))) => decide (k < nx) && rec (pc + 2) nxt ls (.inr (.inr (.inl (some k))) :: st) hp nx cs ss
    | _ => false)
  | .ldc_w i => (match xAs i M.2.2.1 with
    | some (.inl a) => rec (pc + 3) nxt ls (.inl a :: st) hp nx cs ss
    | some (.inr (.inr (.inl (some k)))) => decide (k < nx) && rec (pc + 3) nxt ls (.inr (.inr (.inl (some k))) :: st) hp nx cs ss
    | _ => false)
  | .ldc2_w i => (match xAs i M.2.2.1 with
    | some (.inr (.inl a)) => rec (pc + 3) nxt ls (.inr (.inl a) :: st) hp nx cs ss
    | _ => false)
  | .invokevirtual i => (match xAs i M.2.2.2.2.2 with
    | some k => xStC rm rec k pc nxt ls st hp nx cs ss
    | none => xInv cons ts rm rec (.invokevirtual i) i pc nxt ls st hp nx cs ss)
  | .invokestatic i => (match xAs i M.2.2.2.2.2 with
    | some k => xSp ts rm rec k pc nxt ls st hp nx cs ss
    | none => xInv cons ts rm rec (.invokestatic i) i pc nxt ls st hp nx cs ss)
  | .invokespecial i => (match xAs i M.2.2.2.2.2 with
    | some k => k == 0 && (match st with
      | .inr (.inr (.inl (some _))) :: st => decide (1 ≤ rm.1) && decide (xSum st + 12 ≤ rm.2.1) && rec (pc + 3) nxt ls st hp nx cs ss
      | _ => false)
    | none => xInv cons ts rm rec (.invokespecial i) i pc nxt ls st hp nx cs ss)
  | ins => bif decide (xRk ins < 9) then (match st with
      | [] => xRk ins == 3 && chk none hp nx cs ss
      | [a] => xRk ins == xKd a && chk (some a) hp nx cs ss
      | _ => false)
    else (match xLd ins with
    | some z => (match xLg z.2 ls with
      | some a => xKd a == z.1 && rec (pc + len) nxt ls (a :: st) hp nx cs ss
      | none => false)
    | none => (match xPure ts ins st with
      | some st' => rec (pc + len) nxt ls st' hp nx cs ss
      | none => (match xSd ins with
        | some z => (match st with
          | a :: st => xKd a == z.1 && decide (z.2 + xcat a ≤ nL) && rec (pc + len) nxt (bif xcat a == 2 then xS2 z.2 a ls else xS1 z.2 a ls) st hp nx cs ss
          | [] => false)
        | none => (match st with
          | .inl i :: .inr (.inr (.inl (some k))) :: st' => (match xGet k hp with
            | some (.inr (t, n, d, ov)) => xAld ins t && (match xIdx i n d ov with
              | some r => rec (pc + 1) nxt ls (r :: st') hp nx cs ss
              | none => false)
            | some (.inl _) => false
            | none => xSl sc rec ins i k pc nxt ls st' hp nx cs ss)
          | a :: .inl i :: .inr (.inr (.inl (some k))) :: st' => (match xTake k hp with
            | some (.inr (t, n, d, ov), hp') => xAst ins t && xK i && decide (0 ≤ i.1) && decide (i.1 < n) && xAfit t a && rec (pc + 1) nxt ls st' ((k, .inr (t, n, d, xPut d i.1.toNat a ov)) :: hp') nx cs ss
            | _ => false)
          | _ => false))))
def xPv : Instr → Option xV
  | .iconst n => bif xInR n then some (.inl (n, n)) else none
  | .bipush n => bif decide (-128 ≤ n) && decide (n ≤ 127) then some (.inl (n, n)) else none
  | .sipush n => bif decide (-32768 ≤ n) && decide (n ≤ 32767) then some (.inl (n, n)) else none
  | .lconst k => some (.inr (.inl (Int.ofNat k.val, Int.ofNat k.val)))
  | .aconst_null => some (.inr (.inr (.inl none)))
  | _ => none
theorem xPv_ok {ins : Instr} {v : xV} (h : xPv ins = some v) (ts : List xT) (st : List xV) : xPure ts ins st = some (v :: st) := by
  unfold xPv at h
  split at h
  · rename_i n
    by_cases hn : xInR n = true
    · rw [hn, cond_true] at h; cases h
      show (bif xInR n then some (.inl (n, n) :: st) else none) = _
      rw [hn, cond_true]
    · rw [show xInR n = false by simpa using hn, cond_false] at h; cases h
  · rename_i n
    by_cases hn : (decide (-128 ≤ n) && decide (n ≤ 127)) = true
    · rw [hn, cond_true] at h; cases h
      show (bif decide (-128 ≤ n) && decide (n ≤ 127) then some (.inl (n, n) :: st) else none) = _
      rw [hn, cond_true]
    · rw [show (decide (-128 ≤ n) && decide (n ≤ 127)) = false by simpa using hn, cond_false] at h; cases h
  · rename_i n
    by_cases hn : (decide (-32768 ≤ n) && decide (n ≤ 32767)) = true
    · rw [hn, cond_true] at h; cases h
      show (bif decide (-32768 ≤ n) && decide (n ≤ 32767) then some (.inl (n, n) :: st) else none) = _
      rw [hn, cond_true]
    · rw [show (decide (-32768 ≤ n) && decide (n ≤ 32767)) = false by simpa using hn, cond_false] at h; cases h
  · cases h; rfl
  · cases h; rfl
  · cases h
/-- the short ways of an entry are right -/
def xFaB (fl : List xFl) (ins : Instr) : xFa → Bool
  | .inl z => decide (xLd ins = some z)
  | .inr (.inl v) => decide (xPv ins = some v)
  | .inr (.inr (.inl z)) => decide (xSd ins = some z)
  | .inr (.inr (.inr (.inl (0, _, _)))) => decide (ins = .iadd)
  | .inr (.inr (.inr (.inl (1, a, b)))) => (match ins with
    | .getfield i => (match xAs i fl with
      | some f => f.1 == a && f.2.1 == b
      | none => false)
    | _ => false)
  | .inr (.inr (.inr (.inl (2, a, _)))) => xAld ins a
  | .inr (.inr (.inr (.inl _))) => false
  | .inr (.inr (.inr (.inr _))) => true
def xFast (rec : xRec) (slow : Bool) (nL : Nat) (fa : xFa) (pc len : Nat) (nxt : List xEn) (ls : List (Nat × xV)) (st : List xV) (hp : xH) (nx cs ss : Nat) : Bool := match fa with
  | .inl z => (match xLg z.2 ls with
    | some a => xKd a == z.1 && rec (pc + len) nxt ls (a :: st) hp nx cs ss
    | none => false)
  | .inr (.inl v) => rec (pc + len) nxt ls (v :: st) hp nx cs ss
  | .inr (.inr (.inl z)) => (match st with
    | a :: st => xKd a == z.1 && decide (z.2 + xcat a ≤ nL) && rec (pc + len) nxt (bif xcat a == 2 then xS2 z.2 a ls else xS1 z.2 a ls) st hp nx cs ss
    | [] => false)
  | .inr (.inr (.inr (.inl q))) => (match q.1, st with
    | 0, .inl b :: .inl a :: st => rec (pc + len) nxt ls (.inl (xAdd a b) :: st) hp nx cs ss
    | 1, .inr (.inr (.inl (some k))) :: st => (match xGet k hp with
      | some (.inl o) => o.1 == q.2.1 && (match o.2[q.2.2]? with
        | some a => rec (pc + 3) nxt ls (a :: st) hp nx cs ss
        | none => false)
      | _ => false)
    | 2, .inl i :: .inr (.inr (.inl (some k))) :: st => (match xGet k hp with
      | some (.inr (t, n, d, ov)) => t == q.2.1 && (match xIdx i n d ov with
        | some r => rec (pc + 1) nxt ls (r :: st) hp nx cs ss
        | none => false)
      | _ => slow)
    | _, _ => slow)
  | .inr (.inr (.inr (.inr _))) => slow
def xStep (M : xMi) (cons : List xCd) (ts : List xT) (sc : Option (Nat × List xV)) (fin : Bool) (rm : Nat × Nat × Nat × Nat) (nL : Nat) (chk : Option xV → xH → Nat → Nat → Nat → Bool) (rec : xRec) : xRec := fun pc cur ls st hp nx cs ss => match cur with
  | [] => false
  | q :: nxt => q.1 == pc && xFast rec (xDo M cons ts sc fin rm nL chk rec pc q.2.1 q.2.2.1 nxt ls st hp nx cs ss) nL q.2.2.2 pc q.2.2.1 nxt ls st hp nx cs ss
def xRun (M : xMi) (cons : List xCd) (ts : List xT) (sc : Option (Nat × List xV)) (fin : Bool) (rm : Nat × Nat × Nat × Nat) (nL : Nat) (chk : Option xV → xH → Nat → Nat → Nat → Bool) (n : Nat) : xRec := Nat.rec (fun _ _ _ _ _ _ _ _ => false) (fun _ ih => xStep M cons ts sc fin rm nL chk ih) n

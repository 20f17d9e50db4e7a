/-! locals; each instruction, told once and for all (jumps by their place, loads and numbers in one form) -/
def zeLg (i : Nat) : zeLs → Option zeV
  | [] => none
  | q :: r => bif q.1 == i then some q.2 else zeLg i r
def zeLk (ad : Nat → Nat) (a : Nat × zeV) (b : Nat × Value) : Prop := b.1 = a.1 ∧ zeOk ad a.2 b.2
theorem zeLg_ok {ad : Nat → Nat} {i : Nat} {a : zeV} : ∀ {ls : zeLs} {lv : List (Nat × Value)}, xAll (zeLk ad) ls lv → zeLg i ls = some a → ∃ (k : Nat) (v : Value), lv[k]? = some (i, v) ∧ zeOk ad a v
  | [], _, _, h => by simp [zeLg] at h
  | q :: ls, [], g, _ => g.elim
  | q :: ls, w :: lv, g, h => by
    unfold zeLg at h
    by_cases hq : (q.1 == i) = true
    · rw [hq, cond_true] at h
      cases h
      have hk : q.1 = i := by simpa using hq
      exact ⟨0, w.2, by rw [List.getElem?_cons_zero, ← hk, ← g.1.1], g.1.2⟩
    · rw [show (q.1 == i) = false by simpa using hq, cond_false] at h
      obtain ⟨k, v, h1, h2⟩ := zeLg_ok g.2 h
      exact ⟨k + 1, v, by rw [List.getElem?_cons_succ]; exact h1, h2⟩
/-- locals but those that a store at i takes away -/
def zeR1 (i : Nat) : zeLs → zeLs
  | [] => []
  | q :: r => bif (q.1 == i) || ((q.1 + 1 == i) && (zeCat q.2 == 2)) then zeR1 i r else q :: zeR1 i r
def zeR2 (i : Nat) : zeLs → zeLs
  | [] => []
  | q :: r => bif (q.1 == i) || ((q.1 == i + 1) || ((q.1 + 1 == i) && (zeCat q.2 == 2))) then zeR2 i r else q :: zeR2 i r
theorem zeR1_eq (i : Nat) : ∀ ls : zeLs, zeR1 i ls = ls.filter (fun q => !(q.1 == i) && !(q.1 + 1 == i && zeCat q.2 == 2))
  | [] => rfl
  | q :: r => by
    unfold zeR1
    rw [List.filter_cons, ← zeR1_eq i r]
    cases (q.1 == i) <;> cases (q.1 + 1 == i) <;> cases (zeCat q.2 == 2) <;> rfl
theorem zeR2_eq (i : Nat) : ∀ ls : zeLs, zeR2 i ls = ls.filter (fun q => !(q.1 == i) && (!(q.1 == i + 1) && !(q.1 + 1 == i && zeCat q.2 == 2)))
  | [] => rfl
  | q :: r => by
    unfold zeR2
    rw [List.filter_cons, ← zeR2_eq i r]
    cases (q.1 == i) <;> cases (q.1 == i + 1) <;> cases (q.1 + 1 == i) <;> cases (zeCat q.2 == 2) <;> rfl
theorem zeS1_ok {ad : Nat → Nat} {i : Nat} {a : zeV} {v : Value} {ls : zeLs} {lv : List (Nat × Value)} (h : xAll (zeLk ad) ls lv) (g : zeOk ad a v) : xAll (zeLk ad) ((i, a) :: zeR1 i ls) ((i, v) :: lv.filter (fun q => !(q.1 == i) && !(q.1 + 1 == i && q.2.category == 2))) := by
  rw [zeR1_eq]
  exact ⟨⟨rfl, g⟩, xAll_filter (fun a b q => by rw [q.1, zeOk_cat q.2]) h⟩
theorem zeS2_ok {ad : Nat → Nat} {i : Nat} {a : zeV} {v : Value} {ls : zeLs} {lv : List (Nat × Value)} (h : xAll (zeLk ad) ls lv) (g : zeOk ad a v) : xAll (zeLk ad) ((i, a) :: zeR2 i ls) ((i, v) :: lv.filter (fun q => !(q.1 == i) && (!(q.1 == i + 1) && !(q.1 + 1 == i && q.2.category == 2)))) := by
  rw [zeR2_eq]
  exact ⟨⟨rfl, g⟩, xAll_filter (fun a b q => by rw [q.1, zeOk_cat q.2]) h⟩
/-- the locals that live on, in a given order -/
def zePj : List Nat → zeLs → zeLs
  | [], _ => []
  | i :: is, ls => match zeLg i ls with
    | some v => (i, v) :: zePj is ls
    | none => zePj is ls
theorem zePj_ok {ad : Nat → Nat} {nL : Nat} {lsC : Array Slot} {ls : zeLs} {lv : List (Nat × Value)} (hl : lv_has lsC nL lv) (h : xAll (zeLk ad) ls lv) : ∀ is : List Nat, ∃ lv', lv_has lsC nL lv' ∧ xAll (zeLk ad) (zePj is ls) lv'
  | [] => ⟨[], ⟨hl.1, hl.2.1, fun _ h => by cases h⟩, trivial⟩
  | i :: is => by
    obtain ⟨lv', h1, h2⟩ := zePj_ok hl h is
    unfold zePj
    split
    · rename_i v hv
      obtain ⟨k, w, e1, e2⟩ := zeLg_ok h hv
      exact ⟨(i, w) :: lv', ⟨h1.1, h1.2.1, fun q hq => (List.mem_cons.mp hq).elim (fun e => by rw [e]; exact lv_at hl k e1) (h1.2.2 q)⟩, ⟨rfl, e2⟩, h2⟩
    · exact ⟨lv', h1, h2⟩
abbrev zeC : Type := Nat × Nat × zeT
def zePop : Nat → List zeV → List zeV → Option (List zeV × List zeV)
  | 0, st, acc => some (acc, st)
  | n + 1, v :: st, acc => zePop n st (v :: acc)
  | _ + 1, [], _ => none
def zeCs (i : Nat) : List zeC → Option (Nat × zeT)
  | [] => none
  | q :: r => bif q.1 == i then some q.2 else zeCs i r
def zeSum : List zeV → Nat
  | [] => 0
  | v :: st => zeCat v + zeSum st
def zeCall (cs : List zeC) (i : Nat) (st : List zeV) (σ : zeS) (S : List zeV → zeS → Prop) : Prop := match zeCs i cs with
  | some q => (match zePop q.1 st [] with
    | some z => zeSum z.2 ≤ 8 ∧ q.2 z.1 σ (fun r σ' => match r with
      | some v => S (v :: z.2) σ'
      | none => S z.2 σ')
    | none => False)
  | none => False
def zeTsw (dflt lo x : Int) (J : Int → Prop) : List Int → Int → Prop
  | [], j => (x < lo ∨ j ≤ x) → J dflt
  | t :: ts, j => (x = j → J t) ∧ zeTsw dflt lo x J ts (j + 1)
/-- an instruction in one form: a number is bipush (an int), sipush (a long); a load or a store tells its place; a field (class * 100 + slot) * 10 + kind; a jump where it leads -/
def zeDo (cs : List zeC) (dom : zeD) (ins : Instr) (ls : zeLs) (st : List zeV) (σ : zeS) (S : zeLs → List zeV → zeS → Prop) (J : Int → zeLs → List zeV → zeS → Prop) (R : Option zeV → zeS → Prop) : Prop := match ins with
  | .bipush n => S ls (.inl n :: st) σ
  | .sipush n => S ls (.inr (.inl (Int64.ofInt n)) :: st) σ
  | .aconst_null => S ls (.inr (.inr none) :: st) σ
  | .ldc k => S ls (.inr (.inr (some k)) :: st) σ
  | .iload i => (match zeLg i ls with
    | some v => zeKd v = 0 ∧ S ls (v :: st) σ
    | none => False)
  | .lload i => (match zeLg i ls with
    | some v => zeKd v = 1 ∧ S ls (v :: st) σ
    | none => False)
  | .aload i => (match zeLg i ls with
    | some v => zeKd v = 2 ∧ S ls (v :: st) σ
    | none => False)
  | .istore i => (match st with
    | .inl x :: st => S ((i, .inl x) :: zeR1 i ls) st σ
    | _ => False)
  | .lstore i => (match st with
    | .inr (.inl x) :: st => S ((i, .inr (.inl x)) :: zeR2 i ls) st σ
    | _ => False)
  | .astore i => (match st with
    | .inr (.inr x) :: st => S ((i, .inr (.inr x)) :: zeR1 i ls) st σ
    | _ => False)
  | .iinc i n => (match zeLg i ls with
    | some (.inl x) => S ((i, .inl (zw (x + n))) :: zeR1 i ls) st σ
    | _ => False)
  | .idiv => (match st with
    | .inl b :: .inl a :: st => ¬ b = 0 ∧ S ls (.inl (zeDiv a b) :: st) σ
    | _ => False)
  | .irem => (match st with
    | .inl b :: .inl a :: st => ¬ b = 0 ∧ S ls (.inl (zeRem a b) :: st) σ
    | _ => False)
  | .ineg => (match st with
    | .inl a :: st => S ls (.inl (zw (-a)) :: st) σ
    | _ => False)
  | .ldiv => (match st with
    | .inr (.inl b) :: .inr (.inl a) :: st => ¬ b = 0 ∧ S ls (.inr (.inl (a / b)) :: st) σ
    | _ => False)
  | .lrem => (match st with
    | .inr (.inl b) :: .inr (.inl a) :: st => ¬ b = 0 ∧ S ls (.inr (.inl (a - a / b * b)) :: st) σ
    | _ => False)
  | .ladd => (match st with
    | .inr (.inl b) :: .inr (.inl a) :: st => S ls (.inr (.inl (a + b)) :: st) σ
    | _ => False)
  | .lsub => (match st with
    | .inr (.inl b) :: .inr (.inl a) :: st => S ls (.inr (.inl (a - b)) :: st) σ
    | _ => False)
  | .lmul => (match st with
    | .inr (.inl b) :: .inr (.inl a) :: st => S ls (.inr (.inl (a * b)) :: st) σ
    | _ => False)
  | .land => (match st with
    | .inr (.inl b) :: .inr (.inl a) :: st => S ls (.inr (.inl (a &&& b)) :: st) σ
    | _ => False)
  | .lor => (match st with
    | .inr (.inl b) :: .inr (.inl a) :: st => S ls (.inr (.inl (a ||| b)) :: st) σ
    | _ => False)
  | .lxor => (match st with
    | .inr (.inl b) :: .inr (.inl a) :: st => S ls (.inr (.inl (a ^^^ b)) :: st) σ
    | _ => False)
  | .lshl => (match st with
    | .inl b :: .inr (.inl a) :: st => S ls (.inr (.inl (zlShl a b)) :: st) σ
    | _ => False)
  | .lshr => (match st with
    | .inl b :: .inr (.inl a) :: st => S ls (.inr (.inl (zlShr a b)) :: st) σ
    | _ => False)
  | .lushr => (match st with
    | .inl b :: .inr (.inl a) :: st => S ls (.inr (.inl (zlUsr a b)) :: st) σ
    | _ => False)
  | .i2l => (match st with
    | .inl a :: st => S ls (.inr (.inl (Int64.ofInt a)) :: st) σ
    | _ => False)
  | .l2i => (match st with
    | .inr (.inl a) :: st => S ls (.inl (zw a.toInt) :: st) σ
    | _ => False)
  | .i2b => (match st with
    | .inl a :: st => S ls (.inl ((a + 128) % 256 - 128) :: st) σ
    | _ => False)
  | .i2s => (match st with
    | .inl a :: st => S ls (.inl ((a + 32768) % 65536 - 32768) :: st) σ
    | _ => False)
  | .i2c => (match st with
    | .inl a :: st => S ls (.inl (a % 65536) :: st) σ
    | _ => False)
  | .lcmp => (match st with
    | .inr (.inl b) :: .inr (.inl a) :: st => S ls (.inl (zeCmp a b) :: st) σ
    | _ => False)
  | .dup => (match st with
    | a :: st => zeCat a = 1 ∧ S ls (a :: a :: st) σ
    | _ => False)
  | .pop => (match st with
    | a :: st => zeCat a = 1 ∧ S ls st σ
    | _ => False)
  | .dup_x1 => (match st with
    | a :: b :: st => (zeCat a = 1 ∧ zeCat b = 1) ∧ S ls (a :: b :: a :: st) σ
    | _ => False)
  | .dup2 => (match st with
    | .inr (.inl a) :: st => S ls (.inr (.inl a) :: .inr (.inl a) :: st) σ
    | a :: b :: st => (zeCat a = 1 ∧ zeCat b = 1) ∧ S ls (a :: b :: a :: b :: st) σ
    | _ => False)
  | .goto t => J t ls st σ
  | .if_icmp k t => (match st with
    | .inl b :: .inl a :: st => (zePr k a b → J t ls st σ) ∧ (¬ zePr k a b → S ls st σ)
    | _ => False)
  | .ifCond k t => (match st with
    | .inl a :: st => (zePr k a 0 → J t ls st σ) ∧ (¬ zePr k a 0 → S ls st σ)
    | _ => False)
  | .ifnull t => (match st with
    | .inr (.inr r) :: st => (r = none → J t ls st σ) ∧ (¬ r = none → S ls st σ)
    | _ => False)
  | .ifnonnull t => (match st with
    | .inr (.inr r) :: st => (¬ r = none → J t ls st σ) ∧ (r = none → S ls st σ)
    | _ => False)
  | .getfield q => (match st with
    | .inr (.inr (some k)) :: st => zeLy k dom = some (.inl (q / 1000)) ∧ S ls (zeFv σ k ((q / 10 % 100 : Nat) : Int) (q % 10) :: st) σ
    | _ => False)
  | .putfield q => (match st with
    | .inl x :: .inr (.inr (some k)) :: st => zeLy k dom = some (.inl (q / 1000)) ∧ (q % 10 = 0 ∨ q % 10 = 1 ∧ (x = 0 ∨ x = 1)) ∧ S ls st (zuI σ k ((q / 10 % 100 : Nat) : Int) x)
    | .inr (.inl x) :: .inr (.inr (some k)) :: st => zeLy k dom = some (.inl (q / 1000)) ∧ q % 10 = 2 ∧ S ls st (zuL σ k ((q / 10 % 100 : Nat) : Int) x)
    | .inr (.inr x) :: .inr (.inr (some k)) :: st => zeLy k dom = some (.inl (q / 1000)) ∧ q % 10 = 3 ∧ S ls st (zuR σ k ((q / 10 % 100 : Nat) : Int) x)
    | _ => False)
  | .arraylength => (match st with
    | .inr (.inr (some k)) :: st => (match zeLy k dom with
      | some (.inr q) => q.2 < 2147483648 ∧ S ls (.inl (q.2 : Int) :: st) σ
      | _ => False)
    | _ => False)
  | .iaload => (match st with
    | .inl i :: .inr (.inr (some k)) :: st => (match zeLy k dom with
      | some (.inr q) => q.1 = 1 ∧ (0 ≤ i ∧ i < (q.2 : Int)) ∧ S ls (.inl (σ.1 k i) :: st) σ
      | _ => False)
    | _ => False)
  | .baload => (match st with
    | .inl i :: .inr (.inr (some k)) :: st => (match zeLy k dom with
      | some (.inr q) => (q.1 = 0 ∨ q.1 = 3) ∧ (0 ≤ i ∧ i < (q.2 : Int)) ∧ S ls (.inl (σ.1 k i) :: st) σ
      | _ => False)
    | _ => False)
  | .laload => (match st with
    | .inl i :: .inr (.inr (some k)) :: st => (match zeLy k dom with
      | some (.inr q) => q.1 = 2 ∧ (0 ≤ i ∧ i < (q.2 : Int)) ∧ S ls (.inr (.inl (σ.2.1 k i)) :: st) σ
      | _ => False)
    | _ => False)
  | .aaload => (match st with
    | .inl i :: .inr (.inr (some k)) :: st => (match zeLy k dom with
      | some (.inr q) => (q.1 = 4 ∨ q.1 = 5) ∧ (0 ≤ i ∧ i < (q.2 : Int)) ∧ S ls (.inr (.inr (σ.2.2 k i)) :: st) σ
      | _ => False)
    | _ => False)
  | .iastore => (match st with
    | .inl x :: .inl i :: .inr (.inr (some k)) :: st => (match zeLy k dom with
      | some (.inr q) => q.1 = 1 ∧ (0 ≤ i ∧ i < (q.2 : Int)) ∧ S ls st (zuI σ k i x)
      | _ => False)
    | _ => False)
  | .bastore => (match st with
    | .inl x :: .inl i :: .inr (.inr (some k)) :: st => (match zeLy k dom with
      | some (.inr q) => (q.1 = 0 ∧ (-128 ≤ x ∧ x ≤ 127) ∨ q.1 = 3 ∧ (x = 0 ∨ x = 1)) ∧ (0 ≤ i ∧ i < (q.2 : Int)) ∧ S ls st (zuI σ k i x)
      | _ => False)
    | _ => False)
  | .lastore => (match st with
    | .inr (.inl x) :: .inl i :: .inr (.inr (some k)) :: st => (match zeLy k dom with
      | some (.inr q) => q.1 = 2 ∧ (0 ≤ i ∧ i < (q.2 : Int)) ∧ S ls st (zuL σ k i x)
      | _ => False)
    | _ => False)
  | .invokevirtual i => zeCall cs i st σ (fun st σ => S ls st σ)
  | .invokestatic i => zeCall cs i st σ (fun st σ => S ls st σ)
  | .invokespecial i => zeCall cs i st σ (fun st σ => S ls st σ)
  | .return_ => (match st with
    | [] => R none σ
    | _ => False)
  | .ireturn => (match st with
    | [.inl x] => R (some (.inl x)) σ
    | _ => False)
  | .lreturn => (match st with
    | [.inr (.inl x)] => R (some (.inr (.inl x))) σ
    | _ => False)
  | .areturn => (match st with
    | [.inr (.inr x)] => R (some (.inr (.inr x))) σ
    | _ => False)
  | .tableswitch dflt lo _ ts => (match st with
    | .inl x :: st => zeTsw dflt lo x (fun t => J t ls st σ) ts.toList lo
    | _ => False)
  | .lookupswitch dflt ps => (match st with
    | .inl x :: st => (∀ z ∈ ps.toList, x = z.1 → J z.2 ls st σ) ∧ ((∀ z ∈ ps.toList, ¬ x = z.1) → J dflt ls st σ)
    | _ => False)
  | ins => (match zeBF ins with
    | some f => (match st with
      | .inl b :: .inl a :: st => S ls (.inl (f a b) :: st) σ
      | _ => False)
    | none => False)
/-- the walk: from the first entry of cur on, up to n instructions; it rests where cuts tells -/
def zeCt (cuts : List (Nat × List Nat)) (t : Nat) : Option (List Nat) := match cuts with
  | [] => none
  | q :: r => bif q.1 == t then some q.2 else zeCt r t
def zeSk (t : Nat) : List zeEn → List zeEn
  | [] => []
  | q :: r => bif q.1 == t then q :: r else zeSk t r
abbrev zeG : Type := Nat → zeLs → List zeV → zeS → Prop
def zeWp (code : List zeEn) (cs : List zeC) (dom : zeD) (cuts : List (Nat × List Nat)) (G : zeG) (R : Option zeV → zeS → Prop) : Nat → List zeEn → zeLs → List zeV → zeS → Prop
  | _, [], _, _, _ => False
  | 0, q :: _, ls, st, σ => G q.1 ls st σ
  | n + 1, q :: nxt, ls, st, σ => zeDo cs dom q.2.1 ls st σ
    (fun ls st σ => match zeCt cuts (q.1 + q.2.2) with
      | some js => G (q.1 + q.2.2) (zePj js ls) st σ
      | none => zeWp code cs dom cuts G R n nxt ls st σ)
    (fun t ls st σ => match zeCt cuts t.toNat with
      | some js => G t.toNat (zePj js ls) st σ
      | none => zeWp code cs dom cuts G R n (zeSk t.toNat code) ls st σ) R

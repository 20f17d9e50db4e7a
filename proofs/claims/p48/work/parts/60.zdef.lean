/-! exact worlds: ints as whole numbers, longs as they are, references by their ids -/
abbrev zeV : Type := Int ⊕ (Int64 ⊕ Option Nat)
abbrev zeS : Type := (Nat → Int → Int) × (Nat → Int → Int64) × (Nat → Int → Option Nat)
abbrev zeD : Type := List (Nat × (Nat ⊕ (Nat × Nat)))
abbrev zeLs : Type := List (Nat × zeV)
abbrev zeT : Type := List zeV → zeS → (Option zeV → zeS → Prop) → Prop
abbrev zeEn : Type := Nat × Instr × Nat
def zeOk (ad : Nat → Nat) : zeV → Value → Prop
  | .inl x, v => ∃ y : Int32, v = .int y ∧ y.toInt = x
  | .inr (.inl x), v => v = .long x
  | .inr (.inr none), v => v = .null
  | .inr (.inr (some k)), v => v = .ref (ad k)
def zeCat : zeV → Nat
  | .inl _ => 1
  | .inr (.inl _) => 2
  | .inr (.inr _) => 1
def zeKd : zeV → Nat
  | .inl _ => 0
  | .inr (.inl _) => 1
  | .inr (.inr _) => 2
theorem zeOk_cat {ad : Nat → Nat} {a : zeV} {v : Value} (h : zeOk ad a v) : v.category = zeCat a := by
  rcases a with i | i | k
  · obtain ⟨x, rfl, -⟩ := h; rfl
  · cases h; rfl
  · cases k with
    | none => cases h; rfl
    | some k => cases h; rfl
theorem zeKd_ok {ad : Nat → Nat} {a : zeV} {v : Value} (g : zeOk ad a v) : (zeKd a = 0 ∧ ∃ x, v = .int x) ∨ (zeKd a = 1 ∧ ∃ x, v = .long x) ∨ (zeKd a = 2 ∧ (v = .null ∨ ∃ x, v = .ref x)) := by
  rcases a with i | i | k
  · obtain ⟨x, rfl, -⟩ := g; exact Or.inl ⟨rfl, x, rfl⟩
  · cases g; exact Or.inr (Or.inl ⟨rfl, i, rfl⟩)
  · cases k with
    | none => exact Or.inr (Or.inr ⟨rfl, Or.inl g⟩)
    | some k => exact Or.inr (Or.inr ⟨rfl, Or.inr ⟨_, g⟩⟩)
/-- a field by its kind -/
def zeFv (σ : zeS) (k : Nat) (j : Int) : Nat → zeV
  | 0 => .inl (σ.1 k j)
  | 1 => .inl (σ.1 k j)
  | 2 => .inr (.inl (σ.2.1 k j))
  | _ => .inr (.inr (σ.2.2 k j))
/-- a cell of the world, told by a state -/
def zeCe (ad : Nat → Nat) (cy : Nat → ClassId) (σ : zeS) (k : Nat) : (Nat ⊕ (Nat × Nat)) → va_E → Prop
  | .inl ci, .inr o => o.1 = ci ∧ o.2.length = (xDt ci).length ∧ ∀ (j t : Nat), (xDt ci)[j]? = some t → ∃ v, o.2[j]? = some v ∧ zeOk ad (zeFv σ k (j : Int) t) v
  | .inr (t, n), .inl (cA, n', a) => cA = cy t ∧ n' = n ∧ t < 6 ∧ (t = 2 → ∃ f, a = .inr (.inl f) ∧ ∀ i : Nat, i < n → f i = σ.2.1 k (i : Int)) ∧ ((t = 0 ∨ t = 1 ∨ t = 3) → ∃ f, a = .inl f ∧ ∀ i : Nat, i < n → (f i).toInt = σ.1 k (i : Int)) ∧ ((t = 4 ∨ t = 5) → ∃ f, a = .inr (.inr (.inr (.inr f))) ∧ ∀ i : Nat, i < n → f i = (σ.2.2 k (i : Int)).map ad)
  | .inl _, .inl _ => False
  | .inr _, .inr _ => False
def zeW (ad : Nat → Nat) (cy : Nat → ClassId) (σ : zeS) : zeD → va_W → Prop := xAll (fun p q => q.1 = ad p.1 ∧ zeCe ad cy σ p.1 p.2 q.2)
def zuI (σ : zeS) (k : Nat) (i v : Int) : zeS := (fun k' i' => if k' = k ∧ i' = i then v else σ.1 k' i', σ.2)
def zuL (σ : zeS) (k : Nat) (i : Int) (v : Int64) : zeS := (σ.1, fun k' i' => if k' = k ∧ i' = i then v else σ.2.1 k' i', σ.2.2)
def zuR (σ : zeS) (k : Nat) (i : Int) (v : Option Nat) : zeS := (σ.1, σ.2.1, fun k' i' => if k' = k ∧ i' = i then v else σ.2.2 k' i')
/-- two states that tell the same of a cell -/
def zeSm (σ τ : zeS) (k : Nat) : Prop := (∀ i, τ.1 k i = σ.1 k i) ∧ (∀ i, τ.2.1 k i = σ.2.1 k i) ∧ ∀ i, τ.2.2 k i = σ.2.2 k i
theorem zeFv_sm {σ τ : zeS} {k : Nat} (h : zeSm σ τ k) (j : Int) (t : Nat) : zeFv τ k j t = zeFv σ k j t := by
  match t with
  | 0 => show Sum.inl (τ.1 k j) = _; rw [h.1]; rfl
  | 1 => show Sum.inl (τ.1 k j) = _; rw [h.1]; rfl
  | 2 => show Sum.inr (Sum.inl (τ.2.1 k j)) = _; rw [h.2.1]; rfl
  | _ + 3 => show Sum.inr (Sum.inr (τ.2.2 k j)) = _; rw [h.2.2]; rfl
theorem zeCe_sm {ad : Nat → Nat} {cy : Nat → ClassId} {σ τ : zeS} {k : Nat} (h : zeSm σ τ k) : ∀ {L : Nat ⊕ (Nat × Nat)} {e : va_E}, zeCe ad cy σ k L e → zeCe ad cy τ k L e
  | .inl ci, .inr o, g => ⟨g.1, g.2.1, fun j t hj => by
    obtain ⟨v, h1, h2⟩ := g.2.2 j t hj
    exact ⟨v, h1, by rw [zeFv_sm h]; exact h2⟩⟩
  | .inr (t, n), .inl (cA, n', a), g => by
    obtain ⟨h1, h2, h3, h4, h5, h6⟩ := g
    refine ⟨h1, h2, h3, fun e => ?_, fun e => ?_, fun e => ?_⟩
    · obtain ⟨f, e1, e2⟩ := h4 e
      exact ⟨f, e1, fun i hi => by rw [h.2.1]; exact e2 i hi⟩
    · obtain ⟨f, e1, e2⟩ := h5 e
      exact ⟨f, e1, fun i hi => by rw [h.1]; exact e2 i hi⟩
    · obtain ⟨f, e1, e2⟩ := h6 e
      exact ⟨f, e1, fun i hi => by rw [h.2.2]; exact e2 i hi⟩
  | .inl _, .inl _, g => g.elim
  | .inr _, .inr _, g => g.elim
theorem zuI_sm {σ : zeS} {k k' : Nat} {i v : Int} (h : ¬ k' = k) : zeSm σ (zuI σ k i v) k' := ⟨fun j => by show (if k' = k ∧ j = i then v else _) = _; rw [if_neg (fun z => h z.1)], fun _ => rfl, fun _ => rfl⟩
theorem zuL_sm {σ : zeS} {k k' : Nat} {i : Int} {v : Int64} (h : ¬ k' = k) : zeSm σ (zuL σ k i v) k' := ⟨fun _ => rfl, fun j => by show (if k' = k ∧ j = i then v else _) = _; rw [if_neg (fun z => h z.1)], fun _ => rfl⟩
theorem zuR_sm {σ : zeS} {k k' : Nat} {i : Int} {v : Option Nat} (h : ¬ k' = k) : zeSm σ (zuR σ k i v) k' := ⟨fun _ => rfl, fun _ => rfl, fun j => by show (if k' = k ∧ j = i then v else _) = _; rw [if_neg (fun z => h z.1)]⟩
def zeLy (k : Nat) : zeD → Option (Nat ⊕ (Nat × Nat))
  | [] => none
  | q :: r => bif q.1 == k then some q.2 else zeLy k r
/-- the ids of a plan are apart -/
def zeNd : zeD → Bool
  | [] => true
  | q :: r => r.all (fun z => !(z.1 == q.1)) && zeNd r
theorem zeLy_get {ad : Nat → Nat} {cy : Nat → ClassId} {σ : zeS} {k : Nat} {L : Nat ⊕ (Nat × Nat)} : ∀ {dom : zeD} {ws : va_W}, zeW ad cy σ dom ws → zeLy k dom = some L → zeNd dom = true → ∃ (i : Nat) (x : va_E), ws[i]? = some (ad k, x) ∧ zeCe ad cy σ k L x ∧ ∀ (τ : zeS) (y : va_E), (∀ k', ¬ k' = k → zeSm σ τ k') → zeCe ad cy τ k L y → zeW ad cy τ dom (ws.set i (ad k, y))
  | [], _, _, h, _ => by simp [zeLy] at h
  | q :: r, [], g, _, _ => g.elim
  | q :: r, w :: ws, g, h, hn => by
    simp only [zeNd, Bool.and_eq_true, List.all_eq_true] at hn
    unfold zeLy at h
    by_cases hq : (q.1 == k) = true
    · rw [hq, cond_true] at h
      cases h
      have hk : q.1 = k := by simpa using hq
      refine ⟨0, w.2, by rw [List.getElem?_cons_zero, ← hk, ← g.1.1], by rw [← hk]; exact g.1.2, fun τ y h1 h2 => ?_⟩
      rw [List.set_cons_zero]
      refine ⟨⟨by rw [hk], by rw [hk]; exact h2⟩, ?_⟩
      have key : ∀ {r : zeD} {ws : va_W}, (∀ z ∈ r, (!(z.1 == q.1)) = true) → zeW ad cy σ r ws → zeW ad cy τ r ws := by
        intro r
        induction r with
        | nil => intro ws _ h; match ws, h with
          | [], _ => exact trivial
          | _ :: _, h => exact h.elim
        | cons a r ih => intro ws hr h; match ws, h with
          | [], h => exact h.elim
          | w :: ws, h => exact ⟨⟨h.1.1, zeCe_sm (h1 _ (by
              have := hr a List.mem_cons_self
              rw [← hk]
              simpa using this)) h.1.2⟩, ih (fun z hz => hr z (List.mem_cons_of_mem _ hz)) h.2⟩
      exact key hn.1 g.2
    · rw [show (q.1 == k) = false by simpa using hq, cond_false] at h
      obtain ⟨i, x, h1, h2, h3⟩ := zeLy_get g.2 h hn.2
      refine ⟨i + 1, x, by rw [List.getElem?_cons_succ]; exact h1, h2, fun τ y t1 t2 => ?_⟩
      rw [List.set_cons_succ]
      exact ⟨⟨g.1.1, zeCe_sm (t1 _ (by simpa using hq)) g.1.2⟩, h3 τ y t1 t2⟩
def zeRel (D : va_G) (cy : Nat → ClassId) (ad : Nat → Nat) (A : Nat → Prop) (H0 : Heap) (dom : zeD) (σ : zeS) (H : Heap) (locs : List Loc) : Prop := ∃ ws : va_W, zeW ad cy σ dom ws ∧ va_P D vwCl ws H ∧ va_D A ws ∧ va_S A H0 H locs
/-! numbers -/
def zw (x : Int) : Int := (x + 2147483648) % 4294967296 - 2147483648
theorem zw_bm (x : Int) : x.bmod (2 ^ 32) = zw x := by
  unfold zw
  rw [Int.bmod_def]
  have e : ((2 ^ 32 : Nat) : Int) = 4294967296 := by decide
  rw [e]
  split <;> omega
theorem zw_id {x : Int} (h1 : -2147483648 ≤ x) (h2 : x ≤ 2147483647) : zw x = x := by unfold zw; omega
theorem zw_in (x : Int) : -2147483648 ≤ zw x ∧ zw x ≤ 2147483647 := by unfold zw; omega
theorem zw_of (x : Int) : (Int32.ofInt x).toInt = zw x := by
  rw [Int32.toInt_ofInt]; exact zw_bm x
theorem zw_self (x : Int32) : zw x.toInt = x.toInt := zw_id (xI32 x).1 (xI32 x).2
def zeDiv (a b : Int) : Int := zw (a.tdiv b)
def zeRem (a b : Int) : Int := zw (a - zw (zw (a.tdiv b) * b))
def zeAnd (a b : Int) : Int := (Int32.ofInt a &&& Int32.ofInt b).toInt
def zeOr (a b : Int) : Int := (Int32.ofInt a ||| Int32.ofInt b).toInt
def zeXor (a b : Int) : Int := (Int32.ofInt a ^^^ Int32.ofInt b).toInt
def zeShl (a b : Int) : Int := (Int32.ofInt a <<< (Int32.ofInt b &&& 31)).toInt
def zeShr (a b : Int) : Int := (Int32.ofInt a >>> (Int32.ofInt b &&& 31)).toInt
def zeUsr (a b : Int) : Int := ((Int32.ofInt a).toUInt32 >>> ((Int32.ofInt b).toUInt32 &&& Int32.toUInt32 31)).toInt32.toInt
def zlShl (a : Int64) (b : Int) : Int64 := a <<< ((Int32.ofInt b).toInt64 &&& 63)
def zlShr (a : Int64) (b : Int) : Int64 := a >>> ((Int32.ofInt b).toInt64 &&& 63)
def zlUsr (a : Int64) (b : Int) : Int64 := (a.toUInt64 >>> ((Int32.ofInt b).toInt64.toUInt64 &&& Int64.toUInt64 63)).toInt64
def zeCmp (a b : Int64) : Int := if b.toInt < a.toInt then 1 else if a.toInt = b.toInt then 0 else -1
theorem zeOfI (x : Int32) : Int32.ofInt x.toInt = x := by
  apply Int32.toInt_inj.mp
  rw [zw_of, zw_self]
theorem zeRem_nn {a b : Int} (ha : 0 ≤ a) (ha2 : a ≤ 2147483647) (hb : 0 < b) : zeRem a b = a % b := by
  unfold zeRem
  rw [Int.tdiv_eq_ediv_of_nonneg ha]
  have h1 : 0 ≤ a / b := Int.ediv_nonneg ha (Int.le_of_lt hb)
  have h2 : a / b ≤ a := Int.ediv_le_self b ha
  have h3 := Int.mul_ediv_add_emod a b
  have h4 := Int.emod_nonneg a (show b ≠ 0 by omega)
  rw [Int.mul_comm] at h3
  have h5 : 0 ≤ a / b * b := Int.mul_nonneg h1 (Int.le_of_lt hb)
  rw [zw_id (x := a / b) (by omega) (by omega), zw_id (x := a / b * b) (by omega) (by omega), zw_id (by omega) (by omega)]
  omega
theorem zeDiv_nn {a b : Int} (ha : 0 ≤ a) (ha2 : a ≤ 2147483647) (hb : 0 < b) : zeDiv a b = a / b := by
  unfold zeDiv
  rw [Int.tdiv_eq_ediv_of_nonneg ha]
  have h1 : 0 ≤ a / b := Int.ediv_nonneg ha (Int.le_of_lt hb)
  have h2 : a / b ≤ a := Int.ediv_le_self b ha
  exact zw_id (by omega) (by omega)
theorem zeDiv_in (a b : Int) : -2147483648 ≤ zeDiv a b ∧ zeDiv a b ≤ 2147483647 := zw_in _
def zeBF : Instr → Option (Int → Int → Int)
  | .iadd => some (fun a b => zw (a + b))
  | .isub => some (fun a b => zw (a - b))
  | .imul => some (fun a b => zw (a * b))
  | .iand => some zeAnd
  | .ior => some zeOr
  | .ixor => some zeXor
  | .ishl => some zeShl
  | .ishr => some zeShr
  | .iushr => some zeUsr
  | _ => none
theorem zeBF_ok {ins : Instr} {g : Int → Int → Int} (h : zeBF ins = some g) : ∃ f, xBF ins = some f ∧ ∀ x y : Int32, (f x y).toInt = g x.toInt y.toInt := by
  unfold zeBF at h
  split at h <;> cases h
  · exact ⟨_, rfl, fun x y => by rw [Int32.toInt_add]; exact zw_bm _⟩
  · exact ⟨_, rfl, fun x y => by rw [Int32.toInt_sub]; exact zw_bm _⟩
  · exact ⟨_, rfl, fun x y => by rw [Int32.toInt_mul]; exact zw_bm _⟩
  · exact ⟨_, rfl, fun x y => by unfold zeAnd; rw [zeOfI, zeOfI]⟩
  · exact ⟨_, rfl, fun x y => by unfold zeOr; rw [zeOfI, zeOfI]⟩
  · exact ⟨_, rfl, fun x y => by unfold zeXor; rw [zeOfI, zeOfI]⟩
  · exact ⟨_, rfl, fun x y => by unfold zeShl; rw [zeOfI, zeOfI]⟩
  · exact ⟨_, rfl, fun x y => by unfold zeShr; rw [zeOfI, zeOfI]⟩
  · exact ⟨_, rfl, fun x y => by unfold zeUsr; rw [zeOfI, zeOfI]⟩
def zePr : xCo → Int → Int → Prop
  | .eq => fun x y => x = y
  | .ne => fun x y => ¬ x = y
  | .lt => fun x y => x < y
  | .ge => fun x y => y ≤ x
  | .gt => fun x y => y < x
  | .le => fun x y => x ≤ y
theorem zePr_ok (k : xCo) (x y : Int32) : xPr k x y ↔ zePr k x.toInt y.toInt := by
  cases k with
  | eq => exact Int32.toInt_inj.symm
  | ne => exact not_congr Int32.toInt_inj.symm
  | lt => exact Int32.lt_iff_toInt_lt
  | ge => exact Int32.le_iff_toInt_le
  | gt => exact Int32.lt_iff_toInt_lt
  | le => exact Int32.le_iff_toInt_le

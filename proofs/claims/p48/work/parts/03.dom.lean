/-! values, worlds: what is known of them, and what holds of it -/
def xAll {α β : Type} (r : α → β → Prop) : List α → List β → Prop
  | [], [] => True
  | a :: as, b :: bs => r a b ∧ xAll r as bs
  | [], _ :: _ => False
  | _ :: _, [] => False
theorem xAll_mono {α β : Type} {r r' : α → β → Prop} (h : ∀ a b, r a b → r' a b) : ∀ {as : List α} {bs : List β}, xAll r as bs → xAll r' as bs
  | [], [], _ => trivial
  | _ :: _, _ :: _, g => ⟨h _ _ g.1, xAll_mono h g.2⟩
  | [], _ :: _, g => g.elim
  | _ :: _, [], g => g.elim
theorem xAll_len {α β : Type} {r : α → β → Prop} : ∀ {as : List α} {bs : List β}, xAll r as bs → as.length = bs.length
  | [], [], _ => rfl
  | _ :: _, _ :: _, g => congrArg (· + 1) (xAll_len g.2)
  | [], _ :: _, g => g.elim
  | _ :: _, [], g => g.elim
theorem xAll_get {α β : Type} {r : α → β → Prop} : ∀ {as : List α} {bs : List β}, xAll r as bs → ∀ (i : Nat) (a : α), as[i]? = some a → ∃ b, bs[i]? = some b ∧ r a b
  | [], [], _, i, a, h => by simp at h
  | x :: xs, y :: ys, g, 0, a, h => by
    rw [List.getElem?_cons_zero] at h
    cases h
    exact ⟨y, rfl, g.1⟩
  | x :: xs, y :: ys, g, i + 1, a, h => by
    rw [List.getElem?_cons_succ] at h
    obtain ⟨b, h1, h2⟩ := xAll_get g.2 i a h
    exact ⟨b, by rw [List.getElem?_cons_succ]; exact h1, h2⟩
  | [], _ :: _, g, _, _, _ => g.elim
  | _ :: _, [], g, _, _, _ => g.elim
theorem xAll_set {α β : Type} {r : α → β → Prop} {a : α} {b : β} (hab : r a b) : ∀ {as : List α} {bs : List β} (i : Nat), xAll r as bs → xAll r (as.set i a) (bs.set i b)
  | [], [], _, _ => trivial
  | _ :: _, _ :: _, 0, g => ⟨hab, g.2⟩
  | _ :: _, _ :: _, i + 1, g => ⟨g.1, xAll_set hab i g.2⟩
  | [], _ :: _, _, g => g.elim
  | _ :: _, [], _, g => g.elim
theorem xAll_app {α β : Type} {r : α → β → Prop} : ∀ {as : List α} {bs : List β} {cs : List α} {ds : List β}, xAll r as bs → xAll r cs ds → xAll r (as ++ cs) (bs ++ ds)
  | [], [], _, _, _, h => h
  | _ :: _, _ :: _, _, _, g, h => ⟨g.1, xAll_app g.2 h⟩
  | [], _ :: _, _, _, g, _ => g.elim
  | _ :: _, [], _, _, g, _ => g.elim
theorem xAll_filter {α β : Type} {r : α → β → Prop} {f : α → Bool} {g : β → Bool} (h : ∀ a b, r a b → f a = g b) : ∀ {as : List α} {bs : List β}, xAll r as bs → xAll r (as.filter f) (bs.filter g)
  | [], [], _ => trivial
  | a :: as, b :: bs, q => by
    have e := h a b q.1
    have ih := xAll_filter h q.2
    rw [List.filter_cons, List.filter_cons, ← e]
    by_cases hf : f a = true
    · rw [if_pos hf, if_pos hf]; exact ⟨q.1, ih⟩
    · rw [if_neg hf, if_neg hf]; exact ih
  | [], _ :: _, q => q.elim
  | _ :: _, [], q => q.elim
abbrev xI : Type := Int × Int
abbrev xV : Type := xI ⊕ (xI ⊕ (Option Nat ⊕ Nat))
def xIn (i : xI) (x : Int) : Prop := i.1 ≤ x ∧ x ≤ i.2
/-- a long's bits that are 1 lie in a .. b; such a row of bits is told as (b + 1000, a) -/
def xBits (a b : Int) (x : Int64) : Prop := ∀ k : Nat, k < 64 → x.toBitVec.getLsbD k = true → a ≤ (k : Int) ∧ (k : Int) ≤ b
/-- an interval; (5000, 0): not 0; else a row of bits -/
def xInL (i : xI) (x : Int64) : Prop := if i.1 ≤ i.2 then xIn i x.toInt else if i.1 = 5000 then ¬ x = 0 else xBits i.2 (i.1 - 1000) x
theorem xInL_of {i : xI} {x : Int64} (h : xIn i x.toInt) : xInL i x := by
  unfold xInL
  rw [if_pos (Int.le_trans h.1 h.2)]
  exact h
theorem xI64 (x : Int64) : -9223372036854775808 ≤ x.toInt ∧ x.toInt ≤ 9223372036854775807 := by
  have h1 := Int64.minValue_le_toInt x
  have h2 := Int64.toInt_le x
  have e1 : Int64.minValue.toInt = -9223372036854775808 := by decide
  have e2 : Int64.maxValue.toInt = 9223372036854775807 := by decide
  constructor <;> omega
def xNL (i : xI) : xI := bif decide (i.1 ≤ i.2) then i else (-9223372036854775808, 9223372036854775807)
theorem xNL_ok {i : xI} {x : Int64} (h : xInL i x) : xIn (xNL i) x.toInt := by
  unfold xInL at h
  unfold xNL
  by_cases hi : i.1 ≤ i.2
  · rw [if_pos hi] at h
    rw [decide_eq_true hi, cond_true]
    exact h
  · rw [decide_eq_false hi, cond_false]
    exact xI64 x
/-- what is below what, of longs -/
def xLeL2 (a b : xI) : Bool := bif decide (b.1 ≤ b.2) then ((decide (b.1 ≤ -9223372036854775808) && decide (9223372036854775807 ≤ b.2)) || (decide (a.1 ≤ a.2) && (decide (b.1 ≤ a.1) && decide (a.2 ≤ b.2)))) else bif decide (b.1 = 5000) then (bif decide (a.1 ≤ a.2) then decide (0 < a.1) || decide (a.2 < 0) else decide (a.1 = 5000)) else (bif decide (a.1 ≤ a.2) then decide (a.1 = 0) && decide (a.2 = 0) else (!(decide (a.1 = 5000)) && (decide (b.2 ≤ a.2) && decide (a.1 ≤ b.1))))
theorem xBits_0 {a b : Int} {x : Int64} (h : x.toInt = 0) : xBits a b x := by
  intro k hk hb
  have e : x.toBitVec = 0#64 := by
    apply BitVec.eq_of_toInt_eq
    exact h
  rw [e] at hb
  simp at hb
theorem xLeL2_ok {a b : xI} {x : Int64} (h : xLeL2 a b = true) (g : xInL a x) : xInL b x := by
  unfold xLeL2 at h
  by_cases hb : b.1 ≤ b.2
  · rw [decide_eq_true hb, cond_true, Bool.or_eq_true] at h
    rcases h with h | h
    · rw [Bool.and_eq_true, decide_eq_true_eq, decide_eq_true_eq] at h
      obtain ⟨x1, x2⟩ := xI64 x
      exact xInL_of ⟨by omega, by omega⟩
    · rw [Bool.and_eq_true, Bool.and_eq_true, decide_eq_true_eq, decide_eq_true_eq, decide_eq_true_eq] at h
      unfold xInL at g
      rw [if_pos h.1] at g
      exact xInL_of ⟨Int.le_trans h.2.1 g.1, Int.le_trans g.2 h.2.2⟩
  · rw [decide_eq_false hb, cond_false] at h
    unfold xInL
    rw [if_neg hb]
    unfold xInL at g
    by_cases h5 : b.1 = 5000
    · rw [decide_eq_true h5, cond_true] at h
      rw [if_pos h5]
      by_cases ha : a.1 ≤ a.2
      · rw [decide_eq_true ha, cond_true, Bool.or_eq_true, decide_eq_true_eq, decide_eq_true_eq] at h
        rw [if_pos ha] at g
        obtain ⟨g1, g2⟩ := g
        intro e
        rw [e] at g1 g2
        have e0 : (0 : Int64).toInt = 0 := rfl
        omega
      · rw [decide_eq_false ha, cond_false, decide_eq_true_eq] at h
        rw [if_neg ha, if_pos h] at g
        exact g
    · rw [decide_eq_false h5, cond_false] at h
      rw [if_neg h5]
      by_cases ha : a.1 ≤ a.2
      · rw [decide_eq_true ha, cond_true, Bool.and_eq_true, decide_eq_true_eq, decide_eq_true_eq] at h
        rw [if_pos ha] at g
        exact xBits_0 (by obtain ⟨g1, g2⟩ := g; omega)
      · rw [decide_eq_false ha, cond_false, Bool.and_eq_true, Bool.and_eq_true, decide_eq_true_eq, decide_eq_true_eq] at h
        obtain ⟨hn, h⟩ := h
        have hn : ¬ a.1 = 5000 := by simpa using hn
        rw [if_neg ha, if_neg hn] at g
        intro k hk hx
        obtain ⟨g1, g2⟩ := g k hk hx
        constructor <;> omega
def xOk (η : Nat → Int32) (ad : Nat → Nat) (N : Nat) : xV → Value → Prop
  | .inl i, v => ∃ x : Int32, v = .int x ∧ xIn i x.toInt
  | .inr (.inl i), v => ∃ x : Int64, v = .long x ∧ xInL i x
  | .inr (.inr (.inl none)), v => v = .null
  | .inr (.inr (.inl (some k))), v => k < N ∧ v = .ref (ad k)
  | .inr (.inr (.inr j)), v => v = .int (η j)
def xcat : xV → Nat
  | .inr (.inl _) => 2
  | _ => 1
theorem xOk_cat {η : Nat → Int32} {ad : Nat → Nat} {N : Nat} {a : xV} {v : Value} (h : xOk η ad N a v) : v.category = xcat a := by
  rcases a with i | i | k | j
  · obtain ⟨x, rfl, -⟩ := h; rfl
  · obtain ⟨x, rfl, -⟩ := h; rfl
  · cases k with
    | none => cases h; rfl
    | some k => obtain ⟨-, rfl⟩ := h; rfl
  · cases h; rfl
theorem xOk_moved {η : Nat → Int32} {ad ad' : Nat → Nat} {N N' : Nat} (hN : N ≤ N') (had : ∀ k, k < N → ad' k = ad k) {a : xV} {v : Value} (h : xOk η ad N a v) : xOk η ad' N' a v := by
  rcases a with i | i | k | j
  · exact h
  · exact h
  · cases k with
    | none => exact h
    | some k => exact ⟨Nat.lt_of_lt_of_le h.1 hN, by rw [had k h.1]; exact h.2⟩
  · exact h
abbrev xA : Type := Nat × Nat × xV × List (Nat × xV)
abbrev xE : Type := (Nat × List xV) ⊕ xA
abbrev xH : Type := List (Nat × xE)
def xAt (d : xV) : List (Nat × xV) → Nat → xV
  | [], _ => d
  | q :: r, i => bif q.1 == i then q.2 else xAt d r i
def xAr (η : Nat → Int32) (ad : Nat → Nat) (N : Nat) (t n : Nat) (d : xV) (ov : List (Nat × xV)) (a : (Nat → Int32) ⊕ (Nat → Int64) ⊕ (Nat → UInt32) ⊕ (Nat → UInt64) ⊕ (Nat → Option Nat)) : Prop :=
  (t = 2 → ∃ f, a = .inr (.inl f) ∧ ∀ i, i < n → xOk η ad N (xAt d ov i) (.long (f i))) ∧
  ((t = 0 ∨ t = 1 ∨ t = 3) → ∃ f, a = .inl f ∧ ∀ i, i < n → xOk η ad N (xAt d ov i) (.int (f i))) ∧
  ((t = 4 ∨ t = 5) → ∃ f, a = .inr (.inr (.inr (.inr f))) ∧ ∀ i, i < n → xOk η ad N (xAt d ov i) (va_rf (f i)))
def xEok (η : Nat → Int32) (ad : Nat → Nat) (N : Nat) (cy : Nat → ClassId) : xE → va_E → Prop
  | .inl o, .inr o' => o'.1 = o.1 ∧ xAll (xOk η ad N) o.2 o'.2
  | .inr (t, n, d, ov), .inl (cA, n', a) => cA = cy t ∧ n' = n ∧ t < 6 ∧ xAr η ad N t n d ov a
  | .inl _, .inl _ => False
  | .inr _, .inr _ => False
def xWok (η : Nat → Int32) (ad : Nat → Nat) (N : Nat) (cy : Nat → ClassId) : xH → va_W → Prop := xAll (fun p q => q.1 = ad p.1 ∧ p.1 < N ∧ xEok η ad N cy p.2 q.2)
theorem xEok_moved {η : Nat → Int32} {ad ad' : Nat → Nat} {N N' : Nat} {cy : Nat → ClassId} (hN : N ≤ N') (had : ∀ k, k < N → ad' k = ad k) : ∀ {a : xE} {v : va_E}, xEok η ad N cy a v → xEok η ad' N' cy a v
  | .inl o, .inr o', h => ⟨h.1, xAll_mono (fun _ _ g => xOk_moved hN had g) h.2⟩
  | .inr (t, n, d, ov), .inl (cA, n', a), h => by
    obtain ⟨h1, h2, h3, h4, h5, h6⟩ := h
    refine ⟨h1, h2, h3, fun e => ?_, fun e => ?_, fun e => ?_⟩
    · obtain ⟨f, e1, e2⟩ := h4 e
      exact ⟨f, e1, fun i hi => xOk_moved hN had (e2 i hi)⟩
    · obtain ⟨f, e1, e2⟩ := h5 e
      exact ⟨f, e1, fun i hi => xOk_moved hN had (e2 i hi)⟩
    · obtain ⟨f, e1, e2⟩ := h6 e
      exact ⟨f, e1, fun i hi => xOk_moved hN had (e2 i hi)⟩
  | .inl _, .inl _, h => h.elim
  | .inr _, .inr _, h => h.elim
theorem xWok_moved {η : Nat → Int32} {ad ad' : Nat → Nat} {N N' : Nat} {cy : Nat → ClassId} (hN : N ≤ N') (had : ∀ k, k < N → ad' k = ad k) {hp : xH} {ws : va_W} (h : xWok η ad N cy hp ws) : xWok η ad' N' cy hp ws :=
  xAll_mono (fun _ _ g => ⟨by rw [had _ g.2.1]; exact g.1, Nat.lt_of_lt_of_le g.2.1 hN, xEok_moved hN had g.2.2⟩) h
/-! worlds in any order -/
theorem xP_mem {D : va_G} {cl : List vw_C} {ws : va_W} {H : Heap} : va_P D cl ws H ↔ ∀ q ∈ ws, va_at D cl q H := by
  constructor
  · intro h q hq
    obtain ⟨i, hi⟩ := List.getElem?_of_mem hq
    exact h i q hi
  · intro h k q hk
    exact h q (List.mem_of_getElem? hk)
theorem xP_perm {D : va_G} {cl : List vw_C} {ws ws' : va_W} {H : Heap} (h : va_P D cl ws H) (hp : ws.Perm ws') : va_P D cl ws' H :=
  xP_mem.mpr fun q hq => xP_mem.mp h q (hp.mem_iff.mpr hq)
theorem xD_mem {A : Nat → Prop} {ws : va_W} : va_D A ws ↔ (ws.map (·.1)).Nodup ∧ ∀ q ∈ ws, A q.1 := by
  constructor
  · intro h
    refine ⟨?_, fun q hq => ?_⟩
    · refine List.pairwise_iff_getElem.mpr fun i j hi hj hij heq => ?_
      have hi' : i < ws.length := by simpa using hi
      have hj' : j < ws.length := by simpa using hj
      have := h.1 i j ws[i] ws[j] (List.getElem?_eq_getElem hi') (List.getElem?_eq_getElem hj') (by simpa using heq)
      omega
    · obtain ⟨i, hi⟩ := List.getElem?_of_mem hq
      exact h.2 i q hi
  · intro h
    refine ⟨fun i j p q hp hq e => ?_, fun k q hk => h.2 q (List.mem_of_getElem? hk)⟩
    obtain ⟨hi, rfl⟩ := List.getElem?_eq_some_iff.mp hp
    obtain ⟨hj, rfl⟩ := List.getElem?_eq_some_iff.mp hq
    have hn := List.pairwise_iff_getElem.mp h.1
    rcases Nat.lt_trichotomy i j with hlt | hlt | hlt
    · exact absurd (by rw [List.getElem_map, List.getElem_map]; exact e) (hn i j (by simpa using hi) (by simpa using hj) hlt)
    · exact hlt
    · exact absurd (by rw [List.getElem_map, List.getElem_map]; exact e.symm) (hn j i (by simpa using hj) (by simpa using hi) hlt)
theorem xD_perm {A : Nat → Prop} {ws ws' : va_W} (h : va_D A ws) (hp : ws.Perm ws') : va_D A ws' := by
  have h' := xD_mem.mp h
  exact xD_mem.mpr ⟨(hp.map (·.1)).nodup_iff.mp h'.1, fun q hq => h'.2 q (hp.mem_iff.mpr hq)⟩
def xTake (k : Nat) : xH → Option (xE × xH)
  | [] => none
  | q :: r => bif q.1 == k then some (q.2, r) else match xTake k r with
    | some z => some (z.1, q :: z.2)
    | none => none
theorem xTake_ok {η : Nat → Int32} {ad : Nat → Nat} {N : Nat} {cy : Nat → ClassId} {k : Nat} : ∀ {hp : xH} {ws : va_W} {e : xE} {r : xH}, xWok η ad N cy hp ws → xTake k hp = some (e, r) → ∃ (x : va_E) (ws' : va_W), ws.Perm ((ad k, x) :: ws') ∧ k < N ∧ xEok η ad N cy e x ∧ xWok η ad N cy r ws'
  | [], _, _, _, _, h => by simp [xTake] at h
  | q :: hp, [], _, _, g, _ => g.elim
  | q :: hp, w :: ws, e, r, g, h => by
    unfold xTake at h
    by_cases hq : (q.1 == k) = true
    · rw [hq] at h
      simp only [cond_true, Option.some.injEq, Prod.mk.injEq] at h
      obtain ⟨rfl, rfl⟩ := h
      have hk : q.1 = k := by simpa using hq
      refine ⟨w.2, ws, ?_, by rw [← hk]; exact g.1.2.1, g.1.2.2, g.2⟩
      rw [← hk, ← g.1.1]
    · have hq' : (q.1 == k) = false := by simpa using hq
      rw [hq'] at h
      simp only [cond_false] at h
      cases hz : xTake k hp with
      | none => rw [hz] at h; simp at h
      | some z =>
        rw [hz] at h
        simp only [Option.some.injEq, Prod.mk.injEq] at h
        obtain ⟨rfl, rfl⟩ := h
        obtain ⟨x, ws', h1, h2, h3, h4⟩ := xTake_ok g.2 hz
        exact ⟨x, w :: ws', (h1.cons w).trans (List.Perm.swap _ _ _), h2, h3, g.1, h4⟩
def xGet (k : Nat) : xH → Option xE
  | [] => none
  | q :: r => bif q.1 == k then some q.2 else xGet k r
theorem xGet_ok {η : Nat → Int32} {ad : Nat → Nat} {N : Nat} {cy : Nat → ClassId} {k : Nat} : ∀ {hp : xH} {ws : va_W} {e : xE}, xWok η ad N cy hp ws → xGet k hp = some e → ∃ (i : Nat) (x : va_E), ws[i]? = some (ad k, x) ∧ xEok η ad N cy e x
  | [], _, _, _, h => by simp [xGet] at h
  | q :: hp, [], _, g, _ => g.elim
  | q :: hp, w :: ws, e, g, h => by
    unfold xGet at h
    by_cases hq : (q.1 == k) = true
    · rw [hq] at h
      simp only [cond_true, Option.some.injEq] at h
      subst h
      have hk : q.1 = k := by simpa using hq
      exact ⟨0, w.2, by rw [List.getElem?_cons_zero, ← hk, ← g.1.1], g.1.2.2⟩
    · have hq' : (q.1 == k) = false := by simpa using hq
      rw [hq'] at h
      simp only [cond_false] at h
      obtain ⟨i, x, h1, h2⟩ := xGet_ok g.2 h
      exact ⟨i + 1, x, by rw [List.getElem?_cons_succ]; exact h1, h2⟩
/-! what is less than what -/
def xLeV : xV → xV → Bool
  | .inl a, .inl b => decide (b.1 ≤ a.1) && decide (a.2 ≤ b.2)
  | .inr (.inl a), .inr (.inl b) => xLeL2 a b
  | .inr (.inr (.inl none)), .inr (.inr (.inl none)) => true
  | .inr (.inr (.inl (some a))), .inr (.inr (.inl (some b))) => a == b
  | .inr (.inr (.inr a)), .inr (.inr (.inr b)) => a == b
  | .inr (.inr (.inr _)), .inl b => decide (b.1 ≤ -2147483648) && decide (2147483647 ≤ b.2)
  | _, _ => false
theorem xI32 (x : Int32) : -2147483648 ≤ x.toInt ∧ x.toInt ≤ 2147483647 := by
  have h1 := Int32.minValue_le_toInt x
  have h2 := Int32.toInt_le x
  have e1 : Int32.minValue.toInt = -2147483648 := by decide
  have e2 : Int32.maxValue.toInt = 2147483647 := by decide
  constructor <;> omega
theorem xLeV_ok {η : Nat → Int32} {ad : Nat → Nat} {N : Nat} {a b : xV} {v : Value} (h : xLeV a b = true) (g : xOk η ad N a v) : xOk η ad N b v := by
  unfold xLeV at h
  split at h
  · simp only [Bool.and_eq_true, decide_eq_true_eq] at h
    obtain ⟨x, rfl, h1, h2⟩ := g
    exact ⟨x, rfl, Int.le_trans h.1 h1, Int.le_trans h2 h.2⟩
  · obtain ⟨x, rfl, h1⟩ := g
    exact ⟨x, rfl, xLeL2_ok h h1⟩
  · exact g
  · have e := eq_of_beq h
    subst e
    exact g
  · have e := eq_of_beq h
    subst e
    exact g
  · simp only [Bool.and_eq_true, decide_eq_true_eq] at h
    cases g
    exact ⟨_, rfl, Int.le_trans h.1 (xI32 _).1, Int.le_trans (xI32 _).2 h.2⟩
  · cases h
def xLeL : List xV → List xV → Bool
  | [], [] => true
  | a :: as, b :: bs => xLeV a b && xLeL as bs
  | _, _ => false
theorem xLeL_ok {η : Nat → Int32} {ad : Nat → Nat} {N : Nat} : ∀ {as bs : List xV} {vs : List Value}, xLeL as bs = true → xAll (xOk η ad N) as vs → xAll (xOk η ad N) bs vs
  | [], [], _, _, g => g
  | a :: as, b :: bs, [], _, g => g.elim
  | a :: as, b :: bs, v :: vs, h, g => by
    simp only [xLeL, Bool.and_eq_true] at h
    exact ⟨xLeV_ok h.1 g.1, xLeL_ok h.2 g.2⟩
  | [], _ :: _, _, h, _ => by simp [xLeL] at h
  | _ :: _, [], _, h, _ => by simp [xLeL] at h
/-- every place of the first row is below the second's -/
def xLeO (d : xV) (ov : List (Nat × xV)) (d' : xV) (ov' : List (Nat × xV)) : Bool :=
  xLeV d d' && ov.all (fun q => xLeV (xAt d ov q.1) (xAt d' ov' q.1)) && ov'.all (fun q => xLeV (xAt d ov q.1) (xAt d' ov' q.1))
theorem xAt_or (d : xV) : ∀ (ov : List (Nat × xV)) (i : Nat), (∃ q ∈ ov, q.1 = i) ∨ xAt d ov i = d
  | [], _ => Or.inr rfl
  | q :: r, i => by
    by_cases hq : q.1 = i
    · exact Or.inl ⟨q, List.mem_cons_self, hq⟩
    · rcases xAt_or d r i with ⟨z, h1, h2⟩ | h
      · exact Or.inl ⟨z, List.mem_cons_of_mem _ h1, h2⟩
      · right
        have : (q.1 == i) = false := by simpa using hq
        simp only [xAt, this, cond_false]
        exact h
theorem xLeO_ok {d d' : xV} {ov ov' : List (Nat × xV)} (h : xLeO d ov d' ov' = true) (i : Nat) : xLeV (xAt d ov i) (xAt d' ov' i) = true := by
  simp only [xLeO, Bool.and_eq_true, List.all_eq_true] at h
  rcases xAt_or d ov i with ⟨q, h1, rfl⟩ | h1
  · exact h.1.2 q h1
  · rcases xAt_or d' ov' i with ⟨q, h2, rfl⟩ | h2
    · exact h.2 q h2
    · rw [h1, h2]; exact h.1.1
def xLeE : xE → xE → Bool
  | .inl a, .inl b => a.1 == b.1 && xLeL a.2 b.2
  | .inr (t, n, d, ov), .inr (t', n', d', ov') => t == t' && n == n' && xLeO d ov d' ov'
  | _, _ => false
theorem xLeE_ok {η : Nat → Int32} {ad : Nat → Nat} {N : Nat} {cy : Nat → ClassId} : ∀ {a b : xE} {v : va_E}, xLeE a b = true → xEok η ad N cy a v → xEok η ad N cy b v
  | .inl a, .inl b, .inr o, h, g => by
    simp only [xLeE, Bool.and_eq_true, beq_iff_eq] at h
    exact ⟨by rw [← h.1]; exact g.1, xLeL_ok h.2 g.2⟩
  | .inr (t, n, d, ov), .inr (t', n', d', ov'), .inl (cA, m, a), h, g => by
    simp only [xLeE, Bool.and_eq_true, beq_iff_eq] at h
    obtain ⟨⟨rfl, rfl⟩, h⟩ := h
    obtain ⟨h1, h2, h3, h4, h5, h6⟩ := g
    refine ⟨h1, h2, h3, fun e => ?_, fun e => ?_, fun e => ?_⟩
    · obtain ⟨f, e1, e2⟩ := h4 e
      exact ⟨f, e1, fun i hi => xLeV_ok (xLeO_ok h i) (e2 i hi)⟩
    · obtain ⟨f, e1, e2⟩ := h5 e
      exact ⟨f, e1, fun i hi => xLeV_ok (xLeO_ok h i) (e2 i hi)⟩
    · obtain ⟨f, e1, e2⟩ := h6 e
      exact ⟨f, e1, fun i hi => xLeV_ok (xLeO_ok h i) (e2 i hi)⟩
  | .inl _, .inl _, .inl _, _, g => g.elim
  | .inr _, .inr _, .inr _, _, g => g.elim
  | .inl _, .inr _, _, h, _ => by simp [xLeE] at h
  | .inr _, .inl _, _, h, _ => by simp [xLeE] at h
/-- the callee's cells out of a world: the rest -/
def xTakeAll : xH → xH → Option xH
  | [], hp => some hp
  | q :: qs, hp => match xTake q.1 hp with
    | some z => bif xLeE z.1 q.2 then xTakeAll qs z.2 else none
    | none => none
theorem xTakeAll_ok {η : Nat → Int32} {ad : Nat → Nat} {N : Nat} {cy : Nat → ClassId} : ∀ {pre hp : xH} {ws : va_W} {r : xH}, xWok η ad N cy hp ws → xTakeAll pre hp = some r → ∃ wc wr : va_W, ws.Perm (wc ++ wr) ∧ xWok η ad N cy pre wc ∧ xWok η ad N cy r wr
  | [], hp, ws, r, g, h => by
    simp only [xTakeAll, Option.some.injEq] at h
    subst h
    exact ⟨[], ws, List.Perm.refl _, trivial, g⟩
  | q :: qs, hp, ws, r, g, h => by
    unfold xTakeAll at h
    cases hz : xTake q.1 hp with
    | none => rw [hz] at h; simp at h
    | some z =>
      rw [hz] at h
      simp only at h
      by_cases hl : xLeE z.1 q.2 = true
      · rw [hl, cond_true] at h
        obtain ⟨x, ws', h1, h2, h3, h4⟩ := xTake_ok g hz
        obtain ⟨wc, wr, g1, g2, g3⟩ := xTakeAll_ok h4 h
        exact ⟨(ad q.1, x) :: wc, wr, h1.trans (g1.cons _), ⟨⟨rfl, h2, xLeE_ok hl h3⟩, g2⟩, g3⟩
      · have hl' : xLeE z.1 q.2 = false := by simpa using hl
        rw [hl', cond_false] at h
        cases h

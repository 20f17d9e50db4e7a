/-! locals and branches -/
def xLg (i : Nat) : List (Nat × xV) → Option xV
  | [] => none
  | q :: r => bif q.1 == i then some q.2 else xLg i r
def xLok (η : Nat → Int32) (ad : Nat → Nat) (N : Nat) (a : Nat × xV) (b : Nat × Value) : Prop := b.1 = a.1 ∧ xOk η ad N a.2 b.2
theorem xLg_ok {η : Nat → Int32} {ad : Nat → Nat} {N : Nat} {i : Nat} {a : xV} : ∀ {ls : List (Nat × xV)} {lv : List (Nat × Value)}, xAll (xLok η ad N) ls lv → xLg i ls = some a → ∃ (k : Nat) (v : Value), lv[k]? = some (i, v) ∧ xOk η ad N a v
  | [], _, _, h => by simp [xLg] at h
  | q :: ls, [], g, _ => g.elim
  | q :: ls, w :: lv, g, h => by
    unfold xLg at h
    by_cases hq : (q.1 == i) = true
    · rw [hq, cond_true] at h
      cases h
      have hk : q.1 = i := by simpa using hq
      exact ⟨0, w.2, by rw [List.getElem?_cons_zero, ← hk, ← g.1.1], g.1.2⟩
    · rw [show (q.1 == i) = false by simpa using hq, cond_false] at h
      obtain ⟨k, v, h1, h2⟩ := xLg_ok g.2 h
      exact ⟨k + 1, v, by rw [List.getElem?_cons_succ]; exact h1, h2⟩
def xS1 (i : Nat) (v : xV) (ls : List (Nat × xV)) : List (Nat × xV) := (i, v) :: ls.filter (fun q => !(q.1 == i) && !(q.1 + 1 == i && xcat q.2 == 2))
def xS2 (i : Nat) (v : xV) (ls : List (Nat × xV)) : List (Nat × xV) := (i, v) :: ls.filter (fun q => !(q.1 == i) && (!(q.1 == i + 1) && !(q.1 + 1 == i && xcat q.2 == 2)))
theorem xS1_ok {η : Nat → Int32} {ad : Nat → Nat} {N : Nat} {i : Nat} {a : xV} {v : Value} {ls : List (Nat × xV)} {lv : List (Nat × Value)} (h : xAll (xLok η ad N) ls lv) (g : xOk η ad N a v) : xAll (xLok η ad N) (xS1 i a ls) ((i, v) :: lv.filter (fun q => !(q.1 == i) && !(q.1 + 1 == i && q.2.category == 2))) :=
  ⟨⟨rfl, g⟩, xAll_filter (fun a b q => by rw [q.1, xOk_cat q.2]) h⟩
theorem xS2_ok {η : Nat → Int32} {ad : Nat → Nat} {N : Nat} {i : Nat} {a : xV} {v : Value} {ls : List (Nat × xV)} {lv : List (Nat × Value)} (h : xAll (xLok η ad N) ls lv) (g : xOk η ad N a v) : xAll (xLok η ad N) (xS2 i a ls) ((i, v) :: lv.filter (fun q => !(q.1 == i) && (!(q.1 == i + 1) && !(q.1 + 1 == i && q.2.category == 2)))) :=
  ⟨⟨rfl, g⟩, xAll_filter (fun a b q => by rw [q.1, xOk_cat q.2]) h⟩
def xKd : xV → Nat
  | .inl _ => 0
  | .inr (.inl _) => 1
  | .inr (.inr (.inl _)) => 2
  | .inr (.inr (.inr _)) => 0
theorem xKd_ok {η : Nat → Int32} {ad : Nat → Nat} {N : Nat} {a : xV} {v : Value} (g : xOk η ad N a v) : (xKd a = 0 ∧ ∃ x, v = .int x) ∨ (xKd a = 1 ∧ ∃ x, v = .long x) ∨ (xKd a = 2 ∧ (v = .null ∨ ∃ x, v = .ref x)) := by
  rcases a with i | i | k | j
  · obtain ⟨x, rfl, -⟩ := g; exact Or.inl ⟨rfl, x, rfl⟩
  · obtain ⟨x, rfl, -⟩ := g; exact Or.inr (Or.inl ⟨rfl, x, rfl⟩)
  · cases k with
    | none => exact Or.inr (Or.inr ⟨rfl, Or.inl g⟩)
    | some k => exact Or.inr (Or.inr ⟨rfl, Or.inr ⟨_, g.2⟩⟩)
  · exact Or.inl ⟨rfl, _, g⟩
def xLd : Instr → Option (Nat × Nat)
  | .iload_n k => some (0, k.val)
  | .iload i => some (0, i)
  | .lload_n k => some (1, k.val)
  | .lload i => some (1, i)
  | .aload_n k => some (2, k.val)
  | .aload i => some (2, i)
  | _ => none
def xSd : Instr → Option (Nat × Nat)
  | .istore_n k => some (0, k.val)
  | .istore i => some (0, i)
  | .lstore_n k => some (1, k.val)
  | .lstore i => some (1, i)
  | .astore_n k => some (2, k.val)
  | .astore i => some (2, i)
  | _ => none
abbrev xCo : Type := Jvm.ClassFile.Cond
def xPr : xCo → Int32 → Int32 → Prop
  | .eq => fun x y => x = y
  | .ne => fun x y => ¬ x = y
  | .lt => fun x y => x < y
  | .ge => fun x y => y ≤ x
  | .gt => fun x y => y < x
  | .le => fun x y => x ≤ y
def xLt (a b : xI) : Option Bool := bif decide (a.2 < b.1) then some true else bif decide (b.2 ≤ a.1) then some false else none
def xEq (a b : xI) : Option Bool := bif xK a && xK b && decide (a.1 = b.1) then some true else bif decide (a.2 < b.1) || decide (b.2 < a.1) then some false else none
def xNot : Option Bool → Option Bool
  | some b => some (!b)
  | none => none
def xCmp : xCo → xI → xI → Option Bool
  | .eq, a, b => xEq a b
  | .ne, a, b => xNot (xEq a b)
  | .lt, a, b => xLt a b
  | .ge, a, b => xNot (xLt a b)
  | .gt, a, b => xLt b a
  | .le, a, b => xNot (xLt b a)
/-- .. also of two that are one named int -/
def xCmpV (k : xCo) (a b : xV) : Option Bool := match a, b with
  | .inl i, .inl j => xCmp k i j
  | .inr (.inr (.inr i)), .inr (.inr (.inr j)) => bif i == j then (match k with | .eq => some true | .ne => some false | _ => none) else none
  | _, _ => none
theorem xLt_ok {a b : xI} {x y : Int32} {r : Bool} (h : xLt a b = some r) (hx : xIn a x.toInt) (hy : xIn b y.toInt) : (x < y) ↔ r = true := by
  obtain ⟨x1, x2⟩ := hx
  obtain ⟨y1, y2⟩ := hy
  rw [Int32.lt_iff_toInt_lt]
  unfold xLt at h
  by_cases h1 : a.2 < b.1
  · rw [decide_eq_true h1, cond_true] at h; cases h
    exact ⟨fun _ => rfl, fun _ => by omega⟩
  · rw [decide_eq_false h1, cond_false] at h
    by_cases h2 : b.2 ≤ a.1
    · rw [decide_eq_true h2, cond_true] at h; cases h
      exact ⟨fun _ => by omega, fun z => by cases z⟩
    · rw [decide_eq_false h2, cond_false] at h; cases h
theorem xEq_ok {a b : xI} {x y : Int32} {r : Bool} (h : xEq a b = some r) (hx : xIn a x.toInt) (hy : xIn b y.toInt) : (x = y) ↔ r = true := by
  obtain ⟨x1, x2⟩ := hx
  obtain ⟨y1, y2⟩ := hy
  rw [← Int32.toInt_inj]
  unfold xEq at h
  by_cases h1 : (xK a && xK b && decide (a.1 = b.1)) = true
  · rw [h1, cond_true] at h; cases h
    simp only [xK, Bool.and_eq_true, decide_eq_true_eq] at h1
    exact ⟨fun _ => rfl, fun _ => by omega⟩
  · rw [show (xK a && xK b && decide (a.1 = b.1)) = false by simpa using h1, cond_false] at h
    by_cases h2 : (decide (a.2 < b.1) || decide (b.2 < a.1)) = true
    · rw [h2, cond_true] at h; cases h
      simp only [Bool.or_eq_true, decide_eq_true_eq] at h2
      exact ⟨fun _ => by omega, fun z => by cases z⟩
    · rw [show (decide (a.2 < b.1) || decide (b.2 < a.1)) = false by simpa using h2, cond_false] at h; cases h
theorem xNot_ok {o : Option Bool} {r : Bool} (h : xNot o = some r) : o = some (!r) := by
  cases o with
  | none => cases h
  | some b => cases h; simp
theorem xCmp_ok {k : xCo} {a b : xI} {x y : Int32} {r : Bool} (h : xCmp k a b = some r) (hx : xIn a x.toInt) (hy : xIn b y.toInt) : xPr k x y ↔ r = true := by
  have nle : ∀ x y : Int32, (y ≤ x) ↔ ¬ x < y := fun x y => by rw [Int32.le_iff_toInt_le, Int32.lt_iff_toInt_lt]; omega
  cases k with
  | eq => exact xEq_ok h hx hy
  | ne =>
    have := xEq_ok (xNot_ok h) hx hy
    show (¬ x = y) ↔ _
    rw [this]; cases r <;> simp
  | lt => exact xLt_ok h hx hy
  | ge =>
    have := xLt_ok (xNot_ok h) hx hy
    show (y ≤ x) ↔ _
    rw [nle, this]; cases r <;> simp
  | gt => exact xLt_ok h hy hx
  | le =>
    have := xLt_ok (xNot_ok h) hy hx
    show (x ≤ y) ↔ _
    rw [nle, this]; cases r <;> simp
theorem xCmpV_ok {η : Nat → Int32} {ad : Nat → Nat} {N : Nat} {k : xCo} {a b : xV} {x y : Int32} {r : Bool} (h : xCmpV k a b = some r) (hx : xOk η ad N a (.int x)) (hy : xOk η ad N b (.int y)) : xPr k x y ↔ r = true := by
  unfold xCmpV at h
  split at h
  · obtain ⟨x', e1, g1⟩ := hx
    obtain ⟨y', e2, g2⟩ := hy
    cases e1; cases e2
    exact xCmp_ok h g1 g2
  · rename_i i j
    by_cases hq : (i == j) = true
    · rw [hq, cond_true] at h
      have hij := eq_of_beq hq
      subst hij
      cases hx; cases hy
      split at h
      · cases h; exact ⟨fun _ => rfl, fun _ => rfl⟩
      · cases h; exact ⟨fun z => absurd rfl z, fun z => by cases z⟩
      · cases h
    · rw [show (i == j) = false by simpa using hq, cond_false] at h; cases h
  · cases h
section XLO
variable {p : Program} {l : Launch} {e : Env} {R : Room} {s : State} {m : MethodId} {args : Array Value} {below : List Frame} {meth : Method} {c : Code} {H : Heap} {locs : List Loc} {cells slots : Nat} {Q : State → Prop}
variable {cc : ByteArray} {pc : Nat} {ls : Array Slot} {rest : List Value}
theorem xIcmp_W (hx : p.tables.exec = Jvm.exec) (hb : c.code = cc) {k : xCo} {x y : Int32} {off : Int} {tgt : Nat} (hdg : decode cc pc = .ok (.if_icmp k off, 3)) (ht : (pc : Int) + off = (tgt : Int)) (kt : xPr k x y → W p l e R s m args below meth c H locs cells slots Q (F0 m tgt ls rest)) (kf : ¬ xPr k x y → W p l e R s m args below meth c H locs cells slots Q (F0 m (pc + 3) ls rest)) : W p l e R s m args below meth c H locs cells slots Q (F0 m pc ls (.int y :: .int x :: rest)) := by
  cases k with
  | eq => exact lv_icmp_eq hx hb hdg ht kt kf
  | ne => exact lv_icmp_ne hx hb hdg ht kt (fun h => kf (fun z => z h))
  | lt => exact lv_icmp_lt hx hb hdg ht kt kf
  | ge => exact lv_icmp_ge hx hb hdg ht kt kf
  | gt => exact lv_icmp_gt hx hb hdg ht kt kf
  | le => exact lv_icmp_le hx hb hdg ht kt kf
theorem xIf_W (hx : p.tables.exec = Jvm.exec) (hb : c.code = cc) {k : xCo} {x : Int32} {off : Int} {tgt : Nat} (hdg : decode cc pc = .ok (.ifCond k off, 3)) (ht : (pc : Int) + off = (tgt : Int)) (kt : xPr k x 0 → W p l e R s m args below meth c H locs cells slots Q (F0 m tgt ls rest)) (kf : ¬ xPr k x 0 → W p l e R s m args below meth c H locs cells slots Q (F0 m (pc + 3) ls rest)) : W p l e R s m args below meth c H locs cells slots Q (F0 m pc ls (.int x :: rest)) := by
  cases k with
  | eq => exact lv_if_eq hx hb hdg ht kt kf
  | ne => exact lv_if_ne hx hb hdg ht kt (fun h => kf (fun z => z h))
  | lt => exact lv_if_lt hx hb hdg ht kt kf
  | ge => exact lv_if_ge hx hb hdg ht kt kf
  | gt => exact lv_if_gt hx hb hdg ht kt kf
  | le => exact lv_if_le hx hb hdg ht kt kf
theorem xLd_W (hx : p.tables.exec = Jvm.exec) (hb : c.code = cc) {ins : Instr} {len kd i : Nat} (hi : xLd ins = some (kd, i)) (hdg : decode cc pc = .ok (ins, len)) (hlen : xLen ins = 0 ∨ xLen ins = len) {v : Value} (hl : ls[i]? = some (.val v)) (hv : (kd = 0 ∧ ∃ x, v = .int x) ∨ (kd = 1 ∧ ∃ x, v = .long x) ∨ (kd = 2 ∧ (v = .null ∨ ∃ x, v = .ref x))) (k : W p l e R s m args below meth c H locs cells slots Q (F0 m (pc + len) ls (v :: rest))) : W p l e R s m args below meth c H locs cells slots Q (F0 m pc ls rest) := by
  unfold xLd at hi
  split at hi <;> cases hi <;> obtain rfl := xl_of hlen (by simp [xLen])
  · rcases hv with ⟨-, x, rfl⟩ | ⟨h, -⟩ | ⟨h, -⟩
    · exact lv_iload_n hx hb hdg rfl hl k
    · cases h
    · cases h
  · rcases hv with ⟨-, x, rfl⟩ | ⟨h, -⟩ | ⟨h, -⟩
    · exact lv_iload hx hb hdg hl k
    · cases h
    · cases h
  · rcases hv with ⟨h, -⟩ | ⟨-, x, rfl⟩ | ⟨h, -⟩
    · cases h
    · exact lv_lload_n hx hb hdg rfl hl k
    · cases h
  · rcases hv with ⟨h, -⟩ | ⟨-, x, rfl⟩ | ⟨h, -⟩
    · cases h
    · exact lv_lload hx hb hdg hl k
    · cases h
  · rcases hv with ⟨h, -⟩ | ⟨h, -⟩ | ⟨-, rfl | ⟨x, rfl⟩⟩
    · cases h
    · cases h
    · exact lv_aload_nN hx hb hdg rfl hl k
    · exact lv_aload_n hx hb hdg rfl hl k
  · rcases hv with ⟨h, -⟩ | ⟨h, -⟩ | ⟨-, rfl | ⟨x, rfl⟩⟩
    · cases h
    · cases h
    · exact lv_aloadN hx hb hdg hl k
    · exact lv_aload hx hb hdg hl k
theorem xSd_W (hx : p.tables.exec = Jvm.exec) (hb : c.code = cc) {η : Nat → Int32} {ad : Nat → Nat} {N : Nat} {ins : Instr} {len i nL : Nat} {a : xV} (hi : xSd ins = some (xKd a, i)) (hdg : decode cc pc = .ok (ins, len)) (hlen : xLen ins = 0 ∨ xLen ins = len) {v : Value} (hv : xOk η ad N a v) {lv : List (Nat × Value)} {la : List (Nat × xV)} (hl : lv_has ls nL lv) (hla : xAll (xLok η ad N) la lv) (hn : i + xcat a ≤ nL) (k : ∀ (ls' : Array Slot) (lv' : List (Nat × Value)), lv_has ls' nL lv' → xAll (xLok η ad N) (bif xcat a == 2 then xS2 i a la else xS1 i a la) lv' → W p l e R s m args below meth c H locs cells slots Q (F0 m (pc + len) ls' rest)) : W p l e R s m args below meth c H locs cells slots Q (F0 m pc ls (v :: rest)) := by
  have e1 := xOk_cat hv
  have k1 : v.category = 1 → i < nL ∧ ∀ (ls' : Array Slot), lv_has ls' nL ((i, v) :: lv.filter (fun q => !(q.1 == i) && !(q.1 + 1 == i && q.2.category == 2))) → W p l e R s m args below meth c H locs cells slots Q (F0 m (pc + len) ls' rest) := by
    intro h
    rw [h] at e1
    refine ⟨by omega, fun ls' g => k ls' _ g ?_⟩
    rw [← e1]
    exact xS1_ok hla hv
  have k2 : v.category = 2 → i + 1 < nL ∧ ∀ (ls' : Array Slot), lv_has ls' nL ((i, v) :: lv.filter (fun q => !(q.1 == i) && (!(q.1 == i + 1) && !(q.1 + 1 == i && q.2.category == 2)))) → W p l e R s m args below meth c H locs cells slots Q (F0 m (pc + len) ls' rest) := by
    intro h
    rw [h] at e1
    refine ⟨by omega, fun ls' g => k ls' _ g ?_⟩
    rw [← e1]
    exact xS2_ok hla hv
  have hk := xKd_ok hv
  generalize xKd a = kd at hi hk
  unfold xSd at hi
  split at hi <;> cases hi <;> obtain rfl := xl_of hlen (by simp [xLen])
  · rcases hk with ⟨-, x, rfl⟩ | ⟨h, -⟩ | ⟨h, -⟩
    · obtain ⟨h1, h2⟩ := k1 rfl
      exact lv_istore_n hx hb hdg rfl hl h1 rfl h2
    · cases h
    · cases h
  · rcases hk with ⟨-, x, rfl⟩ | ⟨h, -⟩ | ⟨h, -⟩
    · obtain ⟨h1, h2⟩ := k1 rfl
      exact lv_istore hx hb hdg hl h1 rfl h2
    · cases h
    · cases h
  · rcases hk with ⟨h, -⟩ | ⟨-, x, rfl⟩ | ⟨h, -⟩
    · cases h
    · obtain ⟨h1, h2⟩ := k2 rfl
      exact lv_lstore_n hx hb hdg rfl hl h1 rfl h2
    · cases h
  · rcases hk with ⟨h, -⟩ | ⟨-, x, rfl⟩ | ⟨h, -⟩
    · cases h
    · obtain ⟨h1, h2⟩ := k2 rfl
      exact lv_lstore hx hb hdg hl h1 rfl h2
    · cases h
  · rcases hk with ⟨h, -⟩ | ⟨h, -⟩ | ⟨-, rfl | ⟨x, rfl⟩⟩
    · cases h
    · cases h
    · obtain ⟨h1, h2⟩ := k1 rfl
      exact lv_astore_nN hx hb hdg rfl hl h1 rfl h2
    · obtain ⟨h1, h2⟩ := k1 rfl
      exact lv_astore_n hx hb hdg rfl hl h1 rfl h2
  · rcases hk with ⟨h, -⟩ | ⟨h, -⟩ | ⟨-, rfl | ⟨x, rfl⟩⟩
    · cases h
    · cases h
    · obtain ⟨h1, h2⟩ := k1 rfl
      exact lv_astoreN hx hb hdg hl h1 rfl h2
    · obtain ⟨h1, h2⟩ := k1 rfl
      exact lv_astore hx hb hdg hl h1 rfl h2
end XLO

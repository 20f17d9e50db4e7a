/-! exact contracts: a method's answer as a function of what it is given, the worlds as they were -/
def zQ (D : va_G) (r : Value) (ws : va_W) (sz : Nat) : Array Value → State → Outcome → State → Prop := fun _ st oc t => oc = .returned (some r) ∧ va_P D vwCl ws t.heap ∧ va_F (va_A ws sz) st t
def zM_in : xM := (yX12_in, cX12_in, 3, some .boolean)
def zM_mhas : xM := (yX12_has, cX12_has, 3, some .boolean)
/-- the reference's in -/
def zIn (v lo hi : Int32) : Int32 := if lo ≤ v ∧ v ≤ hi then 1 else 0
/-- the reference's has -/
def zHs (x : Int64) (y : Int32) : Int32 := if (x >>> (y.toInt64 &&& 63)) &&& 1 = 1 then 1 else 0
set_option maxHeartbeats 4000000 in
theorem zIn_met (l : Launch) (D : va_G) (cy : Nat → ClassId) (ad : Nat → Nat) (sz : Nat) (ws : va_W) (v lo hi : Int32) : Met l yX12_in (xWd zM_in) (xRm (0, 0, 0, 0)) (xPc D cy ad [.int v, .int lo, .int hi] ws sz) (zQ D (.int (zIn v lo hi)) ws sz) 0 0 (va_A ws sz) := by
  refine xOfW (cc := cX12_in) (maxL := 3) (ret := some .boolean) (by decide) rfl ?_
  intro p e s m args below meth c s₁ B hml hv
  obtain ⟨rfl, hsz, hP, hK, hD0, hSS⟩ := hv
  subst hsz
  have hx := B.exec
  have hb := B.bytes
  have hr := B.returns
  have hlocks := B.notSynchronized
  have hS : va_S (va_A ws s.heap.size) s.heap s.heap [] := va_S.rf
  have hl := lv_entry [.int v, .int lo, .int hi] (n := 3) (Nat.le_of_ble_eq_true rfl)
  rw [lg_entry_eq]
  generalize (lg_sl [.int v, .int lo, .int hi] ++ List.replicate (3 - (lg_sl [.int v, .int lo, .int hi]).length) Slot.unset).toArray = ls at hl ⊢
  have hl : lv_has ls 3 [(0, .int v), (1, .int lo), (2, .int hi)] := hl
  have fin : ∀ r : Int32, (r = 0 ∨ r = 1) → zIn v lo hi = r → W p l e (headSpec (xWd zM_in) (xRm (0, 0, 0, 0))).room s m [Value.int v, .int lo, .int hi].toArray below meth c s.heap [] 0 0 (MQ below (zQ D (.int (zIn v lo hi)) ws s.heap.size) [Value.int v, .int lo, .int hi].toArray s 0 0 (va_A ws s.heap.size)) (F0 m 15 ls [.int r]) := by
    intro r hr01 he
    refine W.zret hx hb hr ?_ (fun t ht _ => ⟨by rw [he], by rw [ht]; exact hP, hS.F ht⟩) (fun _ h => by cases h) (show decode cX12_in 15 = .ok (.ireturn, 1) by decide +kernel)
    rcases hr01 with rfl | rfl <;> rfl
  have no : ¬ (lo ≤ v ∧ v ≤ hi) → W p l e (headSpec (xWd zM_in) (xRm (0, 0, 0, 0))).room s m [Value.int v, .int lo, .int hi].toArray below meth c s.heap [] 0 0 (MQ below (zQ D (.int (zIn v lo hi)) ws s.heap.size) [Value.int v, .int lo, .int hi].toArray s 0 0 (va_A ws s.heap.size)) (F0 m 14 ls []) := fun h => by
    refine lv_iconst (v := 0) hx hb (show decode cX12_in 14 = .ok (.iconst 0, 1) by decide +kernel) (by decide) ?_
    exact fin 0 (Or.inl rfl) (by unfold zIn; rw [if_neg h])
  refine lv_iload_n hx hb (show decode cX12_in 0 = .ok (.iload_n 0, 1) by decide +kernel) rfl (lv_at hl 0 rfl) ?_
  refine lv_iload_n hx hb (show decode cX12_in 1 = .ok (.iload_n 1, 1) by decide +kernel) rfl (lv_at hl 1 rfl) ?_
  refine lv_icmp_lt hx hb (show decode cX12_in 2 = .ok (.if_icmp .lt 12, 3) by decide +kernel) (tgt := 14) (by decide) (fun h => no (fun q => absurd q.1 (Int32.not_le.mpr h))) (fun h1 => ?_)
  refine lv_iload_n hx hb (show decode cX12_in 5 = .ok (.iload_n 0, 1) by decide +kernel) rfl (lv_at hl 0 rfl) ?_
  refine lv_iload_n hx hb (show decode cX12_in 6 = .ok (.iload_n 2, 1) by decide +kernel) rfl (lv_at hl 2 rfl) ?_
  refine lv_icmp_gt hx hb (show decode cX12_in 7 = .ok (.if_icmp .gt 7, 3) by decide +kernel) (tgt := 14) (by decide) (fun h => no (fun q => absurd q.2 (Int32.not_le.mpr h))) (fun h2 => ?_)
  refine lv_iconst (v := 1) hx hb (show decode cX12_in 10 = .ok (.iconst 1, 1) by decide +kernel) (by decide) ?_
  refine lv_goto hx hb (show decode cX12_in 11 = .ok (.goto 4, 3) by decide +kernel) (tgt := 15) (by decide) ?_
  exact fin 1 (Or.inr rfl) (by unfold zIn; rw [if_pos ⟨Int32.not_lt.mp h1, Int32.not_lt.mp h2⟩])
theorem zCmp (x y : Int64) : lg_cmp x y = 0 ↔ x = y := by
  have key : (lg_cmp x y).toInt = if y.toInt < x.toInt then 1 else if x.toInt = y.toInt then 0 else -1 := by
    unfold lg_cmp
    simp only [gt_iff_lt, Int64.lt_iff_toInt_lt, ← Int64.toInt_inj]
    split
    · rfl
    · split <;> rfl
  have e1 : (0 : Int32).toInt = 0 := rfl
  constructor
  · intro h
    rw [h, e1] at key
    apply Int64.toInt_inj.mp
    by_cases h1 : y.toInt < x.toInt
    · rw [if_pos h1] at key; omega
    · rw [if_neg h1] at key
      by_cases h2 : x.toInt = y.toInt
      · exact h2
      · rw [if_neg h2] at key; omega
  · rintro rfl
    apply Int32.toInt_inj.mp
    rw [key, if_neg (Int.lt_irrefl _), if_pos rfl]
    rfl
set_option maxHeartbeats 4000000 in
theorem zHs_met (l : Launch) (D : va_G) (cy : Nat → ClassId) (ad : Nat → Nat) (sz : Nat) (ws : va_W) (x : Int64) (y : Int32) : Met l yX12_has (xWd zM_mhas) (xRm (0, 0, 0, 0)) (xPc D cy ad [.long x, .int y] ws sz) (zQ D (.int (zHs x y)) ws sz) 0 0 (va_A ws sz) := by
  refine xOfW (cc := cX12_has) (maxL := 3) (ret := some .boolean) (by decide) rfl ?_
  intro p e s m args below meth c s₁ B hml hv
  obtain ⟨rfl, hsz, hP, hK, hD0, hSS⟩ := hv
  subst hsz
  have hx := B.exec
  have hb := B.bytes
  have hr := B.returns
  have hlocks := B.notSynchronized
  have hS : va_S (va_A ws s.heap.size) s.heap s.heap [] := va_S.rf
  have hl := lv_entry [.long x, .int y] (n := 3) (Nat.le_of_ble_eq_true rfl)
  rw [lg_entry_eq]
  generalize (lg_sl [.long x, .int y] ++ List.replicate (3 - (lg_sl [.long x, .int y]).length) Slot.unset).toArray = ls at hl ⊢
  have hl : lv_has ls 3 [(0, .long x), (2, .int y)] := hl
  have fin : ∀ r : Int32, (r = 0 ∨ r = 1) → zHs x y = r → W p l e (headSpec (xWd zM_mhas) (xRm (0, 0, 0, 0))).room s m [Value.long x, .int y].toArray below meth c s.heap [] 0 0 (MQ below (zQ D (.int (zHs x y)) ws s.heap.size) [Value.long x, .int y].toArray s 0 0 (va_A ws s.heap.size)) (F0 m 15 ls [.int r]) := by
    intro r hr01 he
    refine W.zret hx hb hr ?_ (fun t ht _ => ⟨by rw [he], by rw [ht]; exact hP, hS.F ht⟩) (fun _ h => by cases h) (show decode cX12_has 15 = .ok (.ireturn, 1) by decide +kernel)
    rcases hr01 with rfl | rfl <;> rfl
  refine lv_lload_n hx hb (show decode cX12_has 0 = .ok (.lload_n 0, 1) by decide +kernel) rfl (lv_at hl 0 rfl) ?_
  refine lv_iload_n hx hb (show decode cX12_has 1 = .ok (.iload_n 2, 1) by decide +kernel) rfl (lv_at hl 1 rfl) ?_
  refine lv_lshr hx hb (show decode cX12_has 2 = .ok (.lshr, 1) by decide +kernel) rfl ?_
  refine lv_lconst (v := 1) hx hb (show decode cX12_has 3 = .ok (.lconst 1, 1) by decide +kernel) rfl ?_
  refine lv_land hx hb (show decode cX12_has 4 = .ok (.land, 1) by decide +kernel) ?_
  refine lv_lconst (v := 1) hx hb (show decode cX12_has 5 = .ok (.lconst 1, 1) by decide +kernel) rfl ?_
  refine W.lcmp hx hb (show decode cX12_has 6 = .ok (.lcmp, 1) by decide +kernel) ?_
  refine lv_if_ne hx hb (show decode cX12_has 7 = .ok (.ifCond .ne 7, 3) by decide +kernel) (tgt := 14) (by decide) (fun hne => ?_) (fun heq => ?_)
  · refine lv_iconst (v := 0) hx hb (show decode cX12_has 14 = .ok (.iconst 0, 1) by decide +kernel) (by decide) ?_
    exact fin 0 (Or.inl rfl) (by unfold zHs; rw [if_neg (fun q => hne ((zCmp _ _).mpr q))])
  · refine lv_iconst (v := 1) hx hb (show decode cX12_has 10 = .ok (.iconst 1, 1) by decide +kernel) (by decide) ?_
    refine lv_goto hx hb (show decode cX12_has 11 = .ok (.goto 4, 3) by decide +kernel) (tgt := 15) (by decide) ?_
    exact fin 1 (Or.inr rfl) (by unfold zHs; rw [if_pos ((zCmp _ _).mp heq)])

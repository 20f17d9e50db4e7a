/-! FinedBySight.has of a row of bits: where it says yes, the place lies in the row -/
def zM_has : xM := (yX11_has, cX11_has, 3, some .boolean)
theorem zHasBit {x : Int64} {k : Fin 64} (h : ¬ ((x.toUInt64 >>> ((Int32.ofNat k.val).toInt64.toUInt64 &&& Int64.toUInt64 63)).toInt64 &&& 1) = 0) : x.toBitVec.getLsbD k.val = true := by
  cases hb : x.toBitVec.getLsbD k.val with
  | true => rfl
  | false =>
    refine absurd ?_ h
    have e1 : ∀ k : Fin 64, (((Int32.ofNat k.val).toInt64.toUInt64 &&& Int64.toUInt64 63).toBitVec % 64) = BitVec.ofNat 64 k.val := by decide +kernel
    have e2 : ∀ k : Fin 64, (BitVec.ofNat 64 k.val).toNat = k.val := by decide +kernel
    have e3 : ((x.toUInt64 >>> ((Int32.ofNat k.val).toInt64.toUInt64 &&& Int64.toUInt64 63)).toInt64 &&& 1).toBitVec = (x.toBitVec >>> k.val) &&& 1#64 := by
      rw [Int64.toBitVec_and]
      have e4 : (x.toUInt64 >>> ((Int32.ofNat k.val).toInt64.toUInt64 &&& Int64.toUInt64 63)).toInt64.toBitVec = x.toBitVec >>> k.val := by
        show (x.toUInt64 >>> ((Int32.ofNat k.val).toInt64.toUInt64 &&& Int64.toUInt64 63)).toBitVec = _
        rw [UInt64.toBitVec_shiftRight, e1 k]
        show x.toBitVec >>> (BitVec.ofNat 64 k.val).toNat = _
        rw [e2 k]
      rw [e4]
      rfl
    have e5 : (x.toBitVec >>> k.val) &&& 1#64 = 0#64 := by
      apply BitVec.eq_of_getLsbD_eq
      intro i hi
      rw [BitVec.getLsbD_and, BitVec.getLsbD_ushiftRight]
      by_cases h0 : i = 0
      · subst h0
        rw [Nat.add_zero, hb]
        simp
      · have : (1#64).getLsbD i = false := by
          simp [BitVec.getLsbD_one]
          omega
        rw [this, Bool.and_false]
        simp
    have e6 : ((x.toUInt64 >>> ((Int32.ofNat k.val).toInt64.toUInt64 &&& Int64.toUInt64 63)).toInt64 &&& 1).toBitVec = (0 : Int64).toBitVec := by
      rw [e3, e5]
      rfl
    exact Int64.toBitVec_inj.mp e6
def zK_has (a b lo hi : Int) (N : Nat) : yCo2 := ([.inr (.inl (b + 1000, a)), ySy 0], [], N, [(some (.inl (Int.ofNat 1, Int.ofNat 1)), [], [(max a lo, min b hi)]), (some (.inl (Int.ofNat 0, Int.ofNat 0)), [], [(lo, hi)])], (0, 0, 0, 0), [(lo, hi)])
set_option maxHeartbeats 4000000 in
theorem zHas {a b lo hi : Int} {N : Nat} (h : (decide (4 ≤ N) && (decide (0 ≤ lo) && (decide (hi ≤ 63) && (decide (a < b + 1000) && decide (b ≤ 63))))) = true) : yHolds zM_has (zK_has a b lo hi N) := by
  simp only [Bool.and_eq_true, decide_eq_true_eq] at h
  obtain ⟨h4N, h0, h1, h2, h3⟩ := h
  refine ⟨rfl, fun l D cy σ0 ad sz av ws hE0 hav hws => ?_⟩
  match av, hav with
  | [v0, v1], hav =>
  obtain ⟨g0, g1, -⟩ := hav
  obtain ⟨x, rfl, gx⟩ := g0
  have gx : xBits a b x := by
    have gx : xInL (b + 1000, a) x := gx
    unfold xInL at gx
    rw [if_neg (by show ¬ b + 1000 ≤ a; omega), if_neg (by show ¬ b + 1000 = 5000; omega)] at gx
    rw [show (b + 1000, a).1 - 1000 = b by show b + 1000 - 1000 = b; omega] at gx
    exact gx
  obtain ⟨y, hy, rfl⟩ : ∃ y : Int32, y = yη σ0 (yC 0 0) ∧ v1 = .int y := ⟨_, rfl, g1⟩
  have hiv : yIv [(lo, hi)] (yC 0 0) = some (lo + 0, hi + 0) := by
    have b0 := hE0 0 (lo, hi) rfl
    obtain ⟨b1, b2⟩ := b0
    dsimp only at b1 b2
    unfold yIv
    rw [yC_N (by decide) (by decide), yC_O (by decide) (by decide)]
    show (bif xInR (lo + 0) && xInR (hi + 0) then some (lo + 0, hi + 0) else none) = _
    rw [show (xInR (lo + 0) && xInR (hi + 0)) = true by
      unfold xInR
      simp only [Bool.and_eq_true, decide_eq_true_eq]
      constructor <;> constructor <;> omega]
    rfl
  obtain ⟨y1, ⟨y2, y3⟩, -⟩ := yIv_ok hE0 hiv
  rw [yC_N (by decide) (by decide), yC_O (by decide) (by decide)] at y1
  rw [← hy] at y1 y2 y3
  dsimp only at y2 y3
  have hσ : σ0 0 = y.toInt := by omega
  refine xOfW (cc := cX11_has) (maxL := 3) (ret := some .boolean) (by decide) rfl ?_
  intro p e s m args below meth c s₁ B hml hv
  obtain ⟨rfl, hsz, hP, hK, hD0, hSS⟩ := hv
  subst hsz
  have hx := B.exec
  have hb := B.bytes
  have hr := B.returns
  have hlocks := B.notSynchronized
  have hD := hD0.self (sz := s.heap.size)
  have hS : va_S (va_A ws s.heap.size) s.heap s.heap [] := va_S.rf
  have hl := lv_entry [.long x, .int y] (n := 3) (Nat.le_of_ble_eq_true rfl)
  rw [lg_entry_eq]
  generalize (lg_sl [.long x, .int y] ++ List.replicate (3 - (lg_sl [.long x, .int y]).length) Slot.unset).toArray = ls at hl ⊢
  have hl : lv_has ls 3 [(0, .long x), (2, .int y)] := hl
  have fin : ∀ (r : Int32) (z : Option xV × xH × List xI), z ∈ (zK_has a b lo hi N).2.2.2.1 → xRet (yη σ0) ad N z.1 (some (.int r)) → z.2.1 = [] → yOkE σ0 z.2.2 → (r = 0 ∨ r = 1) → W p l e (headSpec (xWd zM_has) (xRm (0, 0, 0, 0))).room s m [Value.long x, .int y].toArray below meth c s.heap [] 0 0 (MQ below (yQc (zK_has a b lo hi N) D cy σ0 ad ws s.heap.size) [Value.long x, .int y].toArray s 0 0 (va_A ws s.heap.size)) (F0 m 15 ls [.int r]) := by
    intro r z hz hret hc hE hr01
    refine W.zret hx hb hr ?_ (fun t ht _ => ⟨⟨z, some (.int r), [], hz, rfl, hret, ?_, ?_, ?_, hE⟩, hS.F ht⟩) (fun _ h => by cases h) (show decode cX11_has 15 = .ok (.ireturn, 1) by decide +kernel)
    · rcases hr01 with rfl | rfl <;> rfl
    · rw [hc]; trivial
    · exact xP_mem.mpr fun q hq => by cases hq
    · exact xD_mem.mpr ⟨List.nodup_nil, fun q hq => by cases hq⟩
  refine lv_lload_n hx hb (show decode cX11_has 0 = .ok (.lload_n 0, 1) by decide +kernel) rfl (lv_at hl 0 rfl) ?_
  refine lv_iload_n hx hb (show decode cX11_has 1 = .ok (.iload_n 2, 1) by decide +kernel) rfl (lv_at hl 1 rfl) ?_
  refine lv_lushr hx hb (show decode cX11_has 2 = .ok (.lushr, 1) by decide +kernel) rfl ?_
  refine lv_lconst (v := 1) hx hb (show decode cX11_has 3 = .ok (.lconst 1, 1) by decide +kernel) rfl ?_
  refine lv_land hx hb (show decode cX11_has 4 = .ok (.land, 1) by decide +kernel) ?_
  refine lv_lconst (v := 0) hx hb (show decode cX11_has 5 = .ok (.lconst 0, 1) by decide +kernel) rfl ?_
  refine W.lcmp hx hb (show decode cX11_has 6 = .ok (.lcmp, 1) by decide +kernel) ?_
  refine lv_if_eq hx hb (show decode cX11_has 7 = .ok (.ifCond .eq 7, 3) by decide +kernel) (tgt := 14) (by decide) (fun _ => ?_) (fun hne => ?_)
  · refine lv_iconst (v := 0) hx hb (show decode cX11_has 14 = .ok (.iconst 0, 1) by decide +kernel) (by decide) ?_
    exact fin 0 _ (List.mem_cons_of_mem _ List.mem_cons_self) ⟨0, rfl, Int.le_refl _, Int.le_refl _⟩ rfl hE0 (Or.inl rfl)
  · refine lv_iconst (v := 1) hx hb (show decode cX11_has 10 = .ok (.iconst 1, 1) by decide +kernel) (by decide) ?_
    refine lv_goto hx hb (show decode cX11_has 11 = .ok (.goto 4, 3) by decide +kernel) (tgt := 15) (by decide) ?_
    refine fin 1 _ List.mem_cons_self ⟨1, rfl, Int.le_refl _, Int.le_refl _⟩ rfl ?_ (Or.inr rfl)
    obtain ⟨k, rfl, ek⟩ := yOfK (y := y) (by omega) (by omega)
    have hbit : x.toBitVec.getLsbD k.val = true := zHasBit (fun z => hne (by rw [z]; rfl))
    obtain ⟨q1, q2⟩ := gx k.val k.isLt hbit
    intro j i hj
    match j, hj with
    | 0, hj =>
      cases hj
      rw [hσ, ek]
      rw [ek] at y2 y3
      constructor
      · show max a lo ≤ (k.val : Int); omega
      · show (k.val : Int) ≤ min b hi; omega
    | _ + 1, hj => cases hj

/-! sheet, exactly: the class -/
def zShC (kd v : Int) : Int := max 0 (min (if kd = 0 then (v + 128) % 256 - 128 else if kd = 1 then (v + 32768) % 65536 - 32768 else v) 9)
def zShS (kd sp : Int) : Nat → Int → Int
  | 0, _ => 0
  | n + 1, v => zShC kd v + zShS kd sp n (zw (v + sp))
def zShA (kd n v sp : Int) : Int := if ¬ (0 ≤ kd ∧ kd ≤ 3) ∨ 24 < n then -1 else if kd = 3 then -3 else if n < 0 then -2 else zShS kd sp n.toNat v
theorem zShC_b (kd v : Int) : 0 ≤ zShC kd v ∧ zShC kd v ≤ 9 := by
  unfold zShC
  generalize (if kd = 0 then (v + 128) % 256 - 128 else if kd = 1 then (v + 32768) % 65536 - 32768 else v) = x
  omega
theorem zSh_nx {kd sp n a b k c w : Int} (hc : c = zShC kd b) (h0 : 0 ≤ k) (h1 : k < n) (hn : n ≤ 24) (ha0 : 0 ≤ a) (ha1 : a ≤ 9 * k) (he : a + zShS kd sp (n - k).toNat b = w) : zw (a + c) = a + c ∧ 0 ≤ a + c ∧ a + c ≤ 9 * (k + 1) ∧ a + c + zShS kd sp (n - (k + 1)).toNat (zw (b + sp)) = w := by
  have hb := zShC_b kd b
  rw [← hc] at hb
  have e : (n - k).toNat = (n - (k + 1)).toNat + 1 := by omega
  rw [e] at he
  have he : a + (zShC kd b + zShS kd sp (n - (k + 1)).toNat (zw (b + sp))) = w := he
  rw [← hc] at he
  exact ⟨zw_id (by omega) (by omega), by omega, by omega, by omega⟩
def zFrF (σ τ : zeS) : Prop := ∀ k', ¬ k' = 23 → ¬ k' = 24 → zeSm σ τ k'
theorem zeSm_t {σ τ υ : zeS} {k : Nat} (h : zeSm σ τ k) (g : zeSm τ υ k) : zeSm σ υ k := ⟨fun i => (g.1 i).trans (h.1 i), fun i => (g.2.1 i).trans (h.2.1 i), fun i => (g.2.2 i).trans (h.2.2 i)⟩
theorem zFrF_23 {σ τ : zeS} (h : zFrF σ τ) (i v : Int) : zFrF σ (zuI τ 23 i v) := fun k h1 h2 => zeSm_t (h k h1 h2) (zuI_sm h1)
theorem zFrF_24 {σ τ : zeS} (h : zFrF σ τ) (i v : Int) : zFrF σ (zuI τ 24 i v) := fun k h1 h2 => zeSm_t (h k h1 h2) (zuI_sm h2)
theorem zFrF_r (σ : zeS) : zFrF σ σ := fun _ _ _ => ⟨fun _ => rfl, fun _ => rfl, fun _ => rfl⟩
theorem zCI_23 {σ : zeS} (h : zCI zGc σ) {n : Int} (h0 : 0 ≤ n) (h1 : n ≤ 24) : zCI zGc (zuI σ 23 1 n) := zCI_fld (j := 1) (o := (3, [.inr (.inr (.inl (some 24))), .inl (Int.ofNat 0, Int.ofNat 24)])) h (List.mem_of_getElem? (i := 19) rfl) rfl h0 h1
theorem zCI_24 {σ : zeS} (h : zCI zGc σ) {i v : Int} (h0 : 0 ≤ v) (h1 : v ≤ 9) : zCI zGc (zuI σ 24 i v) := zCI_row (t := 1) (n := 24) (lo := Int.negSucc 99) (hi := Int.ofNat 255) h (List.mem_of_getElem? (i := 20) rfl) (by have e : (Int.negSucc 99 : Int) = -100 := rfl; omega) (by have e : (Int.ofNat 255 : Int) = 255 := rfl; omega)
def tFl : zeT := fun as σ Q => match as with
  | [hv, .inl kd, .inl n, .inl v, .inl sp] => hv = .inr (.inr (some 23)) ∧ zCI zGc σ ∧ (0 ≤ kd ∧ kd ≤ 2) ∧ (0 ≤ n ∧ n ≤ 24) ∧ ∀ τ : zeS, zCI zGc τ → zFrF σ τ → Q (some (.inl (zShS kd sp n.toNat v))) τ
  | _ => False
noncomputable def zt_X3_fill : List zeEn := [(0, .aload 0, 1), (1, .bipush 0, 1), (2, .iload 2, 1), (3, .bipush 24, 2), (5, .invokestatic 100025, 3), (8, .invokestatic 100032, 3), (11, .putfield 3010, 3), (14, .bipush 0, 1), (15, .istore 5, 2), (17, .iload 3, 1), (18, .istore 6, 2), (20, .bipush 0, 1), (21, .istore 7, 2), (23, .iload 7, 2), (25, .aload 0, 1), (26, .getfield 3010, 3), (29, .if_icmp .ge 100, 3), (32, .iload 1, 1), (33, .ifCond .ne 42, 3), (36, .iload 6, 2), (38, .i2b, 1), (39, .goto 55, 3), (42, .iload 1, 1), (43, .bipush 1, 1), (44, .if_icmp .ne 53, 3), (47, .iload 6, 2), (49, .i2s, 1), (50, .goto 55, 3), (53, .iload 6, 2), (55, .istore 8, 2), (57, .aload 0, 1), (58, .getfield 3003, 3), (61, .iload 7, 2), (63, .bipush 0, 1), (64, .iload 8, 2), (66, .bipush 9, 2), (68, .invokestatic 100025, 3), (71, .invokestatic 100032, 3), (74, .iastore, 1), (75, .iload 5, 2), (77, .aload 0, 1), (78, .getfield 3003, 3), (81, .iload 7, 2), (83, .iaload, 1), (84, .iadd, 1), (85, .istore 5, 2), (87, .iload 6, 2), (89, .iload 4, 2), (91, .iadd, 1), (92, .istore 6, 2), (94, .iinc 7 1, 3), (97, .goto 23, 3), (100, .iload 5, 2), (102, .ireturn, 1)]
theorem zb_X3_fill : zeTb xI_X3_fill 9 xI_X3_fill.1 = some zt_X3_fill ∧ zeCq zt_X3_fill = true := by decide +kernel
noncomputable def zt_X11_sheet : List zeEn := [(0, .iload 1, 1), (1, .ifCond .lt 15, 3), (4, .iload 1, 1), (5, .bipush 3, 1), (6, .if_icmp .gt 15, 3), (9, .iload 2, 1), (10, .bipush 24, 2), (12, .if_icmp .le 17, 3), (15, .bipush (-1), 1), (16, .ireturn, 1), (17, .iload 1, 1), (18, .bipush 3, 1), (19, .if_icmp .ne 36, 3), (22, .aload 0, 1), (23, .getfield 11033, 3), (26, .getfield 23, 3), (29, .bipush 0, 1), (30, .putfield 3010, 3), (33, .bipush (-3), 2), (35, .ireturn, 1), (36, .iload 2, 1), (37, .ifCond .ge 45, 3), (40, .bipush (-2), 2), (42, .goto 60, 3), (45, .aload 0, 1), (46, .getfield 11033, 3), (49, .getfield 23, 3), (52, .iload 1, 1), (53, .iload 2, 1), (54, .iload 3, 1), (55, .iload 4, 2), (57, .invokevirtual 171, 3), (60, .ireturn, 1)]
theorem zb_X11_sheet : zeTb xI_X11_sheet 5 xI_X11_sheet.1 = some zt_X11_sheet ∧ zeCq zt_X11_sheet = true := by decide +kernel
set_option maxHeartbeats 4000000 in
set_option maxRecDepth 100000 in
theorem zc_fill (as : List zeV) (σ : zeS) (Q : Option zeV → zeS → Prop) (h : tFl as σ Q) : (∃ k, as.head? = some (.inr (.inr (some k))) ∧ zeLy k zdL = some (.inl 3)) ∧ zeMet xM_X3_fill (1, 40) zdL as σ Q := by
  unfold tFl at h
  split at h
  rotate_left
  · exact h.elim
  rename_i hv kd n v sp
  obtain ⟨rfl, hC, ⟨hk0, hk1⟩, ⟨hn0, hn1⟩, h⟩ := h
  refine ⟨⟨23, rfl, zdL_23⟩, ?_⟩
  refine zeMet_of (cs := [(25 + 100000, 2, tT_min), (32 + 100000, 2, tT_max)]) xK_X3_fill zb_X3_fill.1 zb_X3_fill.2 zdL_nd (zcc (zTminL ⟨by decide, by decide⟩ (by decide +kernel) tT_min_ok) (zcc (zTmaxL ⟨by decide, by decide⟩ (by decide +kernel) tT_max_ok) zcn)) (Nat.le_of_ble_eq_true rfl) (fun G step drop => ?_)
  have loop : ∀ (m : Nat) (τ : zeS) (a b k : Int), zCI zGc τ → zFrF σ τ → τ.1 23 1 = n → 0 ≤ k → k ≤ n → 0 ≤ a → a ≤ 9 * k → a + zShS kd sp (n - k).toNat b = zShS kd sp n.toNat v → (25 - k).toNat < m → G 23 [(0, .inr (.inr (some 23))), (1, .inl kd), (4, .inl sp), (5, .inl a), (6, .inl b), (7, .inl k)] [] τ := by
    intro m
    induction m with
    | zero => intro τ a b k _ _ _ _ _ _ _ _ hm; omega
    | succ m ih =>
      intro τ a b k g1 g2 g3 q0 q1 p0 p1 he hm
      have r := zGr23_0 g1
      have hzk : zw (k + 1) = k + 1 := zw_id (by omega) (by omega)
      have fin : n ≤ k → Q (some (.inl a)) τ := fun hk => by
        have e : (n - k).toNat = 0 := by omega
        rw [e] at he
        have he : a + 0 = _ := he
        rw [show a = zShS kd sp n.toNat v by omega]
        exact h τ g1 g2
      have nxt : ∀ c a' : Int, c = zShC kd b → a' = zw (a + c) → k < n → G 23 [(0, .inr (.inr (some 23))), (1, .inl kd), (4, .inl sp), (5, .inl a'), (6, .inl (zw (b + sp))), (7, .inl (k + 1))] [] (zuI τ 24 k c) := fun c a' hc ha hk => by
        obtain ⟨u1, u2, u3, u4⟩ := zSh_nx hc q0 hk hn1 p0 p1 he
        have hb := zShC_b kd b
        rw [← hc] at hb
        rw [ha, u1]
        exact ih _ _ _ _ (zCI_24 g1 hb.1 hb.2) (zFrF_24 g2 _ _) (by rw [zuI_1, if_neg (fun z => absurd z.1 (by decide))]; exact g3) (by omega) (by omega) u2 u3 u4 (by omega)
      refine step 40 [(23, [0, 1, 4, 5, 6, 7])] 23 _ _ _ ?_
      simp only [show xM_X3_fill.2.2.2 = some .int from rfl, zt_X3_fill, tT_min, tT_max, r, g3, hzk, zeSk, zWcL, zeDo, zeLg, zeKd, zeArgs, zeCat, zeCt, zRZL, zRIL, beq_iff_eq, Nat.reduceBEq, Nat.reduceEqDiff, Nat.reduceAdd, Nat.reduceDiv, Nat.reduceMod, cond_true, cond_false, zePr, zePj, zeBF, Int.toNat_natCast, Int.reduceToNat, true_and, and_true, if_false, if_true, zeFv, zeCall, zeCs, zePop, zeSum, zdL_4, zdL_5, zdL_20, zdL_23, zdL_24, zdL_37, zdL_64, zdL_81, zuI_1, zuI_2, zuI_3, Int.cast_ofNat_Int, Nat.reduceLeDiff, Int.reduceLT, Int.reduceEq, and_false, false_and, ite_true, ite_false, eq_self_iff_true, reduceCtorEq, or_true, true_or, Nat.zero_le, List.length_cons, Bool.or_false, Bool.false_or, Bool.and_false, Bool.false_and, Bool.true_or, Bool.or_true, Bool.true_and, Bool.and_true, zeR1]
      repeat' (first | assumption | (with_reducible refine And.intro ?_ ?_) | omega | exact fin (by omega) | exact nxt _ _ (by unfold zShC; first | rw [if_pos (by omega)] | rw [if_neg (by omega), if_pos (by omega)] | rw [if_neg (by omega), if_neg (by omega)]) rfl (by omega) | refine And.intro ?_ ?_ | intro _)
  have start : ∀ w : Int, w = n → G 23 [(0, .inr (.inr (some 23))), (1, .inl kd), (4, .inl sp), (5, .inl 0), (6, .inl v), (7, .inl 0)] [] (zuI σ 23 1 w) := fun w hw => by
    subst hw
    exact loop _ _ 0 v 0 (zCI_23 hC hn0 hn1) (zFrF_23 (zFrF_r σ) _ _) (by rw [zuI_1, if_pos ⟨rfl, rfl⟩]) (by omega) hn0 (by omega) (by omega) (by rw [Int.sub_zero]; omega) (Nat.lt_succ_self _)
  refine step 40 [(23, [0, 1, 4, 5, 6, 7])] 0 _ _ _ ?_
  simp only [show xM_X3_fill.2.2.2 = some .int from rfl, zt_X3_fill, tT_min, tT_max, zeSk, zWcL, zeDo, zeLg, zeKd, zeArgs, zeCat, zeCt, zRZL, zRIL, beq_iff_eq, Nat.reduceBEq, Nat.reduceEqDiff, Nat.reduceAdd, Nat.reduceDiv, Nat.reduceMod, cond_true, cond_false, zePr, zePj, zeBF, Int.toNat_natCast, Int.reduceToNat, true_and, and_true, if_false, if_true, zeFv, zeCall, zeCs, zePop, zeSum, zdL_4, zdL_5, zdL_20, zdL_23, zdL_24, zdL_37, zdL_64, zdL_81, zuI_1, zuI_2, zuI_3, Int.cast_ofNat_Int, Nat.reduceLeDiff, Int.reduceLT, Int.reduceEq, and_false, false_and, ite_true, ite_false, eq_self_iff_true, reduceCtorEq, or_true, true_or, Nat.zero_le, List.length_cons, Bool.or_false, Bool.false_or, Bool.and_false, Bool.false_and, Bool.true_or, Bool.or_true, Bool.true_and, Bool.and_true, zeR1]
  repeat' (first | assumption | (with_reducible refine And.intro ?_ ?_) | omega | exact start _ (by omega) | refine And.intro ?_ ?_ | intro _)
def tShE : zeT := fun as σ Q => match as with
  | [hv, .inl kd, .inl n, .inl v, .inl sp] => hv = .inr (.inr (some 4)) ∧ zCI zGc σ ∧ ∀ τ : zeS, zCI zGc τ → zFrF σ τ → Q (some (.inl (zShA kd n v sp))) τ
  | _ => False
set_option maxHeartbeats 4000000 in
set_option maxRecDepth 100000 in
theorem zc_sheetE (as : List zeV) (σ : zeS) (Q : Option zeV → zeS → Prop) (h : tShE as σ Q) : (∃ k, as.head? = some (.inr (.inr (some k))) ∧ zeLy k zdL = some (.inl 11)) ∧ zeMet xM_X11_sheet (2, 68) zdL as σ Q := by
  unfold tShE at h
  split at h
  rotate_left
  · exact h.elim
  rename_i hv kd n v sp
  obtain ⟨rfl, hC, h⟩ := h
  have r43 := zGr4_3 hC
  have r20 := zGr20_2 hC
  refine ⟨⟨4, rfl, zdL_4⟩, ?_⟩
  refine zeMet_of (cs := [(171, 5, tFl)]) xK_X11_sheet zb_X11_sheet.1 zb_X11_sheet.2 zdL_nd (zcc (Or.inl ⟨4, xM_X3_fill, 3, (1, 40), by decide, xl_RX11_171, rfl, ⟨by decide, by decide⟩, zc_fill⟩) zcn) (Nat.le_of_ble_eq_true rfl) (fun G step drop => ?_)
  have ans : ∀ (x : Int) (τ : zeS), zCI zGc τ → zFrF σ τ → x = zShA kd n v sp → Q (some (.inl x)) τ := fun x τ a b c => by
    rw [c]; exact h τ a b
  refine step 40 [] 0 _ _ _ ?_
  simp only [show xM_X11_sheet.2.2.2 = some .int from rfl, zt_X11_sheet, tFl, r43, r20, zeSk, zWcL, zeDo, zeLg, zeKd, zeArgs, zeCat, zeCt, zRZL, zRIL, beq_iff_eq, Nat.reduceBEq, Nat.reduceEqDiff, Nat.reduceAdd, Nat.reduceDiv, Nat.reduceMod, cond_true, cond_false, zePr, zePj, zeBF, Int.toNat_natCast, Int.reduceToNat, true_and, and_true, if_false, if_true, zeFv, zeCall, zeCs, zePop, zeSum, zdL_4, zdL_5, zdL_20, zdL_23, zdL_24, zdL_37, zdL_64, zdL_81, zuI_1, zuI_2, zuI_3, Int.cast_ofNat_Int, Nat.reduceLeDiff, Int.reduceLT, Int.reduceEq, and_false, false_and, ite_true, ite_false, eq_self_iff_true, reduceCtorEq, or_true, true_or, Nat.zero_le, List.length_cons, Bool.or_false, Bool.false_or, Bool.and_false, Bool.false_and, Bool.true_or, Bool.or_true, Bool.true_and, Bool.and_true, zeR1]
  repeat' (first | assumption | (with_reducible refine And.intro ?_ ?_) | omega | exact ans _ _ (by first | assumption | exact zCI_23 hC (by omega) (by omega)) (by first | assumption | exact zFrF_r σ | exact zFrF_23 (zFrF_r σ) _ _) (by unfold zShA; first | rw [if_pos (by omega)] | rw [if_neg (by omega), if_pos (by omega)] | rw [if_neg (by omega), if_neg (by omega), if_pos (by omega)] | rw [if_neg (by omega), if_neg (by omega), if_neg (by omega)]) | refine And.intro ?_ ?_ | intro _)

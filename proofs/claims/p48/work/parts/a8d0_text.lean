/-! the text and the fog, exactly: the class -/
theorem zGr5_0 {σ : zeS} (h : zCI zGc σ) : σ.2.2 5 0 = some 6 := by
  have hm : ∃ e, (5, e) ∈ zGc ∧ ∃ o, e = .inl o ∧ o.2[0]? = some (.inr (.inr (.inl (some 6)))) := ⟨_, List.mem_of_getElem? (i := 1) rfl, _, rfl, rfl⟩
  obtain ⟨e, h1, o, rfl, h2⟩ := hm
  exact (h _ h1 0 _ h2).1
theorem zGr4_0 {σ : zeS} (h : zCI zGc σ) : σ.2.2 4 0 = some 5 := by
  have hm : ∃ e, (4, e) ∈ zGc ∧ ∃ o, e = .inl o ∧ o.2[0]? = some (.inr (.inr (.inl (some 5)))) := ⟨_, List.mem_of_getElem? (i := 0) rfl, _, rfl, rfl⟩
  obtain ⟨e, h1, o, rfl, h2⟩ := hm
  exact (h _ h1 0 _ h2).1
theorem zdL_6 : zeLy 6 zdL = some (.inr (1, 80)) := by decide +kernel
theorem zRVL (Q : Option zeV → zeS → Prop) (σ : zeS) : zeRr none Q none σ = Q none σ := rfl
theorem zAnd255 (x : Int) : 0 ≤ zeAnd x 255 ∧ zeAnd x 255 ≤ 255 := by
  have key : ∀ x : BitVec 32, 0 ≤ (x &&& 255#32).toInt ∧ (x &&& 255#32).toInt ≤ 255 := by
    intro x
    have h1 : (x &&& 255#32).toNat ≤ 255 := by
      rw [BitVec.toNat_and]
      exact Nat.and_le_right
    have h2 : (x &&& 255#32).toInt = ((x &&& 255#32).toNat : Int) := by
      rw [BitVec.toInt_eq_toNat_cond, if_pos (by omega)]
    omega
  exact key (Int32.ofInt x).toBitVec
def zBc (v k : Int) : Int := zeAnd (zeUsr v (24 - 8 * k)) 255
theorem zBc_b (v k : Int) : 0 ≤ zBc v k ∧ zBc v k ≤ 255 := zAnd255 _
def zFrT (σ τ : zeS) : Prop := ∀ k', ¬ k' = 5 → ¬ k' = 6 → zeSm σ τ k'
theorem zFrT_r (σ : zeS) : zFrT σ σ := fun _ _ _ => ⟨fun _ => rfl, fun _ => rfl, fun _ => rfl⟩
theorem zFrT_5 {σ τ : zeS} (h : zFrT σ τ) (i v : Int) : zFrT σ (zuI τ 5 i v) := fun k h1 h2 => zeSm_t (h k h1 h2) (zuI_sm h1)
theorem zFrT_6 {σ τ : zeS} (h : zFrT σ τ) (i v : Int) : zFrT σ (zuI τ 6 i v) := fun k h1 h2 => zeSm_t (h k h1 h2) (zuI_sm h2)
theorem zCI_6 {σ : zeS} (h : zCI zGc σ) {i v : Int} (h0 : 0 ≤ v) (h1 : v ≤ 255) : zCI zGc (zuI σ 6 i v) := zCI_row (t := 1) (n := 80) (lo := Int.ofNat 0) (hi := Int.ofNat 255) h (List.mem_of_getElem? (i := 2) rfl) h0 h1
def tSg : zeT := fun as σ Q => match as with
  | [hv, .inl p] => hv = .inr (.inr (some 5)) ∧ zCI zGc σ ∧ (0 ≤ p ∧ p < σ.1 5 1 → Q (some (.inl (σ.1 6 p))) σ) ∧ (¬ (0 ≤ p ∧ p < σ.1 5 1) → Q (some (.inl (-1))) σ)
  | _ => False
noncomputable def zt_X7_signAt : List zeEn := [(0, .iload 1, 1), (1, .ifCond .lt 27, 3), (4, .iload 1, 1), (5, .aload 0, 1), (6, .getfield 7010, 3), (9, .if_icmp .ge 27, 3), (12, .iload 1, 1), (13, .bipush 80, 2), (15, .if_icmp .ge 27, 3), (18, .aload 0, 1), (19, .getfield 7003, 3), (22, .iload 1, 1), (23, .iaload, 1), (24, .goto 28, 3), (27, .bipush (-1), 1), (28, .ireturn, 1)]
theorem zb_X7_signAt : zeTb xI_X7_signAt 2 xI_X7_signAt.1 = some zt_X7_signAt ∧ zeCq zt_X7_signAt = true := by decide +kernel
noncomputable def zt_X7_append : List zeEn := [(0, .aload 0, 1), (1, .getfield 7010, 3), (4, .bipush 4, 1), (5, .iadd, 1), (6, .bipush 80, 2), (8, .if_icmp .le 13, 3), (11, .bipush 0, 1), (12, .ireturn, 1), (13, .bipush 0, 1), (14, .istore 2, 1), (15, .iload 2, 1), (16, .bipush 4, 1), (17, .if_icmp .ge 58, 3), (20, .aload 0, 1), (21, .getfield 7003, 3), (24, .aload 0, 1), (25, .getfield 7010, 3), (28, .iload 1, 1), (29, .bipush 24, 2), (31, .bipush 8, 2), (33, .iload 2, 1), (34, .imul, 1), (35, .isub, 1), (36, .iushr, 1), (37, .bipush 255, 3), (40, .iand, 1), (41, .iastore, 1), (42, .aload 0, 1), (43, .dup, 1), (44, .getfield 7010, 3), (47, .bipush 1, 1), (48, .iadd, 1), (49, .putfield 7010, 3), (52, .iinc 2 1, 3), (55, .goto 15, 3), (58, .bipush 1, 1), (59, .ireturn, 1)]
theorem zb_X7_append : zeTb xI_X7_append 3 xI_X7_append.1 = some zt_X7_append ∧ zeCq zt_X7_append = true := by decide +kernel
noncomputable def zt_X11_sign : List zeEn := [(0, .aload 0, 1), (1, .getfield 11003, 3), (4, .iload 1, 1), (5, .invokevirtual 103, 3), (8, .ifCond .eq 21, 3), (11, .aload 0, 1), (12, .getfield 11003, 3), (15, .getfield 7010, 3), (18, .goto 22, 3), (21, .bipush (-1), 1), (22, .ireturn, 1)]
theorem zb_X11_sign : zeTb xI_X11_sign 2 xI_X11_sign.1 = some zt_X11_sign ∧ zeCq zt_X11_sign = true := by decide +kernel
noncomputable def zt_X3_faultIn : List zeEn := [(0, .bipush 0, 1), (1, .istore 2, 1), (2, .iload 2, 1), (3, .aload 1, 1), (4, .getfield 7010, 3), (7, .if_icmp .ge 42, 3), (10, .aload 1, 1), (11, .iload 2, 1), (12, .invokevirtual 21, 3), (15, .istore 3, 1), (16, .iload 2, 1), (17, .bipush 24, 2), (19, .if_icmp .eq 34, 3), (22, .iload 3, 1), (23, .bipush 48, 2), (25, .if_icmp .lt 34, 3), (28, .iload 3, 1), (29, .bipush 57, 2), (31, .if_icmp .le 36, 3), (34, .iload 2, 1), (35, .ireturn, 1), (36, .iinc 2 1, 3), (39, .goto 2, 3), (42, .bipush (-1), 1), (43, .ireturn, 1)]
theorem zb_X3_faultIn : zeTb xI_X3_faultIn 4 xI_X3_faultIn.1 = some zt_X3_faultIn ∧ zeCq zt_X3_faultIn = true := by decide +kernel
noncomputable def zt_X3_read : List zeEn := [(0, .aload 0, 1), (1, .aload 1, 1), (2, .getfield 7010, 3), (5, .bipush 24, 2), (7, .invokestatic 100025, 3), (10, .putfield 3010, 3), (13, .bipush 0, 1), (14, .istore 2, 1), (15, .iload 2, 1), (16, .aload 0, 1), (17, .getfield 3010, 3), (20, .if_icmp .ge 43, 3), (23, .aload 0, 1), (24, .getfield 3003, 3), (27, .iload 2, 1), (28, .aload 1, 1), (29, .iload 2, 1), (30, .invokevirtual 21, 3), (33, .bipush 48, 2), (35, .isub, 1), (36, .iastore, 1), (37, .iinc 2 1, 3), (40, .goto 15, 3), (43, .return_, 1)]
theorem zb_X3_read : zeTb xI_X3_read 3 xI_X3_read.1 = some zt_X3_read ∧ zeCq zt_X3_read = true := by decide +kernel
noncomputable def zt_X11_fog : List zeEn := [(0, .aload 0, 1), (1, .getfield 11033, 3), (4, .getfield 23, 3), (7, .aload 0, 1), (8, .getfield 11003, 3), (11, .invokevirtual 141, 3), (14, .istore 1, 1), (15, .iload 1, 1), (16, .bipush (-1), 1), (17, .if_icmp .ne 34, 3), (20, .aload 0, 1), (21, .getfield 11033, 3), (24, .getfield 23, 3), (27, .aload 0, 1), (28, .getfield 11003, 3), (31, .invokevirtual 142, 3), (34, .aload 0, 1), (35, .getfield 11003, 3), (38, .bipush 0, 1), (39, .putfield 7010, 3), (42, .iload 1, 1), (43, .bipush (-1), 1), (44, .if_icmp .ne 60, 3), (47, .aload 0, 1), (48, .getfield 11033, 3), (51, .getfield 23, 3), (54, .getfield 3010, 3), (57, .goto 63, 3), (60, .bipush (-1), 1), (61, .iload 1, 1), (62, .isub, 1), (63, .ireturn, 1)]
theorem zb_X11_fog : zeTb xI_X11_fog 2 xI_X11_fog.1 = some zt_X11_fog ∧ zeCq zt_X11_fog = true := by decide +kernel
set_option maxHeartbeats 4000000 in
set_option maxRecDepth 100000 in
theorem zc_signAt (as : List zeV) (σ : zeS) (Q : Option zeV → zeS → Prop) (h : tSg as σ Q) : (∃ k, as.head? = some (.inr (.inr (some k))) ∧ zeLy k zdL = some (.inl 7)) ∧ zeMet xM_X7_signAt (0, 0) zdL as σ Q := by
  unfold tSg at h
  split at h
  rotate_left
  · exact h.elim
  rename_i hv p
  obtain ⟨rfl, hC, h1, h2⟩ := h
  have r5 := zGr5_0 hC
  have hb := zG51 hC
  refine ⟨⟨5, rfl, zdL_5⟩, ?_⟩
  refine zeMet_of (cs := []) xK_X7_signAt zb_X7_signAt.1 zb_X7_signAt.2 zdL_nd zcn (Nat.le_of_ble_eq_true rfl) (fun G step drop => ?_)
  refine step 40 [] 0 _ _ _ ?_
  simp only [show xM_X7_signAt.2.2.2 = some .int from rfl, zt_X7_signAt, r5, zeSk, zWcL, zeDo, zeLg, zeKd, zeArgs, zeCat, zeCt, zRZL, zRIL, zRVL, beq_iff_eq, Nat.reduceBEq, Nat.reduceEqDiff, Nat.reduceAdd, Nat.reduceDiv, Nat.reduceMod, cond_true, cond_false, zePr, zePj, zeBF, Int.toNat_natCast, Int.reduceToNat, true_and, and_true, if_false, if_true, zeFv, zeCall, zeCs, zePop, zeSum, zdL_4, zdL_5, zdL_6, zdL_20, zdL_23, zdL_24, zuI_1, zuI_2, zuI_3, Int.cast_ofNat_Int, Nat.reduceLeDiff, Int.reduceLT, Int.reduceEq, and_false, false_and, ite_true, ite_false, eq_self_iff_true, reduceCtorEq, or_true, true_or, Nat.zero_le, List.length_cons, Bool.or_false, Bool.false_or, Bool.and_false, Bool.false_and, Bool.true_or, Bool.or_true, Bool.true_and, Bool.and_true, zeR1]
  repeat' (first | assumption | (with_reducible refine And.intro ?_ ?_) | omega | (exfalso; assumption) | exact absurd trivial (by assumption) | exact h1 (by omega) | exact h2 (by omega) | refine And.intro ?_ ?_ | intro _)
def tAp : zeT := fun as σ Q => match as with
  | [hv, .inl v] => hv = .inr (.inr (some 5)) ∧ zCI zGc σ ∧ (80 < σ.1 5 1 + 4 → Q (some (.inl 0)) σ) ∧ (σ.1 5 1 + 4 ≤ 80 → ∀ τ : zeS, zCI zGc τ → zFrT σ τ → τ.1 5 1 = σ.1 5 1 + 4 → (∀ i : Int, ¬ (σ.1 5 1 ≤ i ∧ i < σ.1 5 1 + 4) → τ.1 6 i = σ.1 6 i) → (∀ j : Int, 0 ≤ j → j < 4 → τ.1 6 (σ.1 5 1 + j) = zBc v j) → Q (some (.inl 1)) τ)
  | _ => False
set_option maxHeartbeats 4000000 in
set_option maxRecDepth 100000 in
theorem zc_append (as : List zeV) (σ : zeS) (Q : Option zeV → zeS → Prop) (h : tAp as σ Q) : (∃ k, as.head? = some (.inr (.inr (some k))) ∧ zeLy k zdL = some (.inl 7)) ∧ zeMet xM_X7_append (0, 0) zdL as σ Q := by
  unfold tAp at h
  split at h
  rotate_left
  · exact h.elim
  rename_i hv v
  obtain ⟨rfl, hC, h1, h2⟩ := h
  have hb := zG51 hC
  refine ⟨⟨5, rfl, zdL_5⟩, ?_⟩
  refine zeMet_of (cs := []) xK_X7_append zb_X7_append.1 zb_X7_append.2 zdL_nd zcn (Nat.le_of_ble_eq_true rfl) (fun G step drop => ?_)
  have hz4 : zw (σ.1 5 1 + 4) = σ.1 5 1 + 4 := zw_id (by omega) (by omega)
  have loop : σ.1 5 1 + 4 ≤ 80 → ∀ (m : Nat) (τ : zeS) (k : Int), zCI zGc τ → zFrT σ τ → τ.1 5 1 = σ.1 5 1 + k → (∀ i : Int, ¬ (σ.1 5 1 ≤ i ∧ i < σ.1 5 1 + k) → τ.1 6 i = σ.1 6 i) → (∀ j : Int, 0 ≤ j → j < k → τ.1 6 (σ.1 5 1 + j) = zBc v j) → 0 ≤ k → k ≤ 4 → (5 - k).toNat < m → G 15 [(0, .inr (.inr (some 5))), (1, .inl v), (2, .inl k)] [] τ := by
    intro h80 m
    induction m with
    | zero => intro τ k _ _ _ _ _ _ _ hm; omega
    | succ m ih =>
      intro τ k g1 g2 g3 g4 g5 k0 k4 hm
      have r5 := zGr5_0 g1
      have hzk : zw (k + 1) = k + 1 := zw_id (by omega) (by omega)
      have hz8 : zw (8 * k) = 8 * k := zw_id (by omega) (by omega)
      have hz24 : zw (24 - 8 * k) = 24 - 8 * k := zw_id (by omega) (by omega)
      have hzn : zw (σ.1 5 1 + k + 1) = σ.1 5 1 + k + 1 := zw_id (by omega) (by omega)
      have fin : 4 ≤ k → Q (some (.inl 1)) τ := fun hk => by
        have e : k = 4 := by omega
        rw [e] at g3 g4 g5
        exact h2 h80 τ g1 g2 g3 g4 g5
      have nxt : ∀ c w : Int, c = zBc v k → w = σ.1 5 1 + k + 1 → k < 4 → G 15 [(0, .inr (.inr (some 5))), (1, .inl v), (2, .inl (k + 1))] [] (zuI (zuI τ 6 (σ.1 5 1 + k) c) 5 1 w) := fun c w hc hw hk => by
        have hcb := zBc_b v k
        rw [← hc] at hcb
        refine ih _ _ (zCI_51 (zCI_6 g1 hcb.1 hcb.2) (by omega) (by omega)) (zFrT_5 (zFrT_6 g2 _ _) _ _) ?_ (fun i hi => ?_) (fun j j0 j1 => ?_) (by omega) (by omega) (by omega)
        · rw [zuI_1, if_pos ⟨rfl, rfl⟩]; omega
        · rw [zuI_1, if_neg (fun z => absurd z.1 (by decide)), zuI_1, if_neg (fun z => by have := z.2; omega)]
          exact g4 i (by omega)
        · rw [zuI_1, if_neg (fun z => absurd z.1 (by decide)), zuI_1]
          by_cases hj : j = k
          · rw [if_pos ⟨rfl, by omega⟩, hc, hj]
          · rw [if_neg (fun z => by have := z.2; omega)]
            exact g5 j j0 (by omega)
      refine step 40 [(15, [0, 1, 2])] 15 _ _ _ ?_
      simp only [show xM_X7_append.2.2.2 = some .boolean from rfl, zt_X7_append, r5, g3, hzk, hz8, hz24, hzn, zeSk, zWcL, zeDo, zeLg, zeKd, zeArgs, zeCat, zeCt, zRZL, zRIL, zRVL, beq_iff_eq, Nat.reduceBEq, Nat.reduceEqDiff, Nat.reduceAdd, Nat.reduceDiv, Nat.reduceMod, cond_true, cond_false, zePr, zePj, zeBF, Int.toNat_natCast, Int.reduceToNat, true_and, and_true, if_false, if_true, zeFv, zeCall, zeCs, zePop, zeSum, zdL_4, zdL_5, zdL_6, zdL_20, zdL_23, zdL_24, zuI_1, zuI_2, zuI_3, Int.cast_ofNat_Int, Nat.reduceLeDiff, Int.reduceLT, Int.reduceEq, and_false, false_and, ite_true, ite_false, eq_self_iff_true, reduceCtorEq, or_true, true_or, Nat.zero_le, List.length_cons, Bool.or_false, Bool.false_or, Bool.and_false, Bool.false_and, Bool.true_or, Bool.or_true, Bool.true_and, Bool.and_true, zeR1]
      repeat' (first | assumption | (with_reducible refine And.intro ?_ ?_) | omega | (exfalso; assumption) | exact absurd trivial (by assumption) | exact fin (by omega) | exact nxt _ _ rfl (by omega) (by omega) | refine And.intro ?_ ?_ | intro _)
  refine step 40 [(15, [0, 1, 2])] 0 _ _ _ ?_
  simp only [show xM_X7_append.2.2.2 = some .boolean from rfl, zt_X7_append, hz4, zeSk, zWcL, zeDo, zeLg, zeKd, zeArgs, zeCat, zeCt, zRZL, zRIL, zRVL, beq_iff_eq, Nat.reduceBEq, Nat.reduceEqDiff, Nat.reduceAdd, Nat.reduceDiv, Nat.reduceMod, cond_true, cond_false, zePr, zePj, zeBF, Int.toNat_natCast, Int.reduceToNat, true_and, and_true, if_false, if_true, zeFv, zeCall, zeCs, zePop, zeSum, zdL_4, zdL_5, zdL_6, zdL_20, zdL_23, zdL_24, zuI_1, zuI_2, zuI_3, Int.cast_ofNat_Int, Nat.reduceLeDiff, Int.reduceLT, Int.reduceEq, and_false, false_and, ite_true, ite_false, eq_self_iff_true, reduceCtorEq, or_true, true_or, Nat.zero_le, List.length_cons, Bool.or_false, Bool.false_or, Bool.and_false, Bool.false_and, Bool.true_or, Bool.or_true, Bool.true_and, Bool.and_true, zeR1]
  repeat' (first | assumption | (with_reducible refine And.intro ?_ ?_) | omega | (exfalso; assumption) | exact absurd trivial (by assumption) | exact h1 (by omega) | exact loop (by omega) _ σ 0 hC (zFrT_r σ) (by omega) (fun _ _ => rfl) (fun j a b => absurd a (by omega)) (by omega) (by omega) (Nat.lt_succ_self _) | refine And.intro ?_ ?_ | intro _)
def tSx : zeT := fun as σ Q => match as with
  | [hv, .inl v] => hv = .inr (.inr (some 4)) ∧ zCI zGc σ ∧ (80 < σ.1 5 1 + 4 → Q (some (.inl (-1))) σ) ∧ (σ.1 5 1 + 4 ≤ 80 → ∀ τ : zeS, zCI zGc τ → zFrT σ τ → τ.1 5 1 = σ.1 5 1 + 4 → (∀ i : Int, ¬ (σ.1 5 1 ≤ i ∧ i < σ.1 5 1 + 4) → τ.1 6 i = σ.1 6 i) → (∀ j : Int, 0 ≤ j → j < 4 → τ.1 6 (σ.1 5 1 + j) = zBc v j) → Q (some (.inl (σ.1 5 1 + 4))) τ)
  | _ => False
set_option maxHeartbeats 4000000 in
set_option maxRecDepth 100000 in
theorem zc_signX (as : List zeV) (σ : zeS) (Q : Option zeV → zeS → Prop) (h : tSx as σ Q) : (∃ k, as.head? = some (.inr (.inr (some k))) ∧ zeLy k zdL = some (.inl 11)) ∧ zeMet xM_X11_sign (1, 22) zdL as σ Q := by
  unfold tSx at h
  split at h
  rotate_left
  · exact h.elim
  rename_i hv v
  obtain ⟨rfl, hC, h1, h2⟩ := h
  have r40 := zGr4_0 hC
  refine ⟨⟨4, rfl, zdL_4⟩, ?_⟩
  refine zeMet_of (cs := [(103, 2, tAp)]) xK_X11_sign zb_X11_sign.1 zb_X11_sign.2 zdL_nd (zcc (Or.inl ⟨1, xM_X7_append, 7, (0, 0), by decide, xl_RX11_103, rfl, ⟨by decide, by decide⟩, zc_append⟩) zcn) (Nat.le_of_ble_eq_true rfl) (fun G step drop => ?_)
  have rest : ∀ τ : zeS, zCI zGc τ → zFrT σ τ → τ.1 5 1 = σ.1 5 1 + 4 → (∀ i : Int, ¬ (σ.1 5 1 ≤ i ∧ i < σ.1 5 1 + 4) → τ.1 6 i = σ.1 6 i) → (∀ j : Int, 0 ≤ j → j < 4 → τ.1 6 (σ.1 5 1 + j) = zBc v j) → σ.1 5 1 + 4 ≤ 80 → G 11 [(0, .inr (.inr (some 4)))] [] τ := fun τ g1 g2 g3 g4 g5 g6 => by
    have q40 := zGr4_0 g1
    refine step 20 [] 11 _ _ _ ?_
    simp only [show xM_X11_sign.2.2.2 = some .int from rfl, zt_X11_sign, q40, g3, zeSk, zWcL, zeDo, zeLg, zeKd, zeArgs, zeCat, zeCt, zRZL, zRIL, zRVL, beq_iff_eq, Nat.reduceBEq, Nat.reduceEqDiff, Nat.reduceAdd, Nat.reduceDiv, Nat.reduceMod, cond_true, cond_false, zePr, zePj, zeBF, Int.toNat_natCast, Int.reduceToNat, true_and, and_true, if_false, if_true, zeFv, zeCall, zeCs, zePop, zeSum, zdL_4, zdL_5, zdL_6, zdL_20, zdL_23, zdL_24, zuI_1, zuI_2, zuI_3, Int.cast_ofNat_Int, Nat.reduceLeDiff, Int.reduceLT, Int.reduceEq, and_false, false_and, ite_true, ite_false, eq_self_iff_true, reduceCtorEq, or_true, true_or, Nat.zero_le, List.length_cons, Bool.or_false, Bool.false_or, Bool.and_false, Bool.false_and, Bool.true_or, Bool.or_true, Bool.true_and, Bool.and_true, zeR1]
    repeat' (first | assumption | (with_reducible refine And.intro ?_ ?_) | omega | (exfalso; assumption) | exact absurd trivial (by assumption) | exact h2 g6 τ g1 g2 g3 g4 g5 | refine And.intro ?_ ?_ | intro _)
  refine step 40 [(11, [0])] 0 _ _ _ ?_
  simp only [show xM_X11_sign.2.2.2 = some .int from rfl, zt_X11_sign, r40, tAp, zeSk, zWcL, zeDo, zeLg, zeKd, zeArgs, zeCat, zeCt, zRZL, zRIL, zRVL, beq_iff_eq, Nat.reduceBEq, Nat.reduceEqDiff, Nat.reduceAdd, Nat.reduceDiv, Nat.reduceMod, cond_true, cond_false, zePr, zePj, zeBF, Int.toNat_natCast, Int.reduceToNat, true_and, and_true, if_false, if_true, zeFv, zeCall, zeCs, zePop, zeSum, zdL_4, zdL_5, zdL_6, zdL_20, zdL_23, zdL_24, zuI_1, zuI_2, zuI_3, Int.cast_ofNat_Int, Nat.reduceLeDiff, Int.reduceLT, Int.reduceEq, and_false, false_and, ite_true, ite_false, eq_self_iff_true, reduceCtorEq, or_true, true_or, Nat.zero_le, List.length_cons, Bool.or_false, Bool.false_or, Bool.and_false, Bool.false_and, Bool.true_or, Bool.or_true, Bool.true_and, Bool.and_true, zeR1]
  repeat' (first | assumption | (with_reducible refine And.intro ?_ ?_) | omega | (exfalso; assumption) | exact absurd trivial (by assumption) | exact h1 (by omega) | exact rest _ (by assumption) (by assumption) (by assumption) (by assumption) (by assumption) (by omega) | exact absurd rfl (by assumption) | refine And.intro ?_ ?_ | intro _)
def zDg (x : Int) : Prop := 48 ≤ x ∧ x ≤ 57
def zFiS (t : Int → Int) (n r : Int) : Prop := (∃ k : Int, 0 ≤ k ∧ k < n ∧ k ≤ 24 ∧ (∀ j : Int, 0 ≤ j → j < k → zDg (t j)) ∧ (k = 24 ∨ ¬ zDg (t k)) ∧ r = k) ∨ (n ≤ 24 ∧ (∀ j : Int, 0 ≤ j → j < n → zDg (t j)) ∧ r = -1)
def zFgS (t : Int → Int) (n a : Int) : Prop := (∃ k : Int, 0 ≤ k ∧ k < n ∧ k ≤ 24 ∧ (∀ j : Int, 0 ≤ j → j < k → zDg (t j)) ∧ (k = 24 ∨ ¬ zDg (t k)) ∧ a = -1 - k) ∨ (n ≤ 24 ∧ (∀ j : Int, 0 ≤ j → j < n → zDg (t j)) ∧ a = n)
theorem zFgS_u {t t' : Int → Int} {n a b : Int} (h : zFgS t n a) (g : zFgS t' n b) (e : ∀ j : Int, 0 ≤ j → j < n → (zDg (t j) ↔ zDg (t' j))) : a = b := by
  rcases h with ⟨k, k0, k1, k2, k3, k4, rfl⟩ | ⟨n1, n2, rfl⟩
  · rcases g with ⟨k', q0, q1, q2, q3, q4, rfl⟩ | ⟨m1, m2, rfl⟩
    · have : k = k' := by
        rcases Int.lt_trichotomy k k' with hl | he | hl
        · exfalso
          rcases k4 with k4 | k4
          · clear k3 q3 e; omega
          · exact k4 ((e k k0 k1).mpr (q3 k k0 hl))
        · exact he
        · exfalso
          rcases q4 with q4 | q4
          · clear k3 q3 e; omega
          · exact q4 ((e k' q0 q1).mp (k3 k' q0 hl))
      rw [this]
    · exfalso
      rcases k4 with k4 | k4
      · clear k3 m2 e; omega
      · exact k4 ((e k k0 k1).mpr (m2 k k0 k1))
  · rcases g with ⟨k', q0, q1, q2, q3, q4, rfl⟩ | ⟨m1, m2, rfl⟩
    · exfalso
      rcases q4 with q4 | q4
      · clear n2 q3 e; omega
      · exact q4 ((e k' q0 q1).mp (n2 k' q0 q1))
    · rfl
def tFi : zeT := fun as σ Q => match as with
  | [hv, .inr (.inr (some t))] => (hv = .inr (.inr (some 23)) ∧ t = 5) ∧ zCI zGc σ ∧ ∀ r : Int, zFiS (σ.1 6) (σ.1 5 1) r → Q (some (.inl r)) σ
  | _ => False
set_option maxHeartbeats 4000000 in
set_option maxRecDepth 100000 in
theorem zc_faultIn (as : List zeV) (σ : zeS) (Q : Option zeV → zeS → Prop) (h : tFi as σ Q) : (∃ k, as.head? = some (.inr (.inr (some k))) ∧ zeLy k zdL = some (.inl 3)) ∧ zeMet xM_X3_faultIn (1, 21) zdL as σ Q := by
  unfold tFi at h
  split at h
  rotate_left
  · exact h.elim
  rename_i hv t
  obtain ⟨⟨rfl, rfl⟩, hC, h⟩ := h
  have hb := zG51 hC
  refine ⟨⟨23, rfl, zdL_23⟩, ?_⟩
  refine zeMet_of (cs := [(21, 2, tSg)]) xK_X3_faultIn zb_X3_faultIn.1 zb_X3_faultIn.2 zdL_nd (zcc (Or.inl ⟨1, xM_X7_signAt, 7, (0, 0), by decide, xl_RX3_21, rfl, ⟨by decide, by decide⟩, zc_signAt⟩) zcn) (Nat.le_of_ble_eq_true rfl) (fun G step drop => ?_)
  have loop : ∀ (m : Nat) (k : Int), (∀ j : Int, 0 ≤ j → j < k → zDg (σ.1 6 j)) → 0 ≤ k → k ≤ σ.1 5 1 → k ≤ 24 → (25 - k).toNat < m → G 2 [(0, .inr (.inr (some 23))), (1, .inr (.inr (some 5))), (2, .inl k)] [] σ := by
    intro m
    induction m with
    | zero => intro k _ _ _ _ hm; omega
    | succ m ih =>
      intro k g k0 k1 k2 hm
      have hzk : zw (k + 1) = k + 1 := zw_id (by omega) (by omega)
      have ret : ∀ r : Int, r = k → (k = 24 ∨ ¬ zDg (σ.1 6 k)) → k < σ.1 5 1 → Q (some (.inl r)) σ := fun r hr q1 q2 => h r (Or.inl ⟨k, k0, q2, k2, g, q1, hr⟩)
      have fin : σ.1 5 1 ≤ k → Q (some (.inl (-1))) σ := fun hk => h (-1) (Or.inr ⟨by omega, fun j a b => g j a (by omega), rfl⟩)
      have nxt : zDg (σ.1 6 k) → ¬ k = 24 → k < σ.1 5 1 → G 2 [(0, .inr (.inr (some 23))), (1, .inr (.inr (some 5))), (2, .inl (k + 1))] [] σ := fun q1 q2 q3 => ih _ (fun j a b => by
        by_cases hj : j = k
        · rw [hj]; exact q1
        · exact g j a (by omega)) (by omega) (by omega) (by omega) (by omega)
      clear ih
      refine step 40 [(2, [0, 1, 2])] 2 _ _ _ ?_
      simp only [show xM_X3_faultIn.2.2.2 = some .int from rfl, zt_X3_faultIn, tSg, hzk, zeSk, zWcL, zeDo, zeLg, zeKd, zeArgs, zeCat, zeCt, zRZL, zRIL, zRVL, beq_iff_eq, Nat.reduceBEq, Nat.reduceEqDiff, Nat.reduceAdd, Nat.reduceDiv, Nat.reduceMod, cond_true, cond_false, zePr, zePj, zeBF, Int.toNat_natCast, Int.reduceToNat, true_and, and_true, if_false, if_true, zeFv, zeCall, zeCs, zePop, zeSum, zdL_4, zdL_5, zdL_6, zdL_20, zdL_23, zdL_24, zuI_1, zuI_2, zuI_3, Int.cast_ofNat_Int, Nat.reduceLeDiff, Int.reduceLT, Int.reduceEq, and_false, false_and, ite_true, ite_false, eq_self_iff_true, reduceCtorEq, or_true, true_or, Nat.zero_le, List.length_cons, Bool.or_false, Bool.false_or, Bool.and_false, Bool.false_and, Bool.true_or, Bool.or_true, Bool.true_and, Bool.and_true, zeR1]
      repeat' (first | assumption | (with_reducible refine And.intro ?_ ?_) | omega | (exfalso; assumption) | exact absurd trivial (by assumption) | exact fin (by omega) | exact ret _ rfl (by first | (left; omega) | (right; unfold zDg; omega)) (by omega) | exact nxt (by unfold zDg; omega) (by omega) (by omega) | refine And.intro ?_ ?_ | intro _)
  refine step 40 [(2, [0, 1, 2])] 0 _ _ _ ?_
  simp only [show xM_X3_faultIn.2.2.2 = some .int from rfl, zt_X3_faultIn, zeSk, zWcL, zeDo, zeLg, zeKd, zeArgs, zeCat, zeCt, zRZL, zRIL, zRVL, beq_iff_eq, Nat.reduceBEq, Nat.reduceEqDiff, Nat.reduceAdd, Nat.reduceDiv, Nat.reduceMod, cond_true, cond_false, zePr, zePj, zeBF, Int.toNat_natCast, Int.reduceToNat, true_and, and_true, if_false, if_true, zeFv, zeCall, zeCs, zePop, zeSum, zdL_4, zdL_5, zdL_6, zdL_20, zdL_23, zdL_24, zuI_1, zuI_2, zuI_3, Int.cast_ofNat_Int, Nat.reduceLeDiff, Int.reduceLT, Int.reduceEq, and_false, false_and, ite_true, ite_false, eq_self_iff_true, reduceCtorEq, or_true, true_or, Nat.zero_le, List.length_cons, Bool.or_false, Bool.false_or, Bool.and_false, Bool.false_and, Bool.true_or, Bool.or_true, Bool.true_and, Bool.and_true, zeR1]
  repeat' (first | assumption | (with_reducible refine And.intro ?_ ?_) | omega | (exfalso; assumption) | exact absurd trivial (by assumption) | exact loop _ _ (fun j a b => absurd a (by omega)) (by omega) (by omega) (by omega) (Nat.lt_succ_self _) | refine And.intro ?_ ?_ | intro _)
def tFr : zeT := fun as σ Q => match as with
  | [hv, .inr (.inr (some t))] => (hv = .inr (.inr (some 23)) ∧ t = 5) ∧ zCI zGc σ ∧ σ.1 5 1 ≤ 24 ∧ (∀ j : Int, 0 ≤ j → j < σ.1 5 1 → zDg (σ.1 6 j)) ∧ ∀ τ : zeS, zCI zGc τ → zFrF σ τ → τ.1 23 1 = σ.1 5 1 → (∀ j : Int, 0 ≤ j → j < σ.1 5 1 → τ.1 24 j = σ.1 6 j - 48) → Q none τ
  | _ => False
set_option maxHeartbeats 4000000 in
set_option maxRecDepth 100000 in
theorem zc_readF (as : List zeV) (σ : zeS) (Q : Option zeV → zeS → Prop) (h : tFr as σ Q) : (∃ k, as.head? = some (.inr (.inr (some k))) ∧ zeLy k zdL = some (.inl 3)) ∧ zeMet xM_X3_read (1, 40) zdL as σ Q := by
  unfold tFr at h
  split at h
  rotate_left
  · exact h.elim
  rename_i hv t
  obtain ⟨⟨rfl, rfl⟩, hC, h24, hd, h⟩ := h
  have hb := zG51 hC
  refine ⟨⟨23, rfl, zdL_23⟩, ?_⟩
  refine zeMet_of (cs := [(21, 2, tSg), (25 + 100000, 2, tT_min)]) xK_X3_read zb_X3_read.1 zb_X3_read.2 zdL_nd (zcc (Or.inl ⟨1, xM_X7_signAt, 7, (0, 0), by decide, xl_RX3_21, rfl, ⟨by decide, by decide⟩, zc_signAt⟩) (zcc (zTminL ⟨by decide, by decide⟩ (by decide +kernel) tT_min_ok) zcn)) (Nat.le_of_ble_eq_true rfl) (fun G step drop => ?_)
  have loop : ∀ (m : Nat) (τ : zeS) (k : Int), zCI zGc τ → zFrF σ τ → τ.1 23 1 = σ.1 5 1 → (∀ j : Int, 0 ≤ j → j < k → τ.1 24 j = σ.1 6 j - 48) → 0 ≤ k → k ≤ σ.1 5 1 → (25 - k).toNat < m → G 15 [(0, .inr (.inr (some 23))), (1, .inr (.inr (some 5))), (2, .inl k)] [] τ := by
    intro m
    induction m with
    | zero => intro τ k _ _ _ _ _ _ hm; omega
    | succ m ih =>
      intro τ k g1 g2 g3 g4 k0 k1 hm
      have r23 := zGr23_0 g1
      have e5 : τ.1 5 1 = σ.1 5 1 := (g2 5 (by decide) (by decide)).1 1
      have e6 : τ.1 6 k = σ.1 6 k := (g2 6 (by decide) (by decide)).1 k
      have hzk : zw (k + 1) = k + 1 := zw_id (by omega) (by omega)
      have fin : σ.1 5 1 ≤ k → Q none τ := fun hk => h τ g1 g2 g3 (fun j a b => g4 j a (by omega))
      have nxt : ∀ c : Int, c = zw (σ.1 6 k - 48) → k < σ.1 5 1 → G 15 [(0, .inr (.inr (some 23))), (1, .inr (.inr (some 5))), (2, .inl (k + 1))] [] (zuI τ 24 k c) := fun c hc hk => by
        have hdk := hd k k0 hk
        unfold zDg at hdk
        rw [zw_id (by omega) (by omega)] at hc
        refine ih _ _ (zCI_24 g1 (by omega) (by omega)) (zFrF_24 g2 _ _) ?_ (fun j a b => ?_) (by omega) (by omega) (by omega)
        · rw [zuI_1, if_neg (fun z => absurd z.1 (by decide))]; exact g3
        · rw [zuI_1]
          by_cases hj : j = k
          · rw [if_pos ⟨rfl, hj⟩, hc, hj]
          · rw [if_neg (fun z => hj z.2)]
            exact g4 j a (by omega)
      clear ih
      refine step 40 [(15, [0, 1, 2])] 15 _ _ _ ?_
      simp only [show xM_X3_read.2.2.2 = none from rfl, zt_X3_read, tSg, r23, g3, e5, e6, hzk, zeSk, zWcL, zeDo, zeLg, zeKd, zeArgs, zeCat, zeCt, zRZL, zRIL, zRVL, beq_iff_eq, Nat.reduceBEq, Nat.reduceEqDiff, Nat.reduceAdd, Nat.reduceDiv, Nat.reduceMod, cond_true, cond_false, zePr, zePj, zeBF, Int.toNat_natCast, Int.reduceToNat, true_and, and_true, if_false, if_true, zeFv, zeCall, zeCs, zePop, zeSum, zdL_4, zdL_5, zdL_6, zdL_20, zdL_23, zdL_24, zuI_1, zuI_2, zuI_3, Int.cast_ofNat_Int, Nat.reduceLeDiff, Int.reduceLT, Int.reduceEq, and_false, false_and, ite_true, ite_false, eq_self_iff_true, reduceCtorEq, or_true, true_or, Nat.zero_le, List.length_cons, Bool.or_false, Bool.false_or, Bool.and_false, Bool.false_and, Bool.true_or, Bool.or_true, Bool.true_and, Bool.and_true, zeR1]
      repeat' (first | assumption | (with_reducible refine And.intro ?_ ?_) | omega | (exfalso; assumption) | exact absurd trivial (by assumption) | exact fin (by omega) | exact nxt _ rfl (by omega) | refine And.intro ?_ ?_ | intro _)
  have start : ∀ w : Int, w = σ.1 5 1 → G 15 [(0, .inr (.inr (some 23))), (1, .inr (.inr (some 5))), (2, .inl 0)] [] (zuI σ 23 1 w) := fun w hw => by
    subst hw
    exact loop _ _ 0 (zCI_23 hC (by omega) h24) (zFrF_23 (zFrF_r σ) _ _) (by rw [zuI_1, if_pos ⟨rfl, rfl⟩]) (fun j a b => absurd a (by omega)) (by omega) (by omega) (Nat.lt_succ_self _)
  refine step 40 [(15, [0, 1, 2])] 0 _ _ _ ?_
  simp only [show xM_X3_read.2.2.2 = none from rfl, zt_X3_read, tT_min, zeSk, zWcL, zeDo, zeLg, zeKd, zeArgs, zeCat, zeCt, zRZL, zRIL, zRVL, beq_iff_eq, Nat.reduceBEq, Nat.reduceEqDiff, Nat.reduceAdd, Nat.reduceDiv, Nat.reduceMod, cond_true, cond_false, zePr, zePj, zeBF, Int.toNat_natCast, Int.reduceToNat, true_and, and_true, if_false, if_true, zeFv, zeCall, zeCs, zePop, zeSum, zdL_4, zdL_5, zdL_6, zdL_20, zdL_23, zdL_24, zuI_1, zuI_2, zuI_3, Int.cast_ofNat_Int, Nat.reduceLeDiff, Int.reduceLT, Int.reduceEq, and_false, false_and, ite_true, ite_false, eq_self_iff_true, reduceCtorEq, or_true, true_or, Nat.zero_le, List.length_cons, Bool.or_false, Bool.false_or, Bool.and_false, Bool.false_and, Bool.true_or, Bool.or_true, Bool.true_and, Bool.and_true, zeR1]
  repeat' (first | assumption | (with_reducible refine And.intro ?_ ?_) | omega | (exfalso; assumption) | exact absurd trivial (by assumption) | exact start _ (by omega) | refine And.intro ?_ ?_ | intro _)
def zFrG (σ τ : zeS) : Prop := ∀ k', ¬ k' = 5 → ¬ k' = 23 → ¬ k' = 24 → zeSm σ τ k'
def tFx : zeT := fun as σ Q => match as with
  | [hv] => hv = .inr (.inr (some 4)) ∧ zCI zGc σ ∧ ∀ (a : Int) (τ : zeS), zFgS (σ.1 6) (σ.1 5 1) a → zCI zGc τ → zFrG σ τ → τ.1 5 1 = 0 → (a < 0 → zeSm σ τ 23 ∧ zeSm σ τ 24) → (0 ≤ a → τ.1 23 1 = a ∧ ∀ j : Int, 0 ≤ j → j < a → τ.1 24 j = σ.1 6 j - 48) → Q (some (.inl a)) τ
  | _ => False
set_option maxHeartbeats 4000000 in
set_option maxRecDepth 100000 in
theorem zc_fogX (as : List zeV) (σ : zeS) (Q : Option zeV → zeS → Prop) (h : tFx as σ Q) : (∃ k, as.head? = some (.inr (.inr (some k))) ∧ zeLy k zdL = some (.inl 11)) ∧ zeMet xM_X11_fog (2, 67) zdL as σ Q := by
  unfold tFx at h
  split at h
  rotate_left
  · exact h.elim
  rename_i hv
  obtain ⟨rfl, hC, h⟩ := h
  have r40 := zGr4_0 hC
  have r43 := zGr4_3 hC
  have r20 := zGr20_2 hC
  have hb := zG51 hC
  refine ⟨⟨4, rfl, zdL_4⟩, ?_⟩
  refine zeMet_of (cs := [(141, 2, tFi), (142, 2, tFr)]) xK_X11_fog zb_X11_fog.1 zb_X11_fog.2 zdL_nd (zcc (Or.inl ⟨1, xM_X3_faultIn, 3, (1, 21), by decide, xl_RX11_141, rfl, ⟨by decide, by decide⟩, zc_faultIn⟩) (zcc (Or.inl ⟨1, xM_X3_read, 3, (1, 40), by decide, xl_RX11_142, rfl, ⟨by decide, by decide⟩, zc_readF⟩) zcn)) (Nat.le_of_ble_eq_true rfl) (fun G step drop => ?_)
  have good : σ.1 5 1 ≤ 24 → (∀ j : Int, 0 ≤ j → j < σ.1 5 1 → zDg (σ.1 6 j)) → ∀ τ : zeS, zCI zGc τ → zFrF σ τ → τ.1 23 1 = σ.1 5 1 → (∀ j : Int, 0 ≤ j → j < σ.1 5 1 → τ.1 24 j = σ.1 6 j - 48) → G 34 [(0, .inr (.inr (some 4))), (1, .inl (-1))] [] τ := fun h24 hd τ g1 g2 g3 g4 => by
    have q40 := zGr4_0 g1
    have q43 := zGr4_3 g1
    have q20 := zGr20_2 g1
    have fin : Q (some (.inl (σ.1 5 1))) (zuI τ 5 1 0) := h _ _ (Or.inr ⟨h24, hd, rfl⟩) (zCI_51 g1 (by omega) (by omega)) (fun k a b c => zeSm_t (g2 k b c) (zuI_sm a)) (by rw [zuI_1, if_pos ⟨rfl, rfl⟩]) (fun z => absurd z (by omega)) (fun _ => ⟨by rw [zuI_1, if_neg (fun z => absurd z.1 (by decide))]; exact g3, fun j a b => by rw [zuI_1, if_neg (fun z => absurd z.1 (by decide))]; exact g4 j a b⟩)
    clear h
    refine step 30 [] 34 _ _ _ ?_
    simp only [show xM_X11_fog.2.2.2 = some .int from rfl, zt_X11_fog, q40, q43, q20, g3, zeSk, zWcL, zeDo, zeLg, zeKd, zeArgs, zeCat, zeCt, zRZL, zRIL, zRVL, beq_iff_eq, Nat.reduceBEq, Nat.reduceEqDiff, Nat.reduceAdd, Nat.reduceDiv, Nat.reduceMod, cond_true, cond_false, zePr, zePj, zeBF, Int.toNat_natCast, Int.reduceToNat, true_and, and_true, if_false, if_true, zeFv, zeCall, zeCs, zePop, zeSum, zdL_4, zdL_5, zdL_6, zdL_20, zdL_23, zdL_24, zuI_1, zuI_2, zuI_3, Int.cast_ofNat_Int, Nat.reduceLeDiff, Int.reduceLT, Int.reduceEq, and_false, false_and, ite_true, ite_false, eq_self_iff_true, reduceCtorEq, or_true, true_or, Nat.zero_le, List.length_cons, Bool.or_false, Bool.false_or, Bool.and_false, Bool.false_and, Bool.true_or, Bool.or_true, Bool.true_and, Bool.and_true, zeR1]
    repeat' (first | assumption | (with_reducible refine And.intro ?_ ?_) | omega | (exfalso; assumption) | exact absurd trivial (by assumption) | refine And.intro ?_ ?_ | intro _)
  have bad : ∀ k : Int, 0 ≤ k → k < σ.1 5 1 → k ≤ 24 → (∀ j : Int, 0 ≤ j → j < k → zDg (σ.1 6 j)) → (k = 24 ∨ ¬ zDg (σ.1 6 k)) → G 34 [(0, .inr (.inr (some 4))), (1, .inl k)] [] σ := fun k k0 k1 k2 k3 k4 => by
    have hz : zw (-1 - k) = -1 - k := zw_id (by omega) (by omega)
    have fin : Q (some (.inl (-1 - k))) (zuI σ 5 1 0) := h _ _ (Or.inl ⟨k, k0, k1, k2, k3, k4, rfl⟩) (zCI_51 hC (by omega) (by omega)) (fun k a b c => zuI_sm a) (by rw [zuI_1, if_pos ⟨rfl, rfl⟩]) (fun _ => ⟨zuI_sm (by decide), zuI_sm (by decide)⟩) (fun z => absurd z (by omega))
    clear h good
    refine step 30 [] 34 _ _ _ ?_
    simp only [show xM_X11_fog.2.2.2 = some .int from rfl, zt_X11_fog, r40, r43, r20, hz, zeSk, zWcL, zeDo, zeLg, zeKd, zeArgs, zeCat, zeCt, zRZL, zRIL, zRVL, beq_iff_eq, Nat.reduceBEq, Nat.reduceEqDiff, Nat.reduceAdd, Nat.reduceDiv, Nat.reduceMod, cond_true, cond_false, zePr, zePj, zeBF, Int.toNat_natCast, Int.reduceToNat, true_and, and_true, if_false, if_true, zeFv, zeCall, zeCs, zePop, zeSum, zdL_4, zdL_5, zdL_6, zdL_20, zdL_23, zdL_24, zuI_1, zuI_2, zuI_3, Int.cast_ofNat_Int, Nat.reduceLeDiff, Int.reduceLT, Int.reduceEq, and_false, false_and, ite_true, ite_false, eq_self_iff_true, reduceCtorEq, or_true, true_or, Nat.zero_le, List.length_cons, Bool.or_false, Bool.false_or, Bool.and_false, Bool.false_and, Bool.true_or, Bool.or_true, Bool.true_and, Bool.and_true, zeR1]
    repeat' (first | assumption | (with_reducible refine And.intro ?_ ?_) | omega | (exfalso; assumption) | exact absurd trivial (by assumption) | refine And.intro ?_ ?_ | intro _)
  have mid : ∀ r : Int, zFiS (σ.1 6) (σ.1 5 1) r → G 15 [(0, .inr (.inr (some 4))), (1, .inl r)] [] σ := fun r hr => by
    rcases hr with ⟨k, k0, k1, k2, k3, k4, rfl⟩ | ⟨n1, n2, rfl⟩
    · have b := bad _ k0 k1 k2 k3 k4
      clear h good bad
      refine step 30 [(34, [0, 1])] 15 _ _ _ ?_
      simp only [show xM_X11_fog.2.2.2 = some .int from rfl, zt_X11_fog, r40, r43, r20, tFr, zeSk, zWcL, zeDo, zeLg, zeKd, zeArgs, zeCat, zeCt, zRZL, zRIL, zRVL, beq_iff_eq, Nat.reduceBEq, Nat.reduceEqDiff, Nat.reduceAdd, Nat.reduceDiv, Nat.reduceMod, cond_true, cond_false, zePr, zePj, zeBF, Int.toNat_natCast, Int.reduceToNat, true_and, and_true, if_false, if_true, zeFv, zeCall, zeCs, zePop, zeSum, zdL_4, zdL_5, zdL_6, zdL_20, zdL_23, zdL_24, zuI_1, zuI_2, zuI_3, Int.cast_ofNat_Int, Nat.reduceLeDiff, Int.reduceLT, Int.reduceEq, and_false, false_and, ite_true, ite_false, eq_self_iff_true, reduceCtorEq, or_true, true_or, Nat.zero_le, List.length_cons, Bool.or_false, Bool.false_or, Bool.and_false, Bool.false_and, Bool.true_or, Bool.or_true, Bool.true_and, Bool.and_true, zeR1]
      repeat' (first | assumption | (with_reducible refine And.intro ?_ ?_) | omega | (exfalso; assumption) | exact absurd trivial (by assumption) | refine And.intro ?_ ?_ | intro _)
    · have b := good n1 n2
      clear h bad
      refine step 30 [(34, [0, 1])] 15 _ _ _ ?_
      simp only [show xM_X11_fog.2.2.2 = some .int from rfl, zt_X11_fog, r40, r43, r20, tFr, zeSk, zWcL, zeDo, zeLg, zeKd, zeArgs, zeCat, zeCt, zRZL, zRIL, zRVL, beq_iff_eq, Nat.reduceBEq, Nat.reduceEqDiff, Nat.reduceAdd, Nat.reduceDiv, Nat.reduceMod, cond_true, cond_false, zePr, zePj, zeBF, Int.toNat_natCast, Int.reduceToNat, true_and, and_true, if_false, if_true, zeFv, zeCall, zeCs, zePop, zeSum, zdL_4, zdL_5, zdL_6, zdL_20, zdL_23, zdL_24, zuI_1, zuI_2, zuI_3, Int.cast_ofNat_Int, Nat.reduceLeDiff, Int.reduceLT, Int.reduceEq, and_false, false_and, ite_true, ite_false, eq_self_iff_true, reduceCtorEq, or_true, true_or, Nat.zero_le, List.length_cons, Bool.or_false, Bool.false_or, Bool.and_false, Bool.false_and, Bool.true_or, Bool.or_true, Bool.true_and, Bool.and_true, zeR1]
      repeat' (first | assumption | (with_reducible refine And.intro ?_ ?_) | omega | (exfalso; assumption) | exact absurd trivial (by assumption) | exact b _ (by assumption) (by assumption) (by assumption) (by assumption) | refine And.intro ?_ ?_ | intro _)
  clear h good bad
  refine step 30 [(15, [0, 1])] 0 _ _ _ ?_
  simp only [show xM_X11_fog.2.2.2 = some .int from rfl, zt_X11_fog, r40, r43, r20, tFi, zeSk, zWcL, zeDo, zeLg, zeKd, zeArgs, zeCat, zeCt, zRZL, zRIL, zRVL, beq_iff_eq, Nat.reduceBEq, Nat.reduceEqDiff, Nat.reduceAdd, Nat.reduceDiv, Nat.reduceMod, cond_true, cond_false, zePr, zePj, zeBF, Int.toNat_natCast, Int.reduceToNat, true_and, and_true, if_false, if_true, zeFv, zeCall, zeCs, zePop, zeSum, zdL_4, zdL_5, zdL_6, zdL_20, zdL_23, zdL_24, zuI_1, zuI_2, zuI_3, Int.cast_ofNat_Int, Nat.reduceLeDiff, Int.reduceLT, Int.reduceEq, and_false, false_and, ite_true, ite_false, eq_self_iff_true, reduceCtorEq, or_true, true_or, Nat.zero_le, List.length_cons, Bool.or_false, Bool.false_or, Bool.and_false, Bool.false_and, Bool.true_or, Bool.or_true, Bool.true_and, Bool.and_true, zeR1]
  repeat' (first | assumption | (with_reducible refine And.intro ?_ ?_) | omega | (exfalso; assumption) | exact absurd trivial (by assumption) | exact mid _ (by assumption) | refine And.intro ?_ ?_ | intro _)

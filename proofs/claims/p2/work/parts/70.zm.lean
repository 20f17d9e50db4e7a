/-! the reference's small methods, exactly -/
def tT_in : zeT := fun as σ Q => match as with
  | [.inl v, .inl lo, .inl hi] => Q (some (.inl (zb (lo ≤ v ∧ v ≤ hi)))) σ
  | _ => False
set_option maxHeartbeats 8000000 in
set_option maxRecDepth 100000 in
theorem zm_in (as : List zeV) (σ : zeS) (Q : Option zeV → zeS → Prop) (h : tT_in as σ Q) : zeMet xM_X12_in (0, 0) zdM as σ Q := by
  unfold tT_in at h
  split at h
  · rename_i v lo hi
    refine zMt (cs := []) xK_X12_in zb_X12_in (ret := some .boolean) rfl zcn (Nat.le_of_ble_eq_true rfl) (fun G step drop => ?_)
    refine step 200 [] 0 _ _ _ ?_
    simp only [zt_X12_in, zeSk, zWc, zeDo, zeLg, zeKd, zeArgs, zeCat, zeCt, zRI, zRZ, zRJ, zRV, beq_iff_eq, Nat.reduceBEq, Nat.reduceEqDiff, Nat.reduceAdd, Nat.reduceDiv, Nat.reduceMod, cond_true, cond_false, zePr_lt, zePr_gt, zePr_ne, zePr_eq, zePr_ge, zePr_le, zeBF, Int.toNat_natCast, Int.reduceToNat, true_and, and_true, if_false, if_true, zeFv, zeCall, zeCs, zePop, zeSum, zeR1, zeR2, Int.cast_ofNat_Int, zc0, zc1, Bool.or_false, Bool.false_or, Bool.and_false, Bool.false_and, Bool.true_or, Bool.or_true, Bool.true_and, Bool.and_true, zb_0, zb_1, zb_or, Decidable.not_not, Nat.reduceLeDiff, zePj, zuI_1, zuI_2, zuI_3, zuL_1, zuL_2, zuL_3, zuR_1, zuR_2, zuR_3, Int.reduceEq, Nat.reduceLT, and_false, false_and, ite_true, ite_false, not_false_eq_true, not_true_eq_false, true_implies, false_implies, implies_true, Nat.zero_le, or_true, true_or, or_false, false_or, eq_self_iff_true, reduceCtorEq, zl98, zl99, zl100, zl101, zl102, zl103, zl104, zl105, zl106, zl107, zl108, zl109, zl110, zl111, zl112, zl113, zl114, zl115, zl116, zl117, zl118, zl119, zl120, zl121, zl122, zl123, zl124, zl125, zl126]
    by_cases h1 : lo ≤ v ∧ v ≤ hi
    · rw [zbp h1] at h
      repeat' (first | refine And.intro ?_ ?_ | intro _)
      all_goals first | assumption | omega
    · rw [zbn h1] at h
      repeat' (first | refine And.intro ?_ ?_ | intro _)
      all_goals first | assumption | omega
  · exact h.elim
def tT_size : zeT := fun as σ Q => match as with
  | [hv] => hv = .inr (.inr (some 98)) ∧ 1 ≤ σ.1 98 1 ∧ σ.1 98 1 ≤ 6 ∧ 1 ≤ σ.1 98 2 ∧ σ.1 98 2 ≤ 6 ∧ Q (some (.inl (σ.1 98 1 * σ.1 98 2))) σ
  | _ => False
set_option maxHeartbeats 8000000 in
set_option maxRecDepth 100000 in
theorem zm_size (as : List zeV) (σ : zeS) (Q : Option zeV → zeS → Prop) (h : tT_size as σ Q) : (∃ k, as.head? = some (.inr (.inr (some k))) ∧ zeLy k zdM = some (.inl 12)) ∧ zeMet xM_X12_size (0, 0) zdM as σ Q := by
  unfold tT_size at h
  split at h
  · rename_i hv
    obtain ⟨rfl, hw1, hw2, hh1, hh2, h⟩ := h
    refine ⟨⟨98, rfl, zl98⟩, ?_⟩
    refine zMt (cs := []) xK_X12_size zb_X12_size (ret := some .int) rfl zcn (Nat.le_of_ble_eq_true rfl) (fun G step drop => ?_)
    have hm := zMb (show 0 ≤ σ.1 98 1 by omega) hw2 (show 0 ≤ σ.1 98 2 by omega) hh2
    have hz : zw (σ.1 98 1 * σ.1 98 2) = σ.1 98 1 * σ.1 98 2 := zw_id (by omega) (by omega)
    refine step 200 [] 0 _ _ _ ?_
    simp only [zt_X12_size, zeSk, zWc, zeDo, zeLg, zeKd, zeArgs, zeCat, zeCt, zRI, zRZ, zRJ, zRV, beq_iff_eq, Nat.reduceBEq, Nat.reduceEqDiff, Nat.reduceAdd, Nat.reduceDiv, Nat.reduceMod, cond_true, cond_false, zePr_lt, zePr_gt, zePr_ne, zePr_eq, zePr_ge, zePr_le, zeBF, Int.toNat_natCast, Int.reduceToNat, true_and, and_true, if_false, if_true, zeFv, zeCall, zeCs, zePop, zeSum, zeR1, zeR2, Int.cast_ofNat_Int, zc0, zc1, Bool.or_false, Bool.false_or, Bool.and_false, Bool.false_and, Bool.true_or, Bool.or_true, Bool.true_and, Bool.and_true, zb_0, zb_1, zb_or, Decidable.not_not, Nat.reduceLeDiff, zePj, zuI_1, zuI_2, zuI_3, zuL_1, zuL_2, zuL_3, zuR_1, zuR_2, zuR_3, Int.reduceEq, Nat.reduceLT, and_false, false_and, ite_true, ite_false, not_false_eq_true, not_true_eq_false, true_implies, false_implies, implies_true, Nat.zero_le, or_true, true_or, or_false, false_or, eq_self_iff_true, reduceCtorEq, zl98, zl99, zl100, zl101, zl102, zl103, zl104, zl105, zl106, zl107, zl108, zl109, zl110, zl111, zl112, zl113, zl114, zl115, zl116, zl117, zl118, zl119, zl120, zl121, zl122, zl123, zl124, zl125, zl126, hz]
    repeat' (first | refine And.intro ?_ ?_ | intro _)
    all_goals first | assumption | omega
  · exact h.elim
def tT_isYard : zeT := fun as σ Q => match as with
  | [hv, .inl y] => hv = .inr (.inr (some 98)) ∧ 1 ≤ σ.1 98 1 ∧ σ.1 98 1 ≤ 6 ∧ 1 ≤ σ.1 98 2 ∧ σ.1 98 2 ≤ 6 ∧ Q (some (.inl (zb (0 ≤ y ∧ y ≤ σ.1 98 1 * σ.1 98 2 - 1)))) σ
  | _ => False
set_option maxHeartbeats 8000000 in
set_option maxRecDepth 100000 in
theorem zm_isYard (as : List zeV) (σ : zeS) (Q : Option zeV → zeS → Prop) (h : tT_isYard as σ Q) : (∃ k, as.head? = some (.inr (.inr (some k))) ∧ zeLy k zdM = some (.inl 12)) ∧ zeMet xM_X12_isYard (1, 60) zdM as σ Q := by
  unfold tT_isYard at h
  split at h
  · rename_i hv y
    obtain ⟨rfl, hw1, hw2, hh1, hh2, h⟩ := h
    refine ⟨⟨98, rfl, zl98⟩, ?_⟩
    refine zMt (cs := [(131 + 100000, 3, tT_in), (127, 1, tT_size)]) xK_X12_isYard zb_X12_isYard (ret := some .boolean) rfl (zcc (zTs xl_RX12_131 rfl ⟨by decide, by decide⟩ zm_in) (zcc (zTv xl_RX12_127 (by decide) rfl ⟨by decide, by decide⟩ zm_size) zcn)) (Nat.le_of_ble_eq_true rfl) (fun G step drop => ?_)
    have hm := zMb (show 0 ≤ σ.1 98 1 by omega) hw2 (show 0 ≤ σ.1 98 2 by omega) hh2
    have hz : zw (σ.1 98 1 * σ.1 98 2 - 1) = σ.1 98 1 * σ.1 98 2 - 1 := zw_id (by omega) (by omega)
    refine step 200 [] 0 _ _ _ ?_
    simp only [zt_X12_isYard, zeSk, zWc, zeDo, zeLg, zeKd, zeArgs, zeCat, zeCt, zRI, zRZ, zRJ, zRV, beq_iff_eq, Nat.reduceBEq, Nat.reduceEqDiff, Nat.reduceAdd, Nat.reduceDiv, Nat.reduceMod, cond_true, cond_false, zePr_lt, zePr_gt, zePr_ne, zePr_eq, zePr_ge, zePr_le, zeBF, Int.toNat_natCast, Int.reduceToNat, true_and, and_true, if_false, if_true, zeFv, zeCall, zeCs, zePop, zeSum, zeR1, zeR2, Int.cast_ofNat_Int, zc0, zc1, Bool.or_false, Bool.false_or, Bool.and_false, Bool.false_and, Bool.true_or, Bool.or_true, Bool.true_and, Bool.and_true, zb_0, zb_1, zb_or, Decidable.not_not, Nat.reduceLeDiff, zePj, zuI_1, zuI_2, zuI_3, zuL_1, zuL_2, zuL_3, zuR_1, zuR_2, zuR_3, Int.reduceEq, Nat.reduceLT, and_false, false_and, ite_true, ite_false, not_false_eq_true, not_true_eq_false, true_implies, false_implies, implies_true, Nat.zero_le, or_true, true_or, or_false, false_or, eq_self_iff_true, reduceCtorEq, zl98, zl99, zl100, zl101, zl102, zl103, zl104, zl105, zl106, zl107, zl108, zl109, zl110, zl111, zl112, zl113, zl114, zl115, zl116, zl117, zl118, zl119, zl120, zl121, zl122, zl123, zl124, zl125, zl126, tT_in, tT_size, hz]
    repeat' (first | refine And.intro ?_ ?_ | intro _)
    all_goals first | assumption | omega
  · exact h.elim
def tT_isStreet : zeT := fun as σ Q => match as with
  | [hv, .inl y] => hv = .inr (.inr (some 98)) ∧ zRf σ ∧ 1 ≤ σ.1 98 1 ∧ σ.1 98 1 ≤ 6 ∧ 1 ≤ σ.1 98 2 ∧ σ.1 98 2 ≤ 6 ∧ Q (some (.inl (zb ((0 ≤ y ∧ y ≤ σ.1 98 1 * σ.1 98 2 - 1) ∧ ¬ σ.1 99 y = 10)))) σ
  | _ => False
set_option maxHeartbeats 8000000 in
set_option maxRecDepth 100000 in
theorem zm_isStreet (as : List zeV) (σ : zeS) (Q : Option zeV → zeS → Prop) (h : tT_isStreet as σ Q) : (∃ k, as.head? = some (.inr (.inr (some k))) ∧ zeLy k zdM = some (.inl 12)) ∧ zeMet xM_X12_isStreet (2, 120) zdM as σ Q := by
  unfold tT_isStreet at h
  split at h
  · rename_i hv y
    obtain ⟨rfl, hRf, hw1, hw2, hh1, hh2, h⟩ := h
    have hR0 := hRf
    obtain ⟨⟨r0, r3, r7, r9, r10⟩, ⟨r11, r13, r21, r22, r28⟩, ⟨r29, r30, r32, r33, r34⟩, ⟨r35, r36, r37, r39, r40⟩, ⟨r41, r42, r43, r44, r46⟩, r47, r48, r49⟩ := hRf
    refine ⟨⟨98, rfl, zl98⟩, ?_⟩
    refine zMt (cs := [(135, 2, tT_isYard)]) xK_X12_isStreet zb_X12_isStreet (ret := some .boolean) rfl (zcc (zTv xl_RX12_135 (by decide) rfl ⟨by decide, by decide⟩ zm_isYard) zcn) (Nat.le_of_ble_eq_true rfl) (fun G step drop => ?_)
    have hm := zMb (show 0 ≤ σ.1 98 1 by omega) hw2 (show 0 ≤ σ.1 98 2 by omega) hh2
    
    refine step 200 [] 0 _ _ _ ?_
    simp only [zt_X12_isStreet, zeSk, zWc, zeDo, zeLg, zeKd, zeArgs, zeCat, zeCt, zRI, zRZ, zRJ, zRV, beq_iff_eq, Nat.reduceBEq, Nat.reduceEqDiff, Nat.reduceAdd, Nat.reduceDiv, Nat.reduceMod, cond_true, cond_false, zePr_lt, zePr_gt, zePr_ne, zePr_eq, zePr_ge, zePr_le, zeBF, Int.toNat_natCast, Int.reduceToNat, true_and, and_true, if_false, if_true, zeFv, zeCall, zeCs, zePop, zeSum, zeR1, zeR2, Int.cast_ofNat_Int, zc0, zc1, Bool.or_false, Bool.false_or, Bool.and_false, Bool.false_and, Bool.true_or, Bool.or_true, Bool.true_and, Bool.and_true, zb_0, zb_1, zb_or, Decidable.not_not, Nat.reduceLeDiff, zePj, zuI_1, zuI_2, zuI_3, zuL_1, zuL_2, zuL_3, zuR_1, zuR_2, zuR_3, Int.reduceEq, Nat.reduceLT, and_false, false_and, ite_true, ite_false, not_false_eq_true, not_true_eq_false, true_implies, false_implies, implies_true, Nat.zero_le, or_true, true_or, or_false, false_or, eq_self_iff_true, reduceCtorEq, zl98, zl99, zl100, zl101, zl102, zl103, zl104, zl105, zl106, zl107, zl108, zl109, zl110, zl111, zl112, zl113, zl114, zl115, zl116, zl117, zl118, zl119, zl120, zl121, zl122, zl123, zl124, zl125, zl126, hR0, zRf_I, zRf_L, zRf_R, r0, r3, r7, r9, r10, r11, r13, r21, r22, r28, r29, r30, r32, r33, r34, r35, r36, r37, r39, r40, r41, r42, r43, r44, r46, r47, r48, r49, tT_isYard]
    by_cases h1 : (0 ≤ y ∧ y ≤ σ.1 98 1 * σ.1 98 2 - 1) ∧ ¬ σ.1 99 y = 10
    · rw [zbp h1] at h
      repeat' (first | refine And.intro ?_ ?_ | intro _)
      all_goals first | assumption | omega
    · rw [zbn h1] at h
      repeat' (first | refine And.intro ?_ ?_ | intro _)
      all_goals first | assumption | omega
  · exact h.elim
def tT_isHour : zeT := fun as σ Q => match as with
  | [.inl y] => Q (some (.inl (zb (0 ≤ y ∧ y ≤ 999)))) σ
  | _ => False
set_option maxHeartbeats 8000000 in
set_option maxRecDepth 100000 in
theorem zm_isHour (as : List zeV) (σ : zeS) (Q : Option zeV → zeS → Prop) (h : tT_isHour as σ Q) : zeMet xM_X12_isHour (1, 60) zdM as σ Q := by
  unfold tT_isHour at h
  split at h
  · rename_i y
    refine zMt (cs := [(131 + 100000, 3, tT_in)]) xK_X12_isHour zb_X12_isHour (ret := some .boolean) rfl (zcc (zTs xl_RX12_131 rfl ⟨by decide, by decide⟩ zm_in) zcn) (Nat.le_of_ble_eq_true rfl) (fun G step drop => ?_)
    refine step 200 [] 0 _ _ _ ?_
    simp only [zt_X12_isHour, zeSk, zWc, zeDo, zeLg, zeKd, zeArgs, zeCat, zeCt, zRI, zRZ, zRJ, zRV, beq_iff_eq, Nat.reduceBEq, Nat.reduceEqDiff, Nat.reduceAdd, Nat.reduceDiv, Nat.reduceMod, cond_true, cond_false, zePr_lt, zePr_gt, zePr_ne, zePr_eq, zePr_ge, zePr_le, zeBF, Int.toNat_natCast, Int.reduceToNat, true_and, and_true, if_false, if_true, zeFv, zeCall, zeCs, zePop, zeSum, zeR1, zeR2, Int.cast_ofNat_Int, zc0, zc1, Bool.or_false, Bool.false_or, Bool.and_false, Bool.false_and, Bool.true_or, Bool.or_true, Bool.true_and, Bool.and_true, zb_0, zb_1, zb_or, Decidable.not_not, Nat.reduceLeDiff, zePj, zuI_1, zuI_2, zuI_3, zuL_1, zuL_2, zuL_3, zuR_1, zuR_2, zuR_3, Int.reduceEq, Nat.reduceLT, and_false, false_and, ite_true, ite_false, not_false_eq_true, not_true_eq_false, true_implies, false_implies, implies_true, Nat.zero_le, or_true, true_or, or_false, false_or, eq_self_iff_true, reduceCtorEq, zl98, zl99, zl100, zl101, zl102, zl103, zl104, zl105, zl106, zl107, zl108, zl109, zl110, zl111, zl112, zl113, zl114, zl115, zl116, zl117, zl118, zl119, zl120, zl121, zl122, zl123, zl124, zl125, zl126, tT_in]
    repeat' (first | refine And.intro ?_ ?_ | intro _)
    all_goals first | assumption | omega
  · exact h.elim
def tT_isStrength : zeT := fun as σ Q => match as with
  | [.inl y] => Q (some (.inl (zb (-1 ≤ y ∧ y ≤ 9)))) σ
  | _ => False
set_option maxHeartbeats 8000000 in
set_option maxRecDepth 100000 in
theorem zm_isStrength (as : List zeV) (σ : zeS) (Q : Option zeV → zeS → Prop) (h : tT_isStrength as σ Q) : zeMet xM_X12_isStrength (1, 60) zdM as σ Q := by
  unfold tT_isStrength at h
  split at h
  · rename_i y
    refine zMt (cs := [(131 + 100000, 3, tT_in)]) xK_X12_isStrength zb_X12_isStrength (ret := some .boolean) rfl (zcc (zTs xl_RX12_131 rfl ⟨by decide, by decide⟩ zm_in) zcn) (Nat.le_of_ble_eq_true rfl) (fun G step drop => ?_)
    refine step 200 [] 0 _ _ _ ?_
    simp only [zt_X12_isStrength, zeSk, zWc, zeDo, zeLg, zeKd, zeArgs, zeCat, zeCt, zRI, zRZ, zRJ, zRV, beq_iff_eq, Nat.reduceBEq, Nat.reduceEqDiff, Nat.reduceAdd, Nat.reduceDiv, Nat.reduceMod, cond_true, cond_false, zePr_lt, zePr_gt, zePr_ne, zePr_eq, zePr_ge, zePr_le, zeBF, Int.toNat_natCast, Int.reduceToNat, true_and, and_true, if_false, if_true, zeFv, zeCall, zeCs, zePop, zeSum, zeR1, zeR2, Int.cast_ofNat_Int, zc0, zc1, Bool.or_false, Bool.false_or, Bool.and_false, Bool.false_and, Bool.true_or, Bool.or_true, Bool.true_and, Bool.and_true, zb_0, zb_1, zb_or, Decidable.not_not, Nat.reduceLeDiff, zePj, zuI_1, zuI_2, zuI_3, zuL_1, zuL_2, zuL_3, zuR_1, zuR_2, zuR_3, Int.reduceEq, Nat.reduceLT, and_false, false_and, ite_true, ite_false, not_false_eq_true, not_true_eq_false, true_implies, false_implies, implies_true, Nat.zero_le, or_true, true_or, or_false, false_or, eq_self_iff_true, reduceCtorEq, zl98, zl99, zl100, zl101, zl102, zl103, zl104, zl105, zl106, zl107, zl108, zl109, zl110, zl111, zl112, zl113, zl114, zl115, zl116, zl117, zl118, zl119, zl120, zl121, zl122, zl123, zl124, zl125, zl126, tT_in]
    repeat' (first | refine And.intro ?_ ?_ | intro _)
    all_goals first | assumption | omega
  · exact h.elim
def tT_isPlace : zeT := fun as σ Q => match as with
  | [hv, .inl y, .inl g, .inl s] => hv = .inr (.inr (some 98)) ∧ zRf σ ∧ 1 ≤ σ.1 98 1 ∧ σ.1 98 1 ≤ 6 ∧ 1 ≤ σ.1 98 2 ∧ σ.1 98 2 ≤ 6 ∧ Q (some (.inl (zb (((0 ≤ y ∧ y ≤ σ.1 98 1 * σ.1 98 2 - 1) ∧ ¬ σ.1 99 y = 10) ∧ (0 ≤ g ∧ g ≤ 999) ∧ (-1 ≤ s ∧ s ≤ 9))))) σ
  | _ => False
set_option maxHeartbeats 8000000 in
set_option maxRecDepth 100000 in
theorem zm_isPlace (as : List zeV) (σ : zeS) (Q : Option zeV → zeS → Prop) (h : tT_isPlace as σ Q) : (∃ k, as.head? = some (.inr (.inr (some k))) ∧ zeLy k zdM = some (.inl 12)) ∧ zeMet xM_X12_isPlace (3, 180) zdM as σ Q := by
  unfold tT_isPlace at h
  split at h
  · rename_i hv y g s
    obtain ⟨rfl, hRf, hw1, hw2, hh1, hh2, h⟩ := h
    have hR0 := hRf
    obtain ⟨⟨r0, r3, r7, r9, r10⟩, ⟨r11, r13, r21, r22, r28⟩, ⟨r29, r30, r32, r33, r34⟩, ⟨r35, r36, r37, r39, r40⟩, ⟨r41, r42, r43, r44, r46⟩, r47, r48, r49⟩ := hRf
    refine ⟨⟨98, rfl, zl98⟩, ?_⟩
    refine zMt (cs := [(248, 2, tT_isStreet), (254 + 100000, 1, tT_isHour), (273 + 100000, 1, tT_isStrength)]) xK_X12_isPlace zb_X12_isPlace (ret := some .boolean) rfl (zcc (zTv xl_RX12_248 (by decide) rfl ⟨by decide, by decide⟩ zm_isStreet) (zcc (zTs xl_RX12_254 rfl ⟨by decide, by decide⟩ zm_isHour) (zcc (zTs xl_RX12_273 rfl ⟨by decide, by decide⟩ zm_isStrength) zcn))) (Nat.le_of_ble_eq_true rfl) (fun G step drop => ?_)
    refine step 200 [] 0 _ _ _ ?_
    simp only [zt_X12_isPlace, zeSk, zWc, zeDo, zeLg, zeKd, zeArgs, zeCat, zeCt, zRI, zRZ, zRJ, zRV, beq_iff_eq, Nat.reduceBEq, Nat.reduceEqDiff, Nat.reduceAdd, Nat.reduceDiv, Nat.reduceMod, cond_true, cond_false, zePr_lt, zePr_gt, zePr_ne, zePr_eq, zePr_ge, zePr_le, zeBF, Int.toNat_natCast, Int.reduceToNat, true_and, and_true, if_false, if_true, zeFv, zeCall, zeCs, zePop, zeSum, zeR1, zeR2, Int.cast_ofNat_Int, zc0, zc1, Bool.or_false, Bool.false_or, Bool.and_false, Bool.false_and, Bool.true_or, Bool.or_true, Bool.true_and, Bool.and_true, zb_0, zb_1, zb_or, Decidable.not_not, Nat.reduceLeDiff, zePj, zuI_1, zuI_2, zuI_3, zuL_1, zuL_2, zuL_3, zuR_1, zuR_2, zuR_3, Int.reduceEq, Nat.reduceLT, and_false, false_and, ite_true, ite_false, not_false_eq_true, not_true_eq_false, true_implies, false_implies, implies_true, Nat.zero_le, or_true, true_or, or_false, false_or, eq_self_iff_true, reduceCtorEq, zl98, zl99, zl100, zl101, zl102, zl103, zl104, zl105, zl106, zl107, zl108, zl109, zl110, zl111, zl112, zl113, zl114, zl115, zl116, zl117, zl118, zl119, zl120, zl121, zl122, zl123, zl124, zl125, zl126, hR0, zRf_I, zRf_L, zRf_R, r0, r3, r7, r9, r10, r11, r13, r21, r22, r28, r29, r30, r32, r33, r34, r35, r36, r37, r39, r40, r41, r42, r43, r44, r46, r47, r48, r49, tT_isStreet, tT_isHour, tT_isStrength]
    by_cases h1 : ((0 ≤ y ∧ y ≤ σ.1 98 1 * σ.1 98 2 - 1) ∧ ¬ σ.1 99 y = 10) ∧ (0 ≤ g ∧ g ≤ 999) ∧ (-1 ≤ s ∧ s ≤ 9)
    · rw [zbp h1] at h
      repeat' (first | refine And.intro ?_ ?_ | intro _)
      all_goals first | assumption | omega
    · rw [zbn h1] at h
      repeat' (first | refine And.intro ?_ ?_ | intro _)
      all_goals first | assumption | omega
  · exact h.elim

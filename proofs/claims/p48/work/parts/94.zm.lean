/-! a fraction in its lowest terms -/
theorem zRm (a b : Int64) : (a - a / b * b).toInt = a.toInt.tmod b.toInt := by
  rw [Int64.toInt_sub, Int64.toInt_mul, Int64.toInt_div, Int.bmod_mul_bmod, Int.sub_bmod_bmod, Int.mul_comm, ← Int.tmod_def]
  have h := Int.natAbs_tmod a.toInt b.toInt
  have ha := Int64.le_toInt a
  have ha2 := Int64.toInt_lt a
  have hb := Int64.le_toInt b
  have hb2 := Int64.toInt_lt b
  have h1 : a.toInt.natAbs % b.toInt.natAbs ≤ a.toInt.natAbs := Nat.mod_le _ _
  by_cases hb0 : b.toInt = 0
  · rw [hb0, Int.tmod_zero, Int.bmod_eq_of_le (by omega) (by omega)]
  · have h2 : a.toInt.natAbs % b.toInt.natAbs < b.toInt.natAbs := Nat.mod_lt _ (by omega)
    rw [Int.bmod_eq_of_le (by omega) (by omega)]
def zCd : Nat → Int64 → Int64 → Prop
  | 0, _, b => b = 0
  | n + 1, a, b => b = 0 ∨ zCd n b (a - a / b * b)
theorem zCd_0 (b : Int64) (h : b.toInt.natAbs = 0) : b = 0 := by
  rw [← Int64.toInt_inj]
  show b.toInt = 0
  omega
theorem zCd_k : ∀ (k : Nat) (a b : Int64), b.toInt.natAbs < 2 ^ k → zCd (2 * k) a b
  | 0, _, b, h => zCd_0 b (by omega)
  | k + 1, a, b, h => by
    have hp : (2 : Nat) ^ (k + 1) = 2 * 2 ^ k := by rw [Nat.pow_succ]; omega
    show b = 0 ∨ (a - a / b * b = 0 ∨ zCd (2 * k) (a - a / b * b) (b - b / (a - a / b * b) * (a - a / b * b)))
    by_cases hb : b = 0
    · exact Or.inl hb
    · by_cases hr : a - a / b * b = 0
      · exact Or.inr (Or.inl hr)
      · refine Or.inr (Or.inr (zCd_k k _ _ ?_))
        have e1 : (a - a / b * b).toInt.natAbs = a.toInt.natAbs % b.toInt.natAbs := by rw [zRm, Int.natAbs_tmod]
        have hb0 : ¬ b.toInt.natAbs = 0 := fun z => hb (zCd_0 b z)
        have hr0 : ¬ (a - a / b * b).toInt.natAbs = 0 := fun z => hr (zCd_0 _ z)
        have h1 : a.toInt.natAbs % b.toInt.natAbs < b.toInt.natAbs := Nat.mod_lt _ (by omega)
        rw [zRm, Int.natAbs_tmod]
        have h2 : b.toInt.natAbs % (a - a / b * b).toInt.natAbs < (a - a / b * b).toInt.natAbs := Nat.mod_lt _ (by omega)
        have h3 : b.toInt.natAbs % (a - a / b * b).toInt.natAbs ≤ b.toInt.natAbs - (a - a / b * b).toInt.natAbs := by
          rw [Nat.mod_eq_sub_mod (by omega)]
          exact Nat.mod_le _ _
        omega
theorem zCd_130 (a b : Int64) : zCd 130 a b := zCd_k 65 a b (by
  have hb := Int64.le_toInt b
  have hb2 := Int64.toInt_lt b
  have e : (2 : Nat) ^ 65 = 36893488147419103232 := by decide
  omega)
theorem zCh {x y r m : Int64} (hr : ¬ (y = 0 ∧ m = 0) → ¬ r = 0) (hy : ¬ y = 0) : ¬ (x = 0 ∧ y = 0) → ¬ r = 0 := fun _ => hr (fun z => hy z.1)
def tT_cP : Nat → zeT
  | 0 => fun _ _ _ => False
  | n + 1 => fun as σ Q => match as with
    | [.inr (.inl x), .inr (.inl y)] => zCd n x y ∧ ∀ r : Int64, (¬ (x = 0 ∧ y = 0) → ¬ r = 0) → Q (some (.inr (.inl r))) σ
    | _ => False
theorem tT_cP0 : tT_cP 0 = fun _ _ _ => False := rfl
theorem tT_cPs (n : Nat) : tT_cP (n + 1) = fun as σ Q => match as with
    | [.inr (.inl x), .inr (.inl y)] => zCd n x y ∧ ∀ r : Int64, (¬ (x = 0 ∧ y = 0) → ¬ r = 0) → Q (some (.inr (.inl r))) σ
    | _ => False := rfl
def tT_common (D : Nat) : zeT := fun as σ Q => match as with
  | [.inr (.inl x), .inr (.inl y)] => zCd D x y ∧ ∀ r : Int64, (¬ (x = 0 ∧ y = 0) → ¬ r = 0) → Q (some (.inr (.inl r))) σ
  | _ => False
set_option maxHeartbeats 1000000 in
set_option maxRecDepth 100000 in
theorem zm_common (D : Nat) (hC : ∀ as σ Q, tT_cP D as σ Q → zeMet xM_X12_common (D, 23 * D) zdM as σ Q) (as : List zeV) (σ : zeS) (Q : Option zeV → zeS → Prop) (h : tT_common D as σ Q) : zeMet xM_X12_common (D + 1, 23 * (D + 1)) zdM as σ Q := by
  unfold tT_common at h
  split at h
  · rename_i x y
    obtain ⟨hc, h⟩ := h
    refine zMq (cs := [(121 + 100000, 2, tT_cP D)]) xK_X12_common zb_X12_common (ret := some .long) rfl (zcc (zTs xl_RX12_121 rfl ⟨by omega, Nat.le_trans (Nat.le_of_eq (show _ = 23 + _ from rfl)) (by omega)⟩ hC) zcn) (Nat.le_of_ble_eq_true rfl) (fun G H step cg => ?_)
    cases D with
    | zero =>
      first | refine cg _ _ _ _ (step 16 [] 0 _ _ _ ?_) | refine step 16 [] 0 _ _ _ ?_
      simp only [zt_X12_common, zeSk, zWd, zWd0, zeDo, zeLg, zeKd, zeArgs, zeCat, zeCt, zRI, zRZ, zRJ, zRV, beq_iff_eq, Nat.reduceBEq, Nat.reduceEqDiff, Nat.reduceAdd, Nat.reduceDiv, Nat.reduceMod, cond_true, cond_false, zePr_lt, zePr_gt, zePr_ne, zePr_eq, zePr_ge, zePr_le, zeBF, Int.toNat_natCast, Int.reduceToNat, true_and, and_true, if_false, if_true, zeFv, zeCall, zeCs, zePop, zeSum, zeR1, zeR2, Int.cast_ofNat_Int, zc0, zc1, Bool.or_false, Bool.false_or, Bool.and_false, Bool.false_and, Bool.true_or, Bool.or_true, Bool.true_and, Bool.and_true, zb_0, zb_1, zb_or, Decidable.not_not, Nat.reduceLeDiff, zePj, zuI_1, zuI_2, zuI_3, zuL_1, zuL_2, zuL_3, zuR_1, zuR_2, zuR_3, zrI_1, zrI_2, zrI_3, zrL_1, zrL_2, zrL_3, zuI_zrI, zuL_zrL, zuI_zrI', zuI_zrL, zuL_zrI, zuR_zrI, zuR_zrL, zuI_zuI, zuI_comm, zOw_1, zOw_2, zOw_3, zOw_Ow, zOw_I, zOw_L, zOw_rL, zOw_rI, zRf_Ow, zFg_Ow, zYd_Ow, zWl_Ow, Int.reduceLT, zRf_rI, zRf_rL, zFg_I, zFg_L, zFg_R, zFg_rL, zFg_rI, zYd_I, zYd_L, zYd_R, zYd_rL, zYd_rI, zWl_I, zWl_L, zWl_R, zWl_rL, zWl_rI, zc_0, zc_1, zc_or, Int.reduceEq, Nat.reduceLT, and_false, false_and, ite_true, ite_false, not_false_eq_true, not_true_eq_false, true_implies, false_implies, implies_true, Nat.zero_le, or_true, true_or, or_false, false_or, eq_self_iff_true, reduceCtorEq, zl98, zl99, zl100, zl101, zl102, zl103, zl104, zl105, zl106, zl107, zl108, zl109, zl110, zl111, zl112, zl113, zl114, zl115, zl116, zl117, zl118, zl119, zl120, zl121, zl122, zl123, zl124, zl125, zl126, zeCmp_0, tT_cP0, tT_cPs]
      repeat' (first | assumption | (with_reducible refine And.intro ?_ ?_) | omega | (exact absurd (show y = 0 from hc) (by assumption)) | (exact h _ (fun z q => z ⟨q, by assumption⟩)) | refine And.intro ?_ ?_ | intro _ | (simp (disch := omega) only [zw_id]; exact absurd (show y = 0 from hc) (by assumption)) | (simp (disch := omega) only [zw_id]; exact h _ (fun z q => z ⟨q, by assumption⟩)) | (refine step 16 [] _ _ _ _ ?_; simp only [zt_X12_common, zeSk, zWd, zWd0, zeDo, zeLg, zeKd, zeArgs, zeCat, zeCt, zRI, zRZ, zRJ, zRV, beq_iff_eq, Nat.reduceBEq, Nat.reduceEqDiff, Nat.reduceAdd, Nat.reduceDiv, Nat.reduceMod, cond_true, cond_false, zePr_lt, zePr_gt, zePr_ne, zePr_eq, zePr_ge, zePr_le, zeBF, Int.toNat_natCast, Int.reduceToNat, true_and, and_true, if_false, if_true, zeFv, zeCall, zeCs, zePop, zeSum, zeR1, zeR2, Int.cast_ofNat_Int, zc0, zc1, Bool.or_false, Bool.false_or, Bool.and_false, Bool.false_and, Bool.true_or, Bool.or_true, Bool.true_and, Bool.and_true, zb_0, zb_1, zb_or, Decidable.not_not, Nat.reduceLeDiff, zePj, zuI_1, zuI_2, zuI_3, zuL_1, zuL_2, zuL_3, zuR_1, zuR_2, zuR_3, zrI_1, zrI_2, zrI_3, zrL_1, zrL_2, zrL_3, zuI_zrI, zuL_zrL, zuI_zrI', zuI_zrL, zuL_zrI, zuR_zrI, zuR_zrL, zuI_zuI, zuI_comm, zOw_1, zOw_2, zOw_3, zOw_Ow, zOw_I, zOw_L, zOw_rL, zOw_rI, zRf_Ow, zFg_Ow, zYd_Ow, zWl_Ow, Int.reduceLT, zRf_rI, zRf_rL, zFg_I, zFg_L, zFg_R, zFg_rL, zFg_rI, zYd_I, zYd_L, zYd_R, zYd_rL, zYd_rI, zWl_I, zWl_L, zWl_R, zWl_rL, zWl_rI, zc_0, zc_1, zc_or, Int.reduceEq, Nat.reduceLT, and_false, false_and, ite_true, ite_false, not_false_eq_true, not_true_eq_false, true_implies, false_implies, implies_true, Nat.zero_le, or_true, true_or, or_false, false_or, eq_self_iff_true, reduceCtorEq, zl98, zl99, zl100, zl101, zl102, zl103, zl104, zl105, zl106, zl107, zl108, zl109, zl110, zl111, zl112, zl113, zl114, zl115, zl116, zl117, zl118, zl119, zl120, zl121, zl122, zl123, zl124, zl125, zl126, zeCmp_0, tT_cP0, tT_cPs]))
      all_goals first | assumption | contradiction | omega | (simp (disch := omega) only [zw_id]; first | assumption | omega) | (exact absurd (show y = 0 from hc) (by assumption)) | (exact h _ (fun z q => z ⟨q, by assumption⟩))
    | succ D =>
      first | refine cg _ _ _ _ (step 16 [] 0 _ _ _ ?_) | refine step 16 [] 0 _ _ _ ?_
      simp only [zt_X12_common, zeSk, zWd, zWd0, zeDo, zeLg, zeKd, zeArgs, zeCat, zeCt, zRI, zRZ, zRJ, zRV, beq_iff_eq, Nat.reduceBEq, Nat.reduceEqDiff, Nat.reduceAdd, Nat.reduceDiv, Nat.reduceMod, cond_true, cond_false, zePr_lt, zePr_gt, zePr_ne, zePr_eq, zePr_ge, zePr_le, zeBF, Int.toNat_natCast, Int.reduceToNat, true_and, and_true, if_false, if_true, zeFv, zeCall, zeCs, zePop, zeSum, zeR1, zeR2, Int.cast_ofNat_Int, zc0, zc1, Bool.or_false, Bool.false_or, Bool.and_false, Bool.false_and, Bool.true_or, Bool.or_true, Bool.true_and, Bool.and_true, zb_0, zb_1, zb_or, Decidable.not_not, Nat.reduceLeDiff, zePj, zuI_1, zuI_2, zuI_3, zuL_1, zuL_2, zuL_3, zuR_1, zuR_2, zuR_3, zrI_1, zrI_2, zrI_3, zrL_1, zrL_2, zrL_3, zuI_zrI, zuL_zrL, zuI_zrI', zuI_zrL, zuL_zrI, zuR_zrI, zuR_zrL, zuI_zuI, zuI_comm, zOw_1, zOw_2, zOw_3, zOw_Ow, zOw_I, zOw_L, zOw_rL, zOw_rI, zRf_Ow, zFg_Ow, zYd_Ow, zWl_Ow, Int.reduceLT, zRf_rI, zRf_rL, zFg_I, zFg_L, zFg_R, zFg_rL, zFg_rI, zYd_I, zYd_L, zYd_R, zYd_rL, zYd_rI, zWl_I, zWl_L, zWl_R, zWl_rL, zWl_rI, zc_0, zc_1, zc_or, Int.reduceEq, Nat.reduceLT, and_false, false_and, ite_true, ite_false, not_false_eq_true, not_true_eq_false, true_implies, false_implies, implies_true, Nat.zero_le, or_true, true_or, or_false, false_or, eq_self_iff_true, reduceCtorEq, zl98, zl99, zl100, zl101, zl102, zl103, zl104, zl105, zl106, zl107, zl108, zl109, zl110, zl111, zl112, zl113, zl114, zl115, zl116, zl117, zl118, zl119, zl120, zl121, zl122, zl123, zl124, zl125, zl126, zeCmp_0, tT_cP0, tT_cPs]
      repeat' (first | assumption | (with_reducible refine And.intro ?_ ?_) | omega | (exact h _ (fun z q => z ⟨q, by assumption⟩)) | (exact (show y = 0 ∨ zCd D y (x - x / y * y) from hc).resolve_left (by assumption)) | (exact h _ (zCh (by assumption) (by assumption))) | refine And.intro ?_ ?_ | intro _ | (simp (disch := omega) only [zw_id]; exact h _ (fun z q => z ⟨q, by assumption⟩)) | (simp (disch := omega) only [zw_id]; exact (show y = 0 ∨ zCd D y (x - x / y * y) from hc).resolve_left (by assumption)) | (simp (disch := omega) only [zw_id]; exact h _ (zCh (by assumption) (by assumption))) | (refine step 16 [] _ _ _ _ ?_; simp only [zt_X12_common, zeSk, zWd, zWd0, zeDo, zeLg, zeKd, zeArgs, zeCat, zeCt, zRI, zRZ, zRJ, zRV, beq_iff_eq, Nat.reduceBEq, Nat.reduceEqDiff, Nat.reduceAdd, Nat.reduceDiv, Nat.reduceMod, cond_true, cond_false, zePr_lt, zePr_gt, zePr_ne, zePr_eq, zePr_ge, zePr_le, zeBF, Int.toNat_natCast, Int.reduceToNat, true_and, and_true, if_false, if_true, zeFv, zeCall, zeCs, zePop, zeSum, zeR1, zeR2, Int.cast_ofNat_Int, zc0, zc1, Bool.or_false, Bool.false_or, Bool.and_false, Bool.false_and, Bool.true_or, Bool.or_true, Bool.true_and, Bool.and_true, zb_0, zb_1, zb_or, Decidable.not_not, Nat.reduceLeDiff, zePj, zuI_1, zuI_2, zuI_3, zuL_1, zuL_2, zuL_3, zuR_1, zuR_2, zuR_3, zrI_1, zrI_2, zrI_3, zrL_1, zrL_2, zrL_3, zuI_zrI, zuL_zrL, zuI_zrI', zuI_zrL, zuL_zrI, zuR_zrI, zuR_zrL, zuI_zuI, zuI_comm, zOw_1, zOw_2, zOw_3, zOw_Ow, zOw_I, zOw_L, zOw_rL, zOw_rI, zRf_Ow, zFg_Ow, zYd_Ow, zWl_Ow, Int.reduceLT, zRf_rI, zRf_rL, zFg_I, zFg_L, zFg_R, zFg_rL, zFg_rI, zYd_I, zYd_L, zYd_R, zYd_rL, zYd_rI, zWl_I, zWl_L, zWl_R, zWl_rL, zWl_rI, zc_0, zc_1, zc_or, Int.reduceEq, Nat.reduceLT, and_false, false_and, ite_true, ite_false, not_false_eq_true, not_true_eq_false, true_implies, false_implies, implies_true, Nat.zero_le, or_true, true_or, or_false, false_or, eq_self_iff_true, reduceCtorEq, zl98, zl99, zl100, zl101, zl102, zl103, zl104, zl105, zl106, zl107, zl108, zl109, zl110, zl111, zl112, zl113, zl114, zl115, zl116, zl117, zl118, zl119, zl120, zl121, zl122, zl123, zl124, zl125, zl126, zeCmp_0, tT_cP0, tT_cPs]))
      all_goals first | assumption | contradiction | omega | (simp (disch := omega) only [zw_id]; first | assumption | omega) | (exact h _ (fun z q => z ⟨q, by assumption⟩)) | (exact (show y = 0 ∨ zCd D y (x - x / y * y) from hc).resolve_left (by assumption)) | (exact h _ (zCh (by assumption) (by assumption)))
  · exact h.elim
theorem zm_commonA : ∀ (D : Nat) (as : List zeV) (σ : zeS) (Q : Option zeV → zeS → Prop), tT_common D as σ Q → zeMet xM_X12_common (D + 1, 23 * (D + 1)) zdM as σ Q
  | 0, as, σ, Q, h => zm_common 0 (fun _ _ _ h => h.elim) as σ Q h
  | n + 1, as, σ, Q, h => zm_common (n + 1) (zm_commonA n) as σ Q h
theorem sTen_0 : ∀ k : Nat, k < 19 → ¬ sTen k = 0 := by
  have key : ∀ k : Fin 19, ¬ sTen k.val = 0 := by decide +kernel
  exact fun k h => key ⟨k, h⟩
def tT_tellPart : zeT := fun as σ Q => match as with
  | [hv, .inr (.inl x), .inr (.inl y)] => hv = .inr (.inr (some 98)) ∧ zRf σ ∧ ¬ y = 0 ∧ 0 ≤ σ.1 98 14 ∧ σ.1 98 14 ≤ 14 ∧ ∀ a b : Int64, Q none (zuI (zuL (zuI (zuL σ 105 (σ.1 98 14) a) 98 14 (σ.1 98 14 + 1)) 105 (σ.1 98 14 + 1) b) 98 14 (σ.1 98 14 + 1 + 1))
  | _ => False
set_option maxHeartbeats 1000000 in
set_option maxRecDepth 100000 in
theorem zm_tellPart (as : List zeV) (σ : zeS) (Q : Option zeV → zeS → Prop) (h : tT_tellPart as σ Q) : (∃ k, as.head? = some (.inr (.inr (some k))) ∧ zeLy k zdM = some (.inl 12)) ∧ zeMet xM_X12_tellPart (132, 3036) zdM as σ Q := by
  unfold tT_tellPart at h
  split at h
  · rename_i hv x y
    obtain ⟨rfl, hRf, hlow, ht0, ht1, h⟩ := h
    have hR0 := hRf
    obtain ⟨⟨r0, r3, r7, r9, r10⟩, ⟨r11, r13, r21, r22, r28⟩, ⟨r29, r30, r32, r33, r34⟩, ⟨r35, r36, r37, r39, r40⟩, ⟨r41, r42, r43, r44, r46⟩, r47, r48, r49⟩ := hRf
    refine ⟨⟨98, rfl, zl98⟩, ?_⟩
    refine zMq (cs := [(117, 2, tT_tell), (121 + 100000, 2, tT_common 130)]) xK_X12_tellPart zb_X12_tellPart (ret := none) rfl (zcc (zTv xl_RX12_117 (by decide) rfl ⟨by decide, by decide⟩ zm_tell) (zcc (zTs xl_RX12_121 rfl ⟨by decide, by decide⟩ (zm_commonA 130)) zcn)) (Nat.le_of_ble_eq_true rfl) (fun G H step cg => ?_)
    have nz : ∀ r : Int64, (¬ (x = 0 ∧ y = 0) → ¬ r = 0) → ¬ r = 0 := fun r a => a (fun z => hlow z.2)
    first | refine cg _ _ _ _ (step 16 [] 0 _ _ _ ?_) | refine step 16 [] 0 _ _ _ ?_
    simp only [zt_X12_tellPart, zeSk, zWd, zWd0, zeDo, zeLg, zeKd, zeArgs, zeCat, zeCt, zRI, zRZ, zRJ, zRV, beq_iff_eq, Nat.reduceBEq, Nat.reduceEqDiff, Nat.reduceAdd, Nat.reduceDiv, Nat.reduceMod, cond_true, cond_false, zePr_lt, zePr_gt, zePr_ne, zePr_eq, zePr_ge, zePr_le, zeBF, Int.toNat_natCast, Int.reduceToNat, true_and, and_true, if_false, if_true, zeFv, zeCall, zeCs, zePop, zeSum, zeR1, zeR2, Int.cast_ofNat_Int, zc0, zc1, Bool.or_false, Bool.false_or, Bool.and_false, Bool.false_and, Bool.true_or, Bool.or_true, Bool.true_and, Bool.and_true, zb_0, zb_1, zb_or, Decidable.not_not, Nat.reduceLeDiff, zePj, zuI_1, zuI_2, zuI_3, zuL_1, zuL_2, zuL_3, zuR_1, zuR_2, zuR_3, zrI_1, zrI_2, zrI_3, zrL_1, zrL_2, zrL_3, zuI_zrI, zuL_zrL, zuI_zrI', zuI_zrL, zuL_zrI, zuR_zrI, zuR_zrL, zuI_zuI, zuI_comm, zOw_1, zOw_2, zOw_3, zOw_Ow, zOw_I, zOw_L, zOw_rL, zOw_rI, zRf_Ow, zFg_Ow, zYd_Ow, zWl_Ow, Int.reduceLT, zRf_rI, zRf_rL, zFg_I, zFg_L, zFg_R, zFg_rL, zFg_rI, zYd_I, zYd_L, zYd_R, zYd_rL, zYd_rI, zWl_I, zWl_L, zWl_R, zWl_rL, zWl_rI, zc_0, zc_1, zc_or, Int.reduceEq, Nat.reduceLT, and_false, false_and, ite_true, ite_false, not_false_eq_true, not_true_eq_false, true_implies, false_implies, implies_true, Nat.zero_le, or_true, true_or, or_false, false_or, eq_self_iff_true, reduceCtorEq, zl98, zl99, zl100, zl101, zl102, zl103, zl104, zl105, zl106, zl107, zl108, zl109, zl110, zl111, zl112, zl113, zl114, zl115, zl116, zl117, zl118, zl119, zl120, zl121, zl122, zl123, zl124, zl125, zl126, hR0, zRf_I, zRf_L, zRf_R, r0, r3, r7, r9, r10, r11, r13, r21, r22, r28, r29, r30, r32, r33, r34, r35, r36, r37, r39, r40, r41, r42, r43, r44, r46, r47, r48, r49, tT_tell, tT_common]
    repeat' (first | assumption | (with_reducible refine And.intro ?_ ?_) | omega | (exact zCd_130 _ _) | (exact nz _ (by assumption)) | (exact h _ _) | refine And.intro ?_ ?_ | intro _ | (simp (disch := omega) only [zw_id]; exact zCd_130 _ _) | (simp (disch := omega) only [zw_id]; exact nz _ (by assumption)) | (simp (disch := omega) only [zw_id]; exact h _ _) | (refine step 16 [] _ _ _ _ ?_; simp only [zt_X12_tellPart, zeSk, zWd, zWd0, zeDo, zeLg, zeKd, zeArgs, zeCat, zeCt, zRI, zRZ, zRJ, zRV, beq_iff_eq, Nat.reduceBEq, Nat.reduceEqDiff, Nat.reduceAdd, Nat.reduceDiv, Nat.reduceMod, cond_true, cond_false, zePr_lt, zePr_gt, zePr_ne, zePr_eq, zePr_ge, zePr_le, zeBF, Int.toNat_natCast, Int.reduceToNat, true_and, and_true, if_false, if_true, zeFv, zeCall, zeCs, zePop, zeSum, zeR1, zeR2, Int.cast_ofNat_Int, zc0, zc1, Bool.or_false, Bool.false_or, Bool.and_false, Bool.false_and, Bool.true_or, Bool.or_true, Bool.true_and, Bool.and_true, zb_0, zb_1, zb_or, Decidable.not_not, Nat.reduceLeDiff, zePj, zuI_1, zuI_2, zuI_3, zuL_1, zuL_2, zuL_3, zuR_1, zuR_2, zuR_3, zrI_1, zrI_2, zrI_3, zrL_1, zrL_2, zrL_3, zuI_zrI, zuL_zrL, zuI_zrI', zuI_zrL, zuL_zrI, zuR_zrI, zuR_zrL, zuI_zuI, zuI_comm, zOw_1, zOw_2, zOw_3, zOw_Ow, zOw_I, zOw_L, zOw_rL, zOw_rI, zRf_Ow, zFg_Ow, zYd_Ow, zWl_Ow, Int.reduceLT, zRf_rI, zRf_rL, zFg_I, zFg_L, zFg_R, zFg_rL, zFg_rI, zYd_I, zYd_L, zYd_R, zYd_rL, zYd_rI, zWl_I, zWl_L, zWl_R, zWl_rL, zWl_rI, zc_0, zc_1, zc_or, Int.reduceEq, Nat.reduceLT, and_false, false_and, ite_true, ite_false, not_false_eq_true, not_true_eq_false, true_implies, false_implies, implies_true, Nat.zero_le, or_true, true_or, or_false, false_or, eq_self_iff_true, reduceCtorEq, zl98, zl99, zl100, zl101, zl102, zl103, zl104, zl105, zl106, zl107, zl108, zl109, zl110, zl111, zl112, zl113, zl114, zl115, zl116, zl117, zl118, zl119, zl120, zl121, zl122, zl123, zl124, zl125, zl126, hR0, zRf_I, zRf_L, zRf_R, r0, r3, r7, r9, r10, r11, r13, r21, r22, r28, r29, r30, r32, r33, r34, r35, r36, r37, r39, r40, r41, r42, r43, r44, r46, r47, r48, r49, tT_tell, tT_common]))
    all_goals first | assumption | contradiction | omega | (simp (disch := omega) only [zw_id]; first | assumption | omega) | (exact zCd_130 _ _) | (exact nz _ (by assumption)) | (exact h _ _)
  · exact h.elim

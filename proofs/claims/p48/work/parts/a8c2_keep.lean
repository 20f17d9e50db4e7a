/-! keep, exactly: the class -/
set_option maxHeartbeats 1000000 in
/-- a contract over names whose arguments are known cells, that answers nothing, below the invariant -/
theorem zyGv {M : xM} {k : yCo2} (hk : yHolds M k) {dom : zeD} (hnd : zeNd dom = true) (hok : zyOk dom k = true) {rm : Nat × Nat} (hrm : k.2.2.2.2.1 = (rm.1, rm.2, 0, 0)) {G : xH} {src : List (Nat ⊕ (Nat × Nat))} (hG : (G.map (·.1)).Nodup) (he : zyEv G src k.2.2.2.2.2 = true) (hp : k.2.1.all (fun q => match xGet q.1 G with
    | some g => zyPE src q.1 g q.2
    | none => false) = true) (hq : k.2.2.2.1.all (fun z => decide (z.1 = none) && z.2.1.all (fun q => match xGet q.1 G with
    | some g => zyQE z.2.2 q.2 g
    | none => false)) = true) {as : List zeV} {σ : zeS} {Q : Option zeV → zeS → Prop} (hs : ∀ (j i : Nat), src[j]? = some (Sum.inl i) → False) (hC : zCI G σ) (has : xAll (zyV (zyS0 src [] σ)) k.1 as)
    (hQ : ∀ τ : zeS, zCI G τ → (∀ k', ¬ k' ∈ k.2.1.map (·.1) → zeSm σ τ k') → Q none τ) : zeMet M rm dom as σ Q := by
  simp only [List.all_eq_true, Bool.and_eq_true, decide_eq_true_eq] at hp hq
  have hE : yOkE (zyS0 src [] σ) k.2.2.2.2.2 := zyEv_ok hC he (fun j => by
    unfold zyS0
    cases hs' : src[j]? with
    | none => trivial
    | some z => cases z with
      | inl i => exact (hs j i hs').elim
      | inr q => rfl)
  have h0 : ∀ (j : Nat) (q : Nat × Nat), src[j]? = some (.inr q) → zyS0 src [] σ j = σ.1 q.1 (q.2 : Int) := fun j q hj => by
    unfold zyS0
    rw [hj]
  refine zyM hk hnd hok hrm (zyS0 src [] σ) hE has (fun q hq' => ?_) (fun z hz r τ t1 t2 t3 t4 => ?_)
  · have := hp q hq'
    split at this
    · rename_i g hgq
      exact zyPE_ok h0 this (hC _ (xGet_mem hgq))
    · cases this
  · obtain ⟨hki, hqz⟩ := hq z hz
    have hr : r = none := by
      revert t2
      rw [hki]
      intro t2
      cases r with
      | none => rfl
      | some v => exact t2.elim
    subst hr
    refine hQ τ (fun q hqG => ?_) t4
    simp only [zyOk, Bool.and_eq_true, beq_iff_eq, decide_eq_true_eq, List.all_eq_true] at hok
    have hids : z.2.1.map (·.1) = k.2.1.map (·.1) := by
      have e := congrArg (List.map (·.1)) (hok.2 z hz).1
      rw [List.map_map, List.map_map] at e
      exact e
    by_cases hin : q.1 ∈ k.2.1.map (·.1)
    · rw [← hids] at hin
      obtain ⟨q', hq', hqq⟩ := List.mem_map.mp hin
      have h1 := hqz q' hq'
      split at h1
      · rename_i g hgq
        have e := zyU hG (xGet_mem hgq) hqG hqq
        have := zyQE_ok t1 h1 (t3 q' hq')
        rw [← e]
        exact this
      · cases h1
    · exact zyC_sm (t4 q.1 hin) (hC q hqG)
def zFrK (σ τ : zeS) : Prop := (∀ k', ¬ k' ∈ zGi → zeSm σ τ k') ∧ zeSm σ τ 5 ∧ zeSm σ τ 6
def tCp (r : Nat) : zeT := fun as σ Q => as = [.inr (.inr (some r)), .inr (.inr (some 20))] ∧ zCI zGc σ ∧ ∀ τ : zeS, zCI zGc τ → zFrK σ τ → Q none τ
theorem zc_copy64 (as : List zeV) (σ : zeS) (Q : Option zeV → zeS → Prop) (h : tCp 64 as σ Q) : (∃ k, as.head? = some (.inr (.inr (some k))) ∧ zeLy k zdL = some (.inl 0)) ∧ zeMet xM_X0_copyFrom (K1069.2.2.2.2.1.1, K1069.2.2.2.2.1.2.1) zdL as σ Q := by
  obtain ⟨rfl, hC, h⟩ := h
  refine ⟨⟨64, rfl, zdL_64⟩, zyGv Y1069 zdL_nd (by decide +kernel) (by decide +kernel) (src := [.inr (20, 3), .inr (20, 4), .inr (23, 1), .inr (25, 2), .inr (25, 3), .inr (25, 4), .inr (25, 5), .inr (28, 2), .inr (28, 3), .inr (28, 4), .inr (28, 5), .inr (31, 2), .inr (31, 3), .inr (31, 4), .inr (31, 5), .inr (34, 2), .inr (34, 3), .inr (34, 4), .inr (34, 5), .inr (64, 3), .inr (64, 4), .inr (64, 5), .inr (67, 1), .inr (69, 2), .inr (69, 3), .inr (69, 4), .inr (69, 5), .inr (72, 2), .inr (72, 3), .inr (72, 4), .inr (72, 5), .inr (75, 2), .inr (75, 3), .inr (75, 4), .inr (75, 5), .inr (78, 2), .inr (78, 3), .inr (78, 4), .inr (78, 5)]) zGcN (by decide +kernel) (by decide +kernel) (by decide +kernel) (fun j i hj => ?_) hC ⟨⟨rfl, fun k hk => by cases hk; decide⟩, ⟨rfl, fun k hk => by cases hk; decide⟩, trivial⟩ (fun τ a b => h τ a ⟨fun k' hk' => b k' (fun hin => ?_), b 5 (by decide +kernel), b 6 (by decide +kernel)⟩)⟩
  · have : ∀ z ∈ ([.inr (20, 3), .inr (20, 4), .inr (23, 1), .inr (25, 2), .inr (25, 3), .inr (25, 4), .inr (25, 5), .inr (28, 2), .inr (28, 3), .inr (28, 4), .inr (28, 5), .inr (31, 2), .inr (31, 3), .inr (31, 4), .inr (31, 5), .inr (34, 2), .inr (34, 3), .inr (34, 4), .inr (34, 5), .inr (64, 3), .inr (64, 4), .inr (64, 5), .inr (67, 1), .inr (69, 2), .inr (69, 3), .inr (69, 4), .inr (69, 5), .inr (72, 2), .inr (72, 3), .inr (72, 4), .inr (72, 5), .inr (75, 2), .inr (75, 3), .inr (75, 4), .inr (75, 5), .inr (78, 2), .inr (78, 3), .inr (78, 4), .inr (78, 5)] : List (Nat ⊕ (Nat × Nat))), z.isRight = true := by decide
    have := this _ (List.mem_of_getElem? hj)
    cases this
  · have : ∀ i ∈ K1069.2.1.map (·.1), i ∈ zGi := by decide +kernel
    exact hk' (this _ hin)
theorem zc_copy81 (as : List zeV) (σ : zeS) (Q : Option zeV → zeS → Prop) (h : tCp 81 as σ Q) : (∃ k, as.head? = some (.inr (.inr (some k))) ∧ zeLy k zdL = some (.inl 0)) ∧ zeMet xM_X0_copyFrom (K1075.2.2.2.2.1.1, K1075.2.2.2.2.1.2.1) zdL as σ Q := by
  obtain ⟨rfl, hC, h⟩ := h
  refine ⟨⟨81, rfl, zdL_81⟩, zyGv Y1075 zdL_nd (by decide +kernel) (by decide +kernel) (src := [.inr (20, 3), .inr (20, 4), .inr (23, 1), .inr (25, 2), .inr (25, 3), .inr (25, 4), .inr (25, 5), .inr (28, 2), .inr (28, 3), .inr (28, 4), .inr (28, 5), .inr (31, 2), .inr (31, 3), .inr (31, 4), .inr (31, 5), .inr (34, 2), .inr (34, 3), .inr (34, 4), .inr (34, 5), .inr (81, 3), .inr (81, 4), .inr (81, 5), .inr (84, 1), .inr (86, 2), .inr (86, 3), .inr (86, 4), .inr (86, 5), .inr (89, 2), .inr (89, 3), .inr (89, 4), .inr (89, 5), .inr (92, 2), .inr (92, 3), .inr (92, 4), .inr (92, 5), .inr (95, 2), .inr (95, 3), .inr (95, 4), .inr (95, 5)]) zGcN (by decide +kernel) (by decide +kernel) (by decide +kernel) (fun j i hj => ?_) hC ⟨⟨rfl, fun k hk => by cases hk; decide⟩, ⟨rfl, fun k hk => by cases hk; decide⟩, trivial⟩ (fun τ a b => h τ a ⟨fun k' hk' => b k' (fun hin => ?_), b 5 (by decide +kernel), b 6 (by decide +kernel)⟩)⟩
  · have : ∀ z ∈ ([.inr (20, 3), .inr (20, 4), .inr (23, 1), .inr (25, 2), .inr (25, 3), .inr (25, 4), .inr (25, 5), .inr (28, 2), .inr (28, 3), .inr (28, 4), .inr (28, 5), .inr (31, 2), .inr (31, 3), .inr (31, 4), .inr (31, 5), .inr (34, 2), .inr (34, 3), .inr (34, 4), .inr (34, 5), .inr (81, 3), .inr (81, 4), .inr (81, 5), .inr (84, 1), .inr (86, 2), .inr (86, 3), .inr (86, 4), .inr (86, 5), .inr (89, 2), .inr (89, 3), .inr (89, 4), .inr (89, 5), .inr (92, 2), .inr (92, 3), .inr (92, 4), .inr (92, 5), .inr (95, 2), .inr (95, 3), .inr (95, 4), .inr (95, 5)] : List (Nat ⊕ (Nat × Nat))), z.isRight = true := by decide
    have := this _ (List.mem_of_getElem? hj)
    cases this
  · have : ∀ i ∈ K1075.2.1.map (·.1), i ∈ zGi := by decide +kernel
    exact hk' (this _ hin)
theorem zGw37 {σ : zeS} (h : zCI zGc σ) : σ.2.2 37 0 = some 64 ∧ σ.2.2 37 1 = some 81 := by
  have hm : (37, (.inr (4, 2, .inr (.inr (.inl none)), [(0, .inr (.inr (.inl (some 64)))), (1, .inr (.inr (.inl (some 81))))]) : xE)) ∈ zGc := List.mem_of_getElem? (i := 33) rfl
  have h0 := h _ hm 0 (by decide)
  have h1 := h _ hm 1 (by decide)
  exact ⟨h0.1, h1.1⟩
theorem zFrK_r (σ : zeS) : zFrK σ σ := ⟨fun _ _ => ⟨fun _ => rfl, fun _ => rfl, fun _ => rfl⟩, ⟨fun _ => rfl, fun _ => rfl, fun _ => rfl⟩, ⟨fun _ => rfl, fun _ => rfl, fun _ => rfl⟩⟩
def tCk : zeT := fun as σ Q => match as with
  | [.inr (.inr (some r)), .inr (.inr (some t))] => (r = 64 ∨ r = 81) ∧ t = 20 ∧ zCI zGc σ ∧ ∀ τ : zeS, zCI zGc τ → zFrK σ τ → Q none τ
  | _ => False
theorem zc_copyK (as : List zeV) (σ : zeS) (Q : Option zeV → zeS → Prop) (h : tCk as σ Q) : (∃ k, as.head? = some (.inr (.inr (some k))) ∧ zeLy k zdL = some (.inl 0)) ∧ zeMet xM_X0_copyFrom (2, 39) zdL as σ Q := by
  unfold tCk at h
  split at h
  rotate_left
  · exact h.elim
  obtain ⟨hr, rfl, hC, h⟩ := h
  rcases hr with rfl | rfl
  · exact zc_copy64 _ σ Q ⟨rfl, hC, h⟩
  · exact zc_copy81 _ σ Q ⟨rfl, hC, h⟩
theorem zCI_h64 {σ : zeS} (h : zCI zGc σ) : zCI zGc (zuI σ 64 5 1) := zCI_fld (j := 5) (o := (0, [(.inr (.inr (.inl (some 65)))), (.inr (.inr (.inl (some 66)))), (.inr (.inr (.inl (some 67)))), (.inl (Int.ofNat 0, Int.ofNat 6)), (.inl (Int.ofNat 0, Int.ofNat 9)), (.inl (Int.ofNat 0, Int.ofNat 1))])) h (List.mem_of_getElem? (i := 58) rfl) rfl (by decide) (by decide)
theorem zFrK_64 {σ τ : zeS} (h : zFrK σ τ) : zFrK σ (zuI τ 64 5 1) := ⟨fun k' hk' => zeSm_t (h.1 k' hk') (zuI_sm (fun z => hk' (by rw [z]; decide +kernel))), zeSm_t h.2.1 (zuI_sm (by decide)), zeSm_t h.2.2 (zuI_sm (by decide))⟩
theorem zCI_h81 {σ : zeS} (h : zCI zGc σ) : zCI zGc (zuI σ 81 5 1) := zCI_fld (j := 5) (o := (0, [(.inr (.inr (.inl (some 82)))), (.inr (.inr (.inl (some 83)))), (.inr (.inr (.inl (some 84)))), (.inl (Int.ofNat 0, Int.ofNat 6)), (.inl (Int.ofNat 0, Int.ofNat 9)), (.inl (Int.ofNat 0, Int.ofNat 1))])) h (List.mem_of_getElem? (i := 75) rfl) rfl (by decide) (by decide)
theorem zFrK_81 {σ τ : zeS} (h : zFrK σ τ) : zFrK σ (zuI τ 81 5 1) := ⟨fun k' hk' => zeSm_t (h.1 k' hk') (zuI_sm (fun z => hk' (by rw [z]; decide +kernel))), zeSm_t h.2.1 (zuI_sm (by decide)), zeSm_t h.2.2 (zuI_sm (by decide))⟩
noncomputable def zt_X11_keep : List zeEn := [(0, .iload 1, 1), (1, .ifCond .lt 9, 3), (4, .iload 1, 1), (5, .bipush 2, 1), (6, .if_icmp .lt 11, 3), (9, .bipush 0, 1), (10, .ireturn, 1), (11, .aload 0, 1), (12, .getfield 11043, 3), (15, .iload 1, 1), (16, .aaload, 1), (17, .aload 0, 1), (18, .getfield 11033, 3), (21, .invokevirtual 400, 3), (24, .aload 0, 1), (25, .getfield 11043, 3), (28, .iload 1, 1), (29, .aaload, 1), (30, .bipush 1, 1), (31, .putfield 51, 3), (34, .bipush 1, 1), (35, .ireturn, 1)]
theorem zb_X11_keep : zeTb xI_X11_keep 2 xI_X11_keep.1 = some zt_X11_keep ∧ zeCq zt_X11_keep = true := by decide +kernel
def tKeE : zeT := fun as σ Q => match as with
  | [hv, .inl i] => hv = .inr (.inr (some 4)) ∧ zCI zGc σ ∧ ∀ (x : Int) (τ : zeS), zCI zGc τ → zFrK σ τ → (0 ≤ i ∧ i ≤ 1 → x = 1) → (¬ (0 ≤ i ∧ i ≤ 1) → x = 0) → Q (some (.inl x)) τ
  | _ => False
set_option maxHeartbeats 4000000 in
set_option maxRecDepth 100000 in
theorem zc_keepE (as : List zeV) (σ : zeS) (Q : Option zeV → zeS → Prop) (h : tKeE as σ Q) : (∃ k, as.head? = some (.inr (.inr (some k))) ∧ zeLy k zdL = some (.inl 11)) ∧ zeMet xM_X11_keep (3, 61) zdL as σ Q := by
  unfold tKeE at h
  split at h
  rotate_left
  · exact h.elim
  rename_i hv i
  obtain ⟨rfl, hC, h⟩ := h
  have r44 := zGr4_4 hC
  have r43 := zGr4_3 hC
  have r37 := (zGw37 hC).1
  have r38 := (zGw37 hC).2
  refine ⟨⟨4, rfl, zdL_4⟩, ?_⟩
  refine zeMet_of (cs := [(400, 2, tCk)]) xK_X11_keep zb_X11_keep.1 zb_X11_keep.2 zdL_nd (zcc (Or.inl ⟨1, xM_X0_copyFrom, 0, (2, 39), by decide, xl_RX11_400, rfl, ⟨by decide, by decide⟩, zc_copyK⟩) zcn) (Nat.le_of_ble_eq_true rfl) (fun G step drop => ?_)
  by_cases h0 : i = 0
  · subst h0
    have rest : ∀ τ : zeS, zCI zGc τ → zFrK σ τ → G 24 [(0, .inr (.inr (some 4))), (1, .inl 0)] [] τ := fun τ g1 g2 => by
      have q44 := zGr4_4 g1
      have q37 := (zGw37 g1).1
      refine step 20 [] 24 _ _ _ ?_
      simp only [show xM_X11_keep.2.2.2 = some .boolean from rfl, zt_X11_keep, q44, q37, zeSk, zWcL, zeDo, zeLg, zeKd, zeArgs, zeCat, zeCt, zRZL, zRIL, beq_iff_eq, Nat.reduceBEq, Nat.reduceEqDiff, Nat.reduceAdd, Nat.reduceDiv, Nat.reduceMod, cond_true, cond_false, zePr, zePj, zeBF, Int.toNat_natCast, Int.reduceToNat, true_and, and_true, if_false, if_true, zeFv, zeCall, zeCs, zePop, zeSum, zdL_4, zdL_5, zdL_20, zdL_23, zdL_24, zdL_37, zdL_64, zdL_81, zuI_1, zuI_2, zuI_3, Int.cast_ofNat_Int, Nat.reduceLeDiff, Int.reduceLT, Int.reduceEq, and_false, false_and, ite_true, ite_false, eq_self_iff_true, reduceCtorEq, or_true, true_or, Nat.zero_le, List.length_cons, Bool.or_false, Bool.false_or, Bool.and_false, Bool.false_and, Bool.true_or, Bool.or_true, Bool.true_and, Bool.and_true, zeR1]
      repeat' (first | assumption | (with_reducible refine And.intro ?_ ?_) | omega | exact h _ _ (zCI_h64 g1) (zFrK_64 g2) (fun _ => rfl) (fun z => absurd (by omega) z) | refine And.intro ?_ ?_ | intro _)
    refine step 40 [(24, [0, 1])] 0 _ _ _ ?_
    simp only [show xM_X11_keep.2.2.2 = some .boolean from rfl, zt_X11_keep, tCk, r44, r43, r37, zeSk, zWcL, zeDo, zeLg, zeKd, zeArgs, zeCat, zeCt, zRZL, zRIL, beq_iff_eq, Nat.reduceBEq, Nat.reduceEqDiff, Nat.reduceAdd, Nat.reduceDiv, Nat.reduceMod, cond_true, cond_false, zePr, zePj, zeBF, Int.toNat_natCast, Int.reduceToNat, true_and, and_true, if_false, if_true, zeFv, zeCall, zeCs, zePop, zeSum, zdL_4, zdL_5, zdL_20, zdL_23, zdL_24, zdL_37, zdL_64, zdL_81, zuI_1, zuI_2, zuI_3, Int.cast_ofNat_Int, Nat.reduceLeDiff, Int.reduceLT, Int.reduceEq, and_false, false_and, ite_true, ite_false, eq_self_iff_true, reduceCtorEq, or_true, true_or, Nat.zero_le, List.length_cons, Bool.or_false, Bool.false_or, Bool.and_false, Bool.false_and, Bool.true_or, Bool.or_true, Bool.true_and, Bool.and_true, zeR1]
    repeat' (first | assumption | (with_reducible refine And.intro ?_ ?_) | omega | exact rest _ (by assumption) (by assumption) | (exfalso; assumption) | exact absurd trivial (by assumption) | refine And.intro ?_ ?_ | intro _)
  · by_cases h1 : i = 1
    · subst h1
      have rest : ∀ τ : zeS, zCI zGc τ → zFrK σ τ → G 24 [(0, .inr (.inr (some 4))), (1, .inl 1)] [] τ := fun τ g1 g2 => by
        have q44 := zGr4_4 g1
        have q38 := (zGw37 g1).2
        refine step 20 [] 24 _ _ _ ?_
        simp only [show xM_X11_keep.2.2.2 = some .boolean from rfl, zt_X11_keep, q44, q38, zeSk, zWcL, zeDo, zeLg, zeKd, zeArgs, zeCat, zeCt, zRZL, zRIL, beq_iff_eq, Nat.reduceBEq, Nat.reduceEqDiff, Nat.reduceAdd, Nat.reduceDiv, Nat.reduceMod, cond_true, cond_false, zePr, zePj, zeBF, Int.toNat_natCast, Int.reduceToNat, true_and, and_true, if_false, if_true, zeFv, zeCall, zeCs, zePop, zeSum, zdL_4, zdL_5, zdL_20, zdL_23, zdL_24, zdL_37, zdL_64, zdL_81, zuI_1, zuI_2, zuI_3, Int.cast_ofNat_Int, Nat.reduceLeDiff, Int.reduceLT, Int.reduceEq, and_false, false_and, ite_true, ite_false, eq_self_iff_true, reduceCtorEq, or_true, true_or, Nat.zero_le, List.length_cons, Bool.or_false, Bool.false_or, Bool.and_false, Bool.false_and, Bool.true_or, Bool.or_true, Bool.true_and, Bool.and_true, zeR1]
        repeat' (first | assumption | (with_reducible refine And.intro ?_ ?_) | omega | exact h _ _ (zCI_h81 g1) (zFrK_81 g2) (fun _ => rfl) (fun z => absurd (by omega) z) | refine And.intro ?_ ?_ | intro _)
      refine step 40 [(24, [0, 1])] 0 _ _ _ ?_
      simp only [show xM_X11_keep.2.2.2 = some .boolean from rfl, zt_X11_keep, tCk, r44, r43, r38, zeSk, zWcL, zeDo, zeLg, zeKd, zeArgs, zeCat, zeCt, zRZL, zRIL, beq_iff_eq, Nat.reduceBEq, Nat.reduceEqDiff, Nat.reduceAdd, Nat.reduceDiv, Nat.reduceMod, cond_true, cond_false, zePr, zePj, zeBF, Int.toNat_natCast, Int.reduceToNat, true_and, and_true, if_false, if_true, zeFv, zeCall, zeCs, zePop, zeSum, zdL_4, zdL_5, zdL_20, zdL_23, zdL_24, zdL_37, zdL_64, zdL_81, zuI_1, zuI_2, zuI_3, Int.cast_ofNat_Int, Nat.reduceLeDiff, Int.reduceLT, Int.reduceEq, and_false, false_and, ite_true, ite_false, eq_self_iff_true, reduceCtorEq, or_true, true_or, Nat.zero_le, List.length_cons, Bool.or_false, Bool.false_or, Bool.and_false, Bool.false_and, Bool.true_or, Bool.or_true, Bool.true_and, Bool.and_true, zeR1]
      repeat' (first | assumption | (with_reducible refine And.intro ?_ ?_) | omega | exact rest _ (by assumption) (by assumption) | (exfalso; assumption) | exact absurd trivial (by assumption) | refine And.intro ?_ ?_ | intro _)
    · refine step 40 [(11, [0, 1])] 0 _ _ _ ?_
      simp only [show xM_X11_keep.2.2.2 = some .boolean from rfl, zt_X11_keep, tCk, zeSk, zWcL, zeDo, zeLg, zeKd, zeArgs, zeCat, zeCt, zRZL, zRIL, beq_iff_eq, Nat.reduceBEq, Nat.reduceEqDiff, Nat.reduceAdd, Nat.reduceDiv, Nat.reduceMod, cond_true, cond_false, zePr, zePj, zeBF, Int.toNat_natCast, Int.reduceToNat, true_and, and_true, if_false, if_true, zeFv, zeCall, zeCs, zePop, zeSum, zdL_4, zdL_5, zdL_20, zdL_23, zdL_24, zdL_37, zdL_64, zdL_81, zuI_1, zuI_2, zuI_3, Int.cast_ofNat_Int, Nat.reduceLeDiff, Int.reduceLT, Int.reduceEq, and_false, false_and, ite_true, ite_false, eq_self_iff_true, reduceCtorEq, or_true, true_or, Nat.zero_le, List.length_cons, Bool.or_false, Bool.false_or, Bool.and_false, Bool.false_and, Bool.true_or, Bool.or_true, Bool.true_and, Bool.and_true, zeR1]
      repeat' (first | assumption | (with_reducible refine And.intro ?_ ?_) | omega | exact h _ _ hC (zFrK_r σ) (fun z => absurd z (by omega)) (fun _ => rfl) | refine And.intro ?_ ?_ | intro _)

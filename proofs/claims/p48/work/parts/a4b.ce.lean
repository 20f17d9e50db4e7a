/-! the class's end, exactly -/
noncomputable def zt_X7_cut : List zeEn := [(0, .iload 1, 1), (1, .ifCond .lt 12, 3), (4, .iload 1, 1), (5, .aload 0, 1), (6, .getfield 7010, 3), (9, .if_icmp .le 14, 3), (12, .bipush 0, 1), (13, .ireturn, 1), (14, .aload 0, 1), (15, .iload 1, 1), (16, .putfield 7010, 3), (19, .bipush 1, 1), (20, .ireturn, 1)]
theorem zb_X7_cut : zeTb xI_X7_cut 2 xI_X7_cut.1 = some zt_X7_cut ∧ zeCq zt_X7_cut = true := by decide +kernel
noncomputable def zt_X11_end : List zeEn := [(0, .aload 0, 1), (1, .getfield 11003, 3), (4, .iload 1, 1), (5, .invokevirtual 111, 3), (8, .ireturn, 1)]
theorem zb_X11_end : zeTb xI_X11_end 2 xI_X11_end.1 = some zt_X11_end ∧ zeCq zt_X11_end = true := by decide +kernel
theorem zWcL (code : List zeEn) (cs : List zeC) (dom : zeD) (cuts : List (Nat × List Nat)) (G : zeG) (R : Option zeV → zeS → Prop) (n : Nat) (q : zeEn) (nxt : List zeEn) (ls : zeLs) (st : List zeV) (σ : zeS) : zeWp code cs dom cuts G R (n + 1) (q :: nxt) ls st σ = zeDo cs dom q.2.1 ls st σ
    (fun ls st σ => match zeCt cuts (q.1 + q.2.2) with
      | some js => G (q.1 + q.2.2) (zePj js ls) st σ
      | none => zeWp code cs dom cuts G R n nxt ls st σ)
    (fun t ls st σ => match zeCt cuts t.toNat with
      | some js => G t.toNat (zePj js ls) st σ
      | none => zeWp code cs dom cuts G R n (zeSk t.toNat code) ls st σ) R := rfl
theorem zRZL (Q : Option zeV → zeS → Prop) (x : Int) (σ : zeS) : zeRr (some .boolean) Q (some (.inl x)) σ = ((x = 0 ∨ x = 1) ∧ Q (some (.inl x)) σ) := rfl
theorem zG40 {σ : zeS} (h : zCI zGc σ) : σ.2.2 4 0 = some 5 := by
  have hm : ∃ e, (4, e) ∈ zGc ∧ ∃ o, e = .inl o ∧ o.2[0]? = some (.inr (.inr (.inl (some 5)))) := ⟨_, List.mem_of_getElem? (i := 0) rfl, _, rfl, rfl⟩
  obtain ⟨e, h1, o, rfl, h2⟩ := hm
  exact (h _ h1 0 _ h2).1
theorem zG5e {q : Nat × xE} (hq : q ∈ zGc) (h5 : q.1 = 5) : q = (5, .inl (7, [.inr (.inr (.inl (some 6))), .inl (Int.ofNat 0, Int.ofNat 80)])) := by
  have hm : (5, (.inl (7, [.inr (.inr (.inl (some 6))), .inl (Int.ofNat 0, Int.ofNat 80)]) : xE)) ∈ zGc := List.mem_of_getElem? (i := 1) rfl
  have hn : (zGc.map (·.1)).Nodup := by decide +kernel
  exact zyU hn hq hm h5
theorem zCI_51 {σ : zeS} (h : zCI zGc σ) {n : Int} (h0 : 0 ≤ n) (h1 : n ≤ 80) : zCI zGc (zuI σ 5 1 n) := fun q hq => by
  by_cases h5 : q.1 = 5
  · have e := zG5e hq h5
    have hc := h q hq
    subst e
    intro j a ha
    match j, ha with
    | 0, ha => cases ha; exact hc 0 _ rfl
    | 1, ha =>
      cases ha
      show (0 : Int) ≤ (if 5 = 5 ∧ (((1 : Nat) : Int)) = 1 then n else σ.1 5 ((1 : Nat) : Int)) ∧ (if 5 = 5 ∧ (((1 : Nat) : Int)) = 1 then n else σ.1 5 ((1 : Nat) : Int)) ≤ (80 : Int)
      rw [if_pos ⟨rfl, rfl⟩]
      exact ⟨h0, h1⟩
    | _ + 2, ha => simp at ha
  · exact zyC_sm (zuI_sm h5) (h q hq)
def tCut : zeT := fun as σ Q => match as with
  | [hv, .inl n] => hv = .inr (.inr (some 5)) ∧ (¬ (0 ≤ n ∧ n ≤ σ.1 5 1) → Q (some (.inl 0)) σ) ∧ (0 ≤ n ∧ n ≤ σ.1 5 1 → Q (some (.inl 1)) (zuI σ 5 1 n))
  | _ => False
def tE : zeT := fun as σ Q => match as with
  | [hv, .inl n] => hv = .inr (.inr (some 4)) ∧ zCI zGc σ ∧ (¬ (0 ≤ n ∧ n ≤ σ.1 5 1) → Q (some (.inl 0)) σ) ∧ (0 ≤ n ∧ n ≤ σ.1 5 1 → Q (some (.inl 1)) (zuI σ 5 1 n))
  | _ => False
set_option maxHeartbeats 1000000 in
theorem zc_cut (as : List zeV) (σ : zeS) (Q : Option zeV → zeS → Prop) (h : tCut as σ Q) : (∃ k, as.head? = some (.inr (.inr (some k))) ∧ zeLy k zdL = some (.inl 7)) ∧ zeMet xM_X7_cut (0, 0) zdL as σ Q := by
  unfold tCut at h
  split at h
  rotate_left
  · exact h.elim
  rename_i hv n
  obtain ⟨rfl, h1, h2⟩ := h
  refine ⟨⟨5, rfl, zdL_5⟩, ?_⟩
  refine zeMet_of (cs := []) xK_X7_cut zb_X7_cut.1 zb_X7_cut.2 zdL_nd (fun _ h => (List.not_mem_nil h).elim) (Nat.le_of_ble_eq_true rfl) (fun G step drop => ?_)
  refine step 40 [] 0 _ _ _ ?_
  simp only [show xM_X7_cut.2.2.2 = some .boolean from rfl, zt_X7_cut, zeSk, zWcL, zeDo, zeLg, zeKd, zeArgs, zeCat, zeCt, zRZL, beq_iff_eq, Nat.reduceBEq, Nat.reduceEqDiff, Nat.reduceAdd, Nat.reduceDiv, Nat.reduceMod, cond_true, cond_false, zePr, zeBF, Int.toNat_natCast, Int.reduceToNat, true_and, and_true, if_false, if_true, zeFv, zeCall, zeCs, zePop, zeSum, zdL_4, zdL_5, Int.cast_ofNat_Int, Nat.reduceLeDiff, Int.reduceLT, Int.reduceEq, and_false, false_and, ite_true, ite_false, eq_self_iff_true, reduceCtorEq, or_true, true_or, Nat.zero_le, List.length_cons, Bool.or_false, zeR1]
  repeat' (first | assumption | omega | exact h1 (by omega) | exact h2 (by omega) | refine And.intro ?_ ?_ | intro _)
set_option maxHeartbeats 1000000 in
theorem zc_end (as : List zeV) (σ : zeS) (Q : Option zeV → zeS → Prop) (h : tE as σ Q) : (∃ k, as.head? = some (.inr (.inr (some k))) ∧ zeLy k zdL = some (.inl 11)) ∧ zeMet xM_X11_end (1, 21) zdL as σ Q := by
  unfold tE at h
  split at h
  rotate_left
  · exact h.elim
  rename_i hv n
  obtain ⟨rfl, hC, h1, h2⟩ := h
  have r40 := zG40 hC
  refine ⟨⟨4, rfl, zdL_4⟩, ?_⟩
  refine zeMet_of (cs := [(111, 2, tCut)]) xK_X11_end zb_X11_end.1 zb_X11_end.2 zdL_nd (List.forall_mem_cons.mpr ⟨Or.inl ⟨1, xM_X7_cut, 7, (0, 0), by decide, xl_RX11_111, rfl, ⟨by decide, by decide⟩, zc_cut⟩, fun _ h => (List.not_mem_nil h).elim⟩) (Nat.le_of_ble_eq_true rfl) (fun G step drop => ?_)
  refine step 40 [] 0 _ _ _ ?_
  simp only [show xM_X11_end.2.2.2 = some .boolean from rfl, zt_X11_end, tCut, r40, zeSk, zWcL, zeDo, zeLg, zeKd, zeArgs, zeCat, zeCt, zRZL, beq_iff_eq, Nat.reduceBEq, Nat.reduceEqDiff, Nat.reduceAdd, Nat.reduceDiv, Nat.reduceMod, cond_true, cond_false, zePr, zeBF, Int.toNat_natCast, Int.reduceToNat, true_and, and_true, if_false, if_true, zeFv, zeCall, zeCs, zePop, zeSum, zdL_4, zdL_5, Int.cast_ofNat_Int, Nat.reduceLeDiff, Int.reduceLT, Int.reduceEq, and_false, false_and, ite_true, ite_false, eq_self_iff_true, reduceCtorEq, or_true, true_or, Nat.zero_le, List.length_cons, Bool.or_false, zeR1]
  repeat' (first | assumption | omega | exact h1 (by assumption) | exact h2 (by assumption) | refine And.intro ?_ ?_ | intro _)

/-! the law's loop -/
theorem zeTsw_all {dflt lo x : Int} {J : Int → Prop} : ∀ (ts : List Int) (j : Int), (∀ t ∈ ts, J t) → J dflt → zeTsw dflt lo x J ts j
  | [], _, _, h => fun _ => h
  | t :: ts, j, h, hd => ⟨fun _ => h t List.mem_cons_self, zeTsw_all ts (j + 1) (fun z hz => h z (List.mem_cons_of_mem _ hz)) hd⟩
def zeHd (t : Nat) (code : List zeEn) : Bool := match zeSk t code with
  | q :: _ => q.1 == t
  | [] => false
theorem zeW_hd {L : Nat} {f : Nat → Int32} {code : List zeEn} {cs : List zeC} {dom : zeD} {cuts : List (Nat × List Nat)} {G H : zeG} {R : Option zeV → zeS → Prop} {t : Nat} {ls : zeLs} {st : List zeV} {σ : zeS} (h : zeHd t code = true) (g : G t ls st σ) : zeWs L f code cs dom cuts G H R 0 (zeSk t code) ls st σ := by
  unfold zeHd at h
  split at h
  · rename_i q r e
    rw [e]
    show G q.1 ls st σ
    rw [eq_of_beq h]
    exact g
  · cases h
def zTgI : List Int := [256, 281, 306, 319, 332, 345, 370, 407, 432, 457, 518, 555, 568, 593, 642, 691, 740, 777, 814, 863, 924, 949, 986, 1011, 1036, 1061, 1134, 1183, 1220, 1257, 1270, 1295, 1320, 1357, 1430, 1491, 1564, 1625, 1698, 1747, 1808, 1881, 1906, 1979, 2040, 2113, 2186, 2211, 2236, 2261]
def zTg : List Nat := [256, 281, 306, 319, 332, 345, 370, 407, 432, 457, 518, 555, 568, 593, 642, 691, 740, 777, 814, 863, 924, 949, 986, 1011, 1036, 1061, 1134, 1183, 1220, 1257, 1270, 1295, 1320, 1357, 1430, 1491, 1564, 1625, 1698, 1747, 1808, 1881, 1906, 1979, 2040, 2113, 2186, 2211, 2236, 2261, 2289]
theorem zTg_b : zTgI.all (fun t => decide (t.toNat ∈ zTg) && zeHd t.toNat zcs0) = true := by decide +kernel
theorem zTg_e : zeHd 2289 zcs0 = true := by decide +kernel
theorem zTg_ok {t : Int} (h : t ∈ zTgI) : t.toNat ∈ zTg ∧ zeHd t.toNat zcs0 = true := by
  have := List.all_eq_true.mp zTg_b t h
  rw [Bool.and_eq_true, decide_eq_true_eq] at this
  exact this
set_option maxHeartbeats 4000000 in
set_option maxRecDepth 100000 in
theorem zlw_hd {L : Nat} {f : Nat → Int32} {G H : zeG} {R : Option zeV → zeS → Prop} (step : ∀ cs : List zeC, (∀ q ∈ cs, zeTok R_law xI_lw zRl zdL q) → zeSs L f zcs0 cs zdL G H R) {σ : zeS} {i : Int} (hL : L ≤ 3072) (hi0 : 0 ≤ i) (hi : i ≤ (L : Int)) (kend : R (some (.inl 1)) σ) (kk : i + 6 ≤ (L : Int) → ∀ t ∈ zTg, G t [(0, .inr (.inr (some 0))), (1, .inr (.inr (some 4))), (2, .inr (.inr (some 98))), (3, .inr (.inr (some 127))), (4, .inl i)] [] σ) : G 23 [(0, .inr (.inr (some 0))), (1, .inr (.inr (some 4))), (2, .inr (.inr (some 98))), (3, .inr (.inr (some 127))), (4, .inl i)] [] σ := by
  have hz : zw ((L : Int) - 6) = (L : Int) - 6 := zw_id (by omega) (by omega)
  have st := step [] zcn 12 []
  refine st 23 _ _ _ ?_
  rw [zck0]
  show zeWs L f zcs0 [] zdL [] G H R 12 (zcc0 ++ zcs1) _ _ _
  simp only [zcc0, zcn51, zcs51, zcc51, zeSk, zePr, zWs1, zWs0, zeDos, zsAl, zsIl, zsT1, zsT2, zsS2, List.tail_cons, List.cons_append, List.nil_append, Bool.false_and, Bool.true_and, Bool.false_eq_true, if_true, if_false, ite_true, ite_false, zeDo, zeLg, zeKd, zeCat, zeCt, beq_iff_eq, Nat.reduceBEq, Nat.reduceEqDiff, Nat.reduceAdd, cond_true, cond_false, zeBF, Int.toNat_natCast, Int.reduceToNat, true_and, and_true, zeCall, zeCs, zePop, zeSum, zePj, zeR1, zeR2, zePr_eq, zePr_ne, Nat.reduceLeDiff, reduceCtorEq, tC, tM, tE, tMe, z98_51, zInts, List.length_cons, List.length_nil, Nat.zero_le, eq_self_iff_true, zc0, zc1, not_true_eq_false, not_false_eq_true, true_implies, false_implies, implies_true, hz]
  refine And.intro (fun h => ?_) (fun h => ?_)
  · exact kend
  · have h6 : i + 6 ≤ (L : Int) := by omega
    refine And.intro ⟨by omega, by omega⟩ ?_
    exact zeTsw_all zTgI 0 (fun t ht => zeW_hd (zTg_ok ht).2 (kk h6 _ (zTg_ok ht).1)) (zeW_hd zTg_e (kk h6 _ (by decide)))
set_option maxHeartbeats 4000000 in
set_option maxRecDepth 100000 in
theorem zlw_nx {L : Nat} {f : Nat → Int32} {G H : zeG} {R : Option zeV → zeS → Prop} (step : ∀ cs : List zeC, (∀ q ∈ cs, zeTok R_law xI_lw zRl zdL q) → zeSs L f zcs0 cs zdL G H R) {σ : zeS} {i : Int} (hL : L ≤ 3072) (hi0 : 0 ≤ i) (hi : i + 6 ≤ (L : Int)) (k : H 23 [(0, .inr (.inr (some 0))), (1, .inr (.inr (some 4))), (2, .inr (.inr (some 98))), (3, .inr (.inr (some 127))), (4, .inl (i + 6))] [] σ) : G 2289 [(0, .inr (.inr (some 0))), (1, .inr (.inr (some 4))), (2, .inr (.inr (some 98))), (3, .inr (.inr (some 127))), (4, .inl i)] [] σ := by
  have hz : zw (i + 6) = i + 6 := zw_id (by omega) (by omega)
  have st := step [] zcn 2 [(23, [0, 1, 2, 3, 4])]
  refine st 2289 _ _ _ ?_
  simp only [zcn51, Nat.reduceLeDiff, zcs51, zcc51, zeSk, zWs1, zWs0, zeDos, zsAl, zsIl, zsT1, zsT2, zsS2, List.tail_cons, List.cons_append, List.nil_append, Bool.false_and, Bool.true_and, Bool.false_eq_true, if_true, if_false, ite_true, ite_false, zeDo, zeLg, zeKd, zeCat, zeCt, beq_iff_eq, Nat.reduceBEq, Nat.reduceEqDiff, Nat.reduceAdd, cond_true, cond_false, zeBF, Int.toNat_natCast, Int.reduceToNat, true_and, and_true, zeCall, zeCs, zePop, zeSum, zePj, zeR1, zeR2, zePr_eq, zePr_ne, Nat.reduceLeDiff, reduceCtorEq, tC, tM, tE, tMe, z98_51, zInts, List.length_cons, List.length_nil, Nat.zero_le, eq_self_iff_true, zc0, zc1, not_true_eq_false, not_false_eq_true, true_implies, false_implies, implies_true, hz]
  exact k
theorem zLI_127 {σ τ : zeS} (h : ∀ k', ¬ k' = 127 → zeSm σ τ k') (hI : zLI σ) : zLI τ := by
  have a : τ.1 5 1 = σ.1 5 1 := (h 5 (by decide)).1 1
  have b : τ.1 98 12 = σ.1 98 12 := (h 98 (by decide)).1 12
  have c := hI.2.2.1
  refine ⟨fun q hq => zyC_sm (h q.1 (fun z => by
    have := zGi_lt q.1 (by rw [← zGi_eq]; exact List.mem_map.mpr ⟨q, hq, rfl⟩)
    omega)) (hI.1 q hq), zGI_sm (fun k _ h2 => h k (by omega)) hI.2.1, by omega, fun i i0 i1 => ?_⟩
  have d : τ.1 6 i = σ.1 6 i := (h 6 (by decide)).1 i
  have e : τ.1 104 i = σ.1 104 i := (h 104 (by decide)).1 i
  rw [d, e]
  exact hI.2.2.2 i i0 (by omega)
set_option maxHeartbeats 4000000 in
set_option maxRecDepth 100000 in
theorem zlw_rowA {L : Nat} {f : Nat → Int32} {G H : zeG} {R : Option zeV → zeS → Prop} (step : ∀ cs : List zeC, (∀ q ∈ cs, zeTok R_law xI_lw zRl zdL q) → zeSs L f zcs0 cs zdL G H R) {σ : zeS} {i : Int} (hL : L ≤ 3072) (hi0 : 0 ≤ i) (hi : i + 6 ≤ (L : Int)) (k : ∀ v : Int, H 2269 [(0, .inr (.inr (some 0))), (1, .inr (.inr (some 4))), (2, .inr (.inr (some 98))), (3, .inr (.inr (some 127))), (4, .inl i)] [.inr (.inr (some 127)), .inl v, .inr (.inr (some 4))] σ) : G 2261 [(0, .inr (.inr (some 0))), (1, .inr (.inr (some 4))), (2, .inr (.inr (some 98))), (3, .inr (.inr (some 127))), (4, .inl i)] [] σ := by
  have hz1 : zw (i + 1) = i + 1 := zw_id (by omega) (by omega)
  have st := step [] zcn 9 [(2269, [0, 1, 2, 3, 4])]
  refine st 2261 _ _ _ ?_
  simp only [zcn50, Nat.reduceLeDiff, zcs50, zcc50, zeSk, zWs1, zWs0, zeDos, zsAl, zsIl, zsT1, zsT2, zsS2, List.tail_cons, List.cons_append, List.nil_append, Bool.false_and, Bool.true_and, Bool.false_eq_true, if_true, if_false, ite_true, ite_false, zeDo, zeLg, zeKd, zeCat, zeCt, beq_iff_eq, Nat.reduceBEq, Nat.reduceEqDiff, Nat.reduceAdd, cond_true, cond_false, zeBF, Int.toNat_natCast, Int.reduceToNat, true_and, and_true, zeCall, zeCs, zePop, zeSum, zePj, zeR1, zeR2, zePr_eq, zePr_ne, Nat.reduceLeDiff, reduceCtorEq, tC, tM, tE, tMe, z98_51, zInts, List.length_cons, List.length_nil, Nat.zero_le, eq_self_iff_true, zc0, zc1, not_true_eq_false, not_false_eq_true, true_implies, false_implies, implies_true, hz1]
  repeat' (first | exact k _ | omega | refine And.intro ?_ ?_ | intro _)
set_option maxHeartbeats 4000000 in
set_option maxRecDepth 100000 in
theorem zlw_rowB {L : Nat} {f : Nat → Int32} {G H : zeG} {R : Option zeV → zeS → Prop} (step : ∀ cs : List zeC, (∀ q ∈ cs, zeTok R_law xI_lw zRl zdL q) → zeSs L f zcs0 cs zdL G H R) {σ : zeS} {i x : Int} (hL : L ≤ 3072) (hI : zLI σ) (hi0 : 0 ≤ i) (hi : i + 6 ≤ (L : Int)) (k : ∀ τ, zLI τ → H 2289 [(0, .inr (.inr (some 0))), (1, .inr (.inr (some 4))), (2, .inr (.inr (some 98))), (3, .inr (.inr (some 127))), (4, .inl i)] [] τ) : G 2272 [(0, .inr (.inr (some 0))), (1, .inr (.inr (some 4))), (2, .inr (.inr (some 98))), (3, .inr (.inr (some 127))), (4, .inl i)] [.inl x] σ := by
  have hz1 : zw (i + 1) = i + 1 := zw_id (by omega) (by omega)
  have hG := hI.2.1
  have hC := hI.1
  have hE := hI.2.2.1
  have st := step [(227, 2, tMr)] (zcc (zTvL xl_RL_227 (by decide) rfl ⟨by decide, by decide⟩ zr_row) zcn) 12 [(2289, [0, 1, 2, 3, 4])]
  refine st 2272 _ _ _ ?_
  simp only [zcn50, Nat.reduceLeDiff, zcs50, zcc50, zeSk, zeR2, tMr, Bool.or_false, Bool.false_or, Bool.and_false, Bool.or_true, Bool.true_or, Bool.and_true, zWs1, zWs0, zeDos, zsAl, zsIl, zsT1, zsT2, zsS2, List.tail_cons, List.cons_append, List.nil_append, Bool.false_and, Bool.true_and, Bool.false_eq_true, if_true, if_false, ite_true, ite_false, zeDo, zeLg, zeKd, zeCat, zeCt, beq_iff_eq, Nat.reduceBEq, Nat.reduceEqDiff, Nat.reduceAdd, cond_true, cond_false, zeBF, Int.toNat_natCast, Int.reduceToNat, true_and, and_true, zeCall, zeCs, zePop, zeSum, zePj, zeR1, zeR2, zePr_eq, zePr_ne, Nat.reduceLeDiff, reduceCtorEq, tC, tM, tE, tMe, z98_51, zInts, List.length_cons, List.length_nil, Nat.zero_le, eq_self_iff_true, zc0, zc1, not_true_eq_false, not_false_eq_true, true_implies, false_implies, implies_true, hz1]
  repeat' (first | assumption | (with_reducible refine And.intro ?_ ?_) | omega | exact k _ (zLr hI (by assumption) (by assumption) (by assumption)) | refine And.intro ?_ ?_ | intro _)
def zlR : Option zeV → zeS → Prop := fun r _ => r = some (.inl 1)
theorem zl_ret {p : Program} {l : Launch} {e : Env} {s : State} {m : MethodId} {below : List Frame} {meth : Method} {c : Code} {b : Nat} {D : va_G} {cy : Nat → ClassId} {ad : Nat → Nat} (hx : p.tables.exec = Jvm.exec) (hb : c.code = code) (hr : meth.sig.returnType = ret) (hlocks : meth.locks = false) {cs ss : Nat} (h1 : cs ≤ 601024) (h2 : ss ≤ 7293034) : zeRetOkc p l e room_1 s m #[Value.ref b] below meth c (lw_Z below #[Value.ref b] s) code D cy (fun q => s.heap.size ≤ q) ad zdL zlR cs ss := by
  intro ins z v τ lsC H locs pc hio hdg hz hzv hR
  have hz : z = some (.inl 1) := hz
  subst hz
  obtain ⟨ws1, hw1, hP1, hD1, hS1⟩ := hR
  cases v with
  | none => exact hzv.elim
  | some v =>
    obtain ⟨x, rfl, hx1⟩ := hzv
    have e1 : x = 1 := Int32.toInt_inj.mp hx1
    subst e1
    rcases hio with ⟨-, h⟩ | ⟨a, ha, hk⟩
    · cases h
    · cases ha
      rcases xRk_eq (k := 0) hk (by decide) with ⟨-, rfl⟩ | ⟨q, -⟩ | ⟨q, -⟩ | ⟨q, -⟩
      · refine W.widen (k := 601024) (n := 7293034) h1 h2 (va_forget hS1.2.2 ?_)
        exact lw_ret hx hb hr hlocks hdg
      · cases q
      · cases q
      · cases q
set_option maxHeartbeats 4000000 in
theorem lw_loop {p : Program} {l : Launch} {e : Env} {s : State} {m : MethodId} {below : List Frame} {meth : Method} {c : Code} {b L : Nat} {xs : Nat → Int32} {D : va_G} {cy : Nat → ClassId} {ad : Nat → Nat} (hls : l.stackTraces = false) (C0 : lw_At p s m meth c b L xs) (hL : L ≤ 3072) (hK : xKK D cy s) (hSS : xSS ad (fun q => s.heap.size ≤ q) s) (had : ad 0 = b) : ∀ (n : Nat) (i : Int) (σ : zeS), (L : Int) - i < (n : Int) → 0 ≤ i → i ≤ (L : Int) → zLI σ → zeGdc p l e room_1 s m #[Value.ref b] below meth c (lw_Z below #[Value.ref b] s) D cy (fun q => s.heap.size ≤ q) ad 8 zdL (124 + i.toNat) (23011 + i.toNat) 23 [(0, .inr (.inr (some 0))), (1, .inr (.inr (some 4))), (2, .inr (.inr (some 98))), (3, .inr (.inr (some 127))), (4, .inl i)] [] σ
  | 0, i, σ, hn, hi0, hiL, hI => by omega
  | n + 1, i, σ, hn, hi0, hiL, hI => by
    have C1 := C0
    obtain ⟨hx, hb, hr, hml, hown, hts, hX, hbl, hlocks, hg⟩ := C1
    have hE := xEx_law hts hg
    have X : ∀ cs ss : Nat, cs ≤ 601024 → ss ≤ 7293034 → zeXc p room_1 s m #[Value.ref b] c code D cy (fun q => s.heap.size ≤ q) R_law lw_tbl ad 8 xI_lw zdL zRl cs ss := fun cs ss h1 h2 =>
      ⟨⟨hx, hb, hml, hts, fun w h => xBigL h, hown, hK, fun q h => h, hSS⟩, xK_lw, zdL_nd, by decide, by decide, Nat.le_trans h1 (by decide), Nat.le_trans h2 (by decide)⟩
    have stp : ∀ cs ss : Nat, cs ≤ 601024 → ss ≤ 7293034 → ∀ cl : List zeC, (∀ q ∈ cl, zeTok R_law xI_lw zRl zdL q) → zeSs L xs zcs0 cl zdL (zeGdc p l e room_1 s m #[Value.ref b] below meth c (lw_Z below #[Value.ref b] s) D cy (fun q => s.heap.size ≤ q) ad 8 zdL cs ss) (zeGdc p l e room_1 s m #[Value.ref b] below meth c (lw_Z below #[Value.ref b] s) D cy (fun q => s.heap.size ≤ q) ad 8 zdL cs ss) zlR := fun cs ss h1 h2 cl hcl => zeSs_of (X cs ss h1 h2) (by rw [had]; exact hX) (by rw [had]; exact hbl) (by rw [had]; show ¬ s.heap.size ≤ b; omega) (by omega) hcl (zl_ret hx hb hr hlocks h1 h2) zcb.1 zcb.2
    have nx : i + 6 ≤ (L : Int) → ∀ cs ss : Nat, cs ≤ 124 + (i + 6).toNat → ss ≤ 23011 + (i + 6).toNat → ∀ τ, zLI τ → zeGdc p l e room_1 s m #[Value.ref b] below meth c (lw_Z below #[Value.ref b] s) D cy (fun q => s.heap.size ≤ q) ad 8 zdL cs ss 2289 [(0, .inr (.inr (some 0))), (1, .inr (.inr (some 4))), (2, .inr (.inr (some 98))), (3, .inr (.inr (some 127))), (4, .inl i)] [] τ := fun hi cs ss h1 h2 τ hτ => zlw_nx (stp cs ss (by omega) (by omega)) hL hi0 hi (zeGdc_w h1 h2 (lw_loop hls C0 hL hK hSS had n (i + 6) τ (by omega) (by omega) hi hτ))
    refine zlw_hd (stp (124 + i.toNat) (23011 + i.toNat) (by omega) (by omega)) hL hi0 hiL rfl (fun hi t ht => ?_)
    have st := stp (124 + i.toNat) (23011 + i.toNat) (by omega) (by omega)
    have k := nx hi (124 + i.toNat) (23011 + i.toNat) (by omega) (by omega)
    simp only [zTg, List.mem_cons, List.not_mem_nil, or_false] at ht
    rcases ht with rfl | rfl | rfl | rfl | rfl | rfl | rfl | rfl | rfl | rfl | rfl | rfl | rfl | rfl | rfl | rfl | rfl | rfl | rfl | rfl | rfl | rfl | rfl | rfl | rfl | rfl | rfl | rfl | rfl | rfl | rfl | rfl | rfl | rfl | rfl | rfl | rfl | rfl | rfl | rfl | rfl | rfl | rfl | rfl | rfl | rfl | rfl | rfl | rfl | rfl | rfl
    · exact zlw_sign st hL hI hi0 hi k
    · exact zlw_end st hL hI hi0 hi k
    · exact zlw_town st hL hI hi0 hi k
    · exact zlw_fog st hL hI hi0 hi k
    · exact zlw_rule st hL hI hi0 hi k
    · exact zlw_yard st hL hI hi0 hi k
    · exact zlw_lamp st hL hI hi0 hi k
    · exact zlw_err st hL hI hi0 hi k
    · exact zlw_thick st hL hI hi0 hi k
    · exact zlw_sheet st hL hI hi0 hi k
    · exact zlw_rope st hL hI hi0 hi k
    · exact zlw_unrope st hL hI hi0 hi k
    · exact zlw_lit st hL hI hi0 hi k
    · exact zlw_sees st hL hI hi0 hi k
    · exact zlw_owed st hL hI hi0 hi k
    · exact zlw_seen st hL hI hi0 hi k
    · exact zlw_dearest st hL hI hi0 hi k
    · exact zlw_light st hL hI hi0 hi k
    · exact zlw_needs st hL hI hi0 hi k
    · exact zlw_walk st hL hI hi0 hi k
    · exact zlw_drop st hL hI hi0 hi k
    · exact zlw_at st hL hI hi0 hi k
    · exact zlw_bill st hL hI hi0 hi k
    · exact zlw_saw st hL hI hi0 hi k
    · exact zlw_dims st hL hI hi0 hi k
    · exact zlw_adopt st hL hI hi0 hi k
    · exact zlw_hidden st hL hI hi0 hi k
    · exact zlw_hit st hL hI hi0 hi k
    · exact zlw_brush st hL hI hi0 hi k
    · exact zlw_hits st hL hI hi0 hi k
    · exact zlw_takings st hL hI hi0 hi k
    · exact zlw_fee st hL hI hi0 hi k
    · exact zlw_way st hL hI hi0 hi k
    · exact zlw_cheapest st hL hI hi0 hi k
    · exact zlw_safe st hL hI hi0 hi k
    · exact zlw_buys st hL hI hi0 hi k
    · exact zlw_reach st hL hI hi0 hi k
    · exact zlw_tour st hL hI hi0 hi k
    · exact zlw_bears st hL hI hi0 hi k
    · exact zlw_waits st hL hI hi0 hi k
    · exact zlw_chance st hL hI hi0 hi k
    · exact zlw_likely st hL hI hi0 hi k
    · exact zlw_mean st hL hI hi0 hi k
    · exact zlw_best st hL hI hi0 hi k
    · exact zlw_meet st hL hI hi0 hi k
    · exact zlw_lead st hL hI hi0 hi k
    · exact zlw_keep st hL hI hi0 hi k
    · exact zlw_again st hL hI hi0 hi k
    · exact zlw_count st hL hI hi0 hi k
    · refine zlw_rowA st hL hi0 hi (fun v => ?_)
      refine zxCall hls (X _ _ (by omega) (by omega)) hE (by omega) (by omega) hI.1 (fun x τ hτ => ?_)
      exact zlw_rowB (stp (124 + i.toNat + 1) (23011 + i.toNat + 6) (by omega) (by omega)) hL (zLI_127 hτ hI) hi0 hi (nx hi _ _ (by omega) (by omega))
    · exact k σ hI

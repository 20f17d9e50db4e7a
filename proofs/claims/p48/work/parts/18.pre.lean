/-! what a walk does at a place by its table: loops, joins, names, cases -/
theorem yOkE_ext {σ σ' : Nat → Int} {env : List xI} (h : yOkE σ env) (hs : ∀ j, j < env.length → σ' j = σ j) : yOkE σ' env := fun j i hj => by
  obtain ⟨hlt, -⟩ := List.getElem?_eq_some_iff.mp hj
  rw [hs j hlt]
  exact h j i hj
theorem yOkE_app {σ : Nat → Int} {env : List xI} (h : yOkE σ env) {iv : xI} {x : Int} (hx : xIn iv x) : yOkE (yUp σ env.length x) (env ++ [iv]) := by
  intro j i hj
  rcases Nat.lt_trichotomy j env.length with hlt | heq | hgt
  · rw [List.getElem?_append_left hlt] at hj
    rw [yUp_lt j hlt]
    exact h j i hj
  · subst heq
    rw [List.getElem?_append_right (Nat.le_refl _), Nat.sub_self] at hj
    cases hj
    rw [yUp_at]
    exact hx
  · rw [List.getElem?_append_right (by omega)] at hj
    rw [show j - env.length = (j - env.length - 1) + 1 by omega] at hj
    cases hj
theorem ySy_ok {σ : Nat → Int} {n : Nat} {x : Int32} {ad : Nat → Nat} {N : Nat} : xOk (yη (yUp σ n x.toInt)) ad N (ySy n) (.int x) := by
  show Value.int x = .int (yη (yUp σ n x.toInt) (yC n 0))
  unfold yη
  rw [yC_N (by decide) (by decide), yC_O (by decide) (by decide), yUp_at, Int.add_zero, Int32.ofInt_toInt]
theorem ySy_at {σ : Nat → Int} {n : Nat} {x : Int32} (h : σ n = x.toInt) {ad : Nat → Nat} {N : Nat} : xOk (yη σ) ad N (ySy n) (.int x) := by
  show Value.int x = .int (yη σ (yC n 0))
  unfold yη
  rw [yC_N (by decide) (by decide), yC_O (by decide) (by decide), h, Int.add_zero, Int32.ofInt_toInt]
theorem yTight_len {env : List xI} {a : xV} {i : xI} : (yTight env a i).length = env.length := by
  unfold yTight
  split
  · split
    · rw [List.length_set]
    · rfl
  · rfl
theorem yBr_len {env env' : List xI} {k : xCo} {a b : xV} (h : yBr env k a b = some env') : env'.length = env.length := by
  unfold yBr at h
  by_cases hno : yNo env k a b = true
  · rw [hno, cond_true] at h; cases h
  rw [show yNo env k a b = false by simpa using hno, cond_false] at h
  split at h
  · rename_i i j _ _
    by_cases hc : (decide ((yCo k i j).1.1 ≤ (yCo k i j).1.2) && decide ((yCo k i j).2.1 ≤ (yCo k i j).2.2)) = true
    · rw [hc, cond_true] at h
      cases h
      rw [yTight_len, yTight_len]
    · rw [show (decide ((yCo k i j).1.1 ≤ (yCo k i j).1.2) && decide ((yCo k i j).2.1 ≤ (yCo k i j).2.2)) = false by simpa using hc, cond_false] at h
      cases h
  · cases h; rfl
theorem yAll_set1 {α β : Type} {r : α → β → Prop} {a : α} {b : β} (hab : r a b) : ∀ {as : List α} {bs : List β} (i : Nat), xAll r as bs → bs[i]? = some b → xAll r (as.set i a) bs
  | [], [], _, _, _ => trivial
  | _ :: _, _ :: _, 0, g, h => by
    rw [List.getElem?_cons_zero] at h
    cases h
    exact ⟨hab, g.2⟩
  | _ :: _, _ :: _, i + 1, g, h => by
    rw [List.getElem?_cons_succ] at h
    exact ⟨g.1, yAll_set1 hab i g.2 h⟩
  | [], _ :: _, _, g, _ => g.elim
  | _ :: _, [], _, g, _ => g.elim
def yTwo (env : List xI) (k : xCo) (a b : xV) (f : List xI → Bool) : Bool := match yBr env k a b with
  | some e => f e
  | none => true
def yL0 (N0 : Nat) (rec : yRc) (T : yT) (i : Nat) (up : Bool) (r : List yAn) (cuts : List yT) (loops : yLs) (env : List xI) (cur : List xEn) (ls : List (Nat × xV)) (st : List xV) (hp : xH) (nx cs ss : Nat) : Bool := nx == N0 && cs == 0 && ss == 0 && T.2.1 == env.length && yBt T && yM env T ls st hp && (match xLg i T.2.2.1 with
  | some (.inl iv) => rec (some r) cuts ((T, i, up, env.length, 0, []) :: loops.1, loops.2) (env ++ [iv]) T.1 cur (xS1 i (ySy env.length) T.2.2.1) T.2.2.2.1 T.2.2.2.2 nx cs ss
  | _ => false)
/-- a fact of locals as one of names -/
def yFe (ls : List (Nat × xV)) : List (Nat × Int) → List (Nat × Int) × Int
  | [] => ([], 0)
  | q :: r => (match xLg q.1 ls with
    | some (.inr (.inr (.inr k))) => ((yN k, q.2) :: (yFe ls r).1, q.2 * yO k + (yFe ls r).2)
    | some (.inl iv) => ((yFe ls r).1, q.2 * iv.1 + (yFe ls r).2)
    | _ => yFe ls r)
/-- a term 0 times a local that is 0: the fact isn't meant here -/
def yFg (ls : List (Nat × xV)) (f : yFa) : Bool := f.1.any (fun q => q.2 == 0 && (match xLg q.1 ls with
  | some (.inl iv) => iv.1 == 0 && iv.2 == 0
  | _ => false))
def yFm (ls : List (Nat × xV)) (F : List yFa) : List yFa := (F.filter (fun f => !(yFg ls f))).map (fun f => ((yFe ls f.1).1, (yFe ls f.1).2 + f.2))
def yL7 (N0 : Nat) (rec : yRc) (T : yT) (i : Nat) (up : Bool) (q : Nat) (F : List yFa) (r : List yAn) (cuts : List yT) (loops : yLs) (env : List xI) (cur : List xEn) (ls : List (Nat × xV)) (st : List xV) (hp : xH) (nx cs ss : Nat) : Bool := nx == N0 && cs == 0 && ss == 0 && T.2.1 == env.length && yBt T && yM env T ls st hp && !(q == i) && (match xLg i T.2.2.1, xLg q T.2.2.1 with
  | some (.inl iv), some (.inl jv) => (yFm (xS1 q (ySy (env.length + 1)) (xS1 i (ySy env.length) T.2.2.1)) F).all (yFb (env.length + 2)) && yCf env loops.2 T.2.2.1 ls i q env.length (yFm (xS1 q (ySy (env.length + 1)) (xS1 i (ySy env.length) T.2.2.1)) F) && rec (some r) cuts ((T, i, up, env.length, q, yFm (xS1 q (ySy (env.length + 1)) (xS1 i (ySy env.length) T.2.2.1)) F) :: loops.1, yFm (xS1 q (ySy (env.length + 1)) (xS1 i (ySy env.length) T.2.2.1)) F ++ loops.2) ((env ++ [iv]) ++ [jv]) T.1 cur (xS1 q (ySy (env.length + 1)) (xS1 i (ySy env.length) T.2.2.1)) T.2.2.2.1 T.2.2.2.2 nx cs ss
  | _, _ => false)
def yJ0 (M : xMi) (N0 : Nat) (rec : yRc) (T : yT) (r : List yAn) (cuts : List yT) (loops : yLs) (env : List xI) (pc : Nat) (cur : List xEn) (ls : List (Nat × xV)) (st : List xV) (hp : xH) (nx cs ss : Nat) : Bool := nx == N0 && cs == 0 && ss == 0 && T.2.1 == env.length && yBt T && rec none cuts loops env T.1 (xSeek T.1 M.1) T.2.2.1 T.2.2.2.1 T.2.2.2.2 nx cs ss && rec (some r) (T :: cuts) loops env pc cur ls st hp nx cs ss
def yPre (M : xMi) (N0 : Nat) (rec : yRc) (a : yAn) (r : List yAn) (cuts : List yT) (loops : yLs) (env : List xI) (pc : Nat) (cur : List xEn) (ls : List (Nat × xV)) (st : List xV) (hp : xH) (nx cs ss : Nat) : Bool := match a.1 with
  | 0 => yL0 N0 rec (yMk env.length pc a.2.1 ls st hp) a.2.2.1 a.2.2.2.1 r cuts loops env cur ls st hp nx cs ss || (a.2.2.2.2.1 == 1 && rec (some r) cuts loops env pc cur ls st hp nx cs ss)
  | 1 => yJ0 M N0 rec (yMk env.length a.2.2.1 a.2.1 ls st hp) r cuts loops env pc cur ls st hp nx cs ss
  | 2 => (match xLg a.2.2.1 ls with
    | some (.inl iv) => bif xK iv then rec (some r) cuts loops env pc cur ls st hp nx cs ss else (yBt (pc, env.length, ls, st, hp) && rec (some r) cuts loops (env ++ [iv]) pc cur (xS1 a.2.2.1 (ySy env.length) ls) st hp nx cs ss)
    | _ => rec (some r) cuts loops env pc cur ls st hp nx cs ss)
  | 3 => (match xTake a.2.2.1 hp with
    | some (.inl o, hp') => (match o.2[a.2.2.2.2.1.toNat]? with
      | some (.inl iv) => bif xK iv then rec (some r) cuts loops env pc cur ls st hp nx cs ss else (yBt (pc, env.length, ls, st, hp) && rec (some r) cuts loops (env ++ [iv]) pc cur ls st ((a.2.2.1, .inl (o.1, o.2.set a.2.2.2.2.1.toNat (ySy env.length))) :: hp') nx cs ss)
      | _ => rec (some r) cuts loops env pc cur ls st hp nx cs ss)
    | _ => rec (some r) cuts loops env pc cur ls st hp nx cs ss)
  | 4 => (match xLg a.2.2.1 ls with
    | some v => xIsI v && yTwo env .lt v (.inl (a.2.2.2.2.1, a.2.2.2.2.1)) (fun e => rec (some r) cuts loops e pc cur ls st hp nx cs ss) && yTwo env .ge v (.inl (a.2.2.2.2.1, a.2.2.2.2.1)) (fun e => rec (some r) cuts loops e pc cur ls st hp nx cs ss) && xInR a.2.2.2.2.1
    | none => rec (some r) cuts loops env pc cur ls st hp nx cs ss)
  | 5 => (match st[a.2.2.1]? with
    | some (.inl iv) => bif xK iv then rec (some r) cuts loops env pc cur ls st hp nx cs ss else (yBt (pc, env.length, ls, st, hp) && rec (some r) cuts loops (env ++ [iv]) pc cur ls (st.set a.2.2.1 (ySy env.length)) hp nx cs ss)
    | _ => rec (some r) cuts loops env pc cur ls st hp nx cs ss)
  | 6 => (match st[a.2.2.1]? with
    | some v => xIsI v && yTwo env .lt v (.inl (a.2.2.2.2.1, a.2.2.2.2.1)) (fun e => rec (some r) cuts loops e pc cur ls st hp nx cs ss) && yTwo env .ge v (.inl (a.2.2.2.2.1, a.2.2.2.2.1)) (fun e => rec (some r) cuts loops e pc cur ls st hp nx cs ss) && xInR a.2.2.2.2.1
    | none => rec (some r) cuts loops env pc cur ls st hp nx cs ss)
  | 7 => yL7 N0 rec (yMk env.length pc a.2.1 ls st hp) a.2.2.1 a.2.2.2.1 a.2.2.2.2.2.1 a.2.2.2.2.2.2 r cuts loops env cur ls st hp nx cs ss || (a.2.2.2.2.1 == 1 && rec (some r) cuts loops env pc cur ls st hp nx cs ss)
  | 8 => (match xLg a.2.2.1 ls with
    | some (.inr (.inr (.inr k))) => rec (some r) cuts loops (yTf env loops.2 (yN k)) pc cur ls st hp nx cs ss
    | _ => rec (some r) cuts loops env pc cur ls st hp nx cs ss)
  | 9 => (match xGet a.2.2.1 hp with
    | some (.inl o) => (match o.2[a.2.2.2.2.2.1]? with
      | some v => xIsI v && yTwo env .lt v (.inl (a.2.2.2.2.1, a.2.2.2.2.1)) (fun e => rec (some r) cuts loops e pc cur ls st hp nx cs ss) && yTwo env .ge v (.inl (a.2.2.2.2.1, a.2.2.2.2.1)) (fun e => rec (some r) cuts loops e pc cur ls st hp nx cs ss) && xInR a.2.2.2.2.1
      | none => false)
    | _ => false)
  | _ => false
section YPR
variable {p : Program} {l : Launch} {e : Env} {R : Room} {s : State} {m : MethodId} {args : Array Value} {below : List Frame} {meth : Method} {c : Code} {Q : State → Prop}
variable {cc : ByteArray} {D : va_G} {cy : Nat → ClassId} {A : Nat → Prop} {own : String} {Ts : List Cond} {ad0 : Nat → Nat} {nx0 nL N0 : Nat}
variable {M : xMi} {rec : yRc} {σ0 : Nat → Int} {n0 : Nat}
theorem yRel_ext {σ σ' : Nat → Int} {n : Nat} (hs : ∀ j, j < n → σ' j = σ j) {ad : Nat → Nat} {N : Nat} {H0 H : Heap} {locs : List Loc} {hp : xH} (hb : yBh n hp = true) (h : xRel D cy (yη σ) ad N A H0 hp H locs) : xRel D cy (yη σ') ad N A H0 hp H locs := by
  obtain ⟨ws, hw, h1, h2, h3⟩ := h
  exact ⟨ws, yBh_ok hs hb hw, h1, h2, h3⟩
theorem yHasS1 {lsC : Array Slot} {lv : List (Nat × Value)} {i : Nat} {v : Value} (h : lv_has lsC nL lv) (hi : (i, v) ∈ lv) : lv_has lsC nL ((i, v) :: lv.filter (fun q => !(q.1 == i) && !(q.1 + 1 == i && q.2.category == 2))) := yHasSub h fun q hq => by
  rcases List.mem_cons.mp hq with rfl | hq
  · exact hi
  · exact (List.mem_filter.mp hq).1
set_option maxHeartbeats 2000000 in
theorem yL0_ok (I : yIH p l e R s m args below meth c Q D cy A ad0 nx0 nL N0 σ0 n0 M rec) {σ : Nat → Int} {T : yT} {i : Nat} {up : Bool} {r : List yAn} {cuts : List yT} {loops : yLs} {env : List xI} {cur : List xEn} {ls : List (Nat × xV)} {st : List xV} {hp : xH} {nx cs ss : Nat} (hE : yOkE σ env) (hH : yHy p l e R s m args below meth c Q D cy A ad0 nx0 nL N0 σ env.length cuts loops) (hZ : yZ σ0 n0 σ env.length) (hcur : ∀ q ∈ cur, q ∈ M.1) (h : yL0 N0 rec T i up r cuts loops env cur ls st hp nx cs ss = true) : xGood p l e R s m args below meth c Q D cy (yη σ) A ad0 nx0 nL T.1 ls st hp nx cs ss := by
  simp only [yL0, Bool.and_eq_true, beq_iff_eq] at h
  obtain ⟨⟨⟨⟨⟨⟨rfl, rfl⟩, rfl⟩, hn⟩, hB⟩, hM⟩, hr⟩ := h
  split at hr
  rotate_left
  · cases hr
  rename_i iv hiv
  simp only [yBt, Bool.and_eq_true] at hB
  obtain ⟨⟨b1, b2⟩, b3⟩ := hB
  rw [hn] at b1 b2 b3
  have key : ∀ (k : Nat) (τ : Nat → Int), (∀ j, j < env.length → τ j = σ j) → yTG p l e R s m args below meth c Q D cy A ad0 nx0 nL nx T τ (fun lv => ∃ x : Int32, (i, Value.int x) ∈ lv ∧ (bif up then (iv.2 - x.toInt).toNat else (x.toInt - iv.1).toNat) = k) := by
    intro k
    induction k using Nat.strongRecOn with
    | _ k ih =>
      intro τ hτ ad lsC lv stC H locs had hnx hl hla hs hR hx
      obtain ⟨x, hx, hk⟩ := hx
      obtain ⟨k1, v1, g1, g2⟩ := xLg_ok hla hiv
      have ev := yUniq hl (List.mem_of_getElem? g1) hx
      subst ev
      obtain ⟨x', ex, hxi⟩ := g2
      cases ex
      have hE' := yOkE_app (yOkE_ext hE hτ) hxi
      have hu : ∀ j, j < env.length → yUp τ env.length x.toInt j = τ j := yUp_lt
      have hH' : yHy p l e R s m args below meth c Q D cy A ad0 nx0 nL nx (yUp τ env.length x.toInt) (env ++ [iv]).length cuts ((T, i, up, env.length, 0, []) :: loops.1, loops.2) := by
        have h0 : yHy p l e R s m args below meth c Q D cy A ad0 nx0 nL nx (yUp τ env.length x.toInt) (env ++ [iv]).length cuts loops := yHy_ext (by rw [List.length_append]; omega) (fun j hj => (hu j hj).trans (hτ j hj)) hH
        refine ⟨h0.1, fun L hL => ?_, h0.2.2⟩
        rcases List.mem_cons.mp hL with rfl | hL
        · refine ⟨by rw [hn, List.length_append]; omega, by rw [List.length_append]; exact Nat.lt_succ_self _, fun τ' hτ' => ?_⟩
          dsimp only at hτ' ⊢
          rw [hn] at hτ'
          intro ad' lsC' lv' stC' H' locs' a1 a2 a3 a4 a5 a6 a7
          obtain ⟨x2, m1, m2, m3, -⟩ := a7
          dsimp only at m2 m3
          rw [yUp_at] at m2 m3
          obtain ⟨k3, v3, g3, g4⟩ := xLg_ok a4 hiv
          have ev := yUniq a3 (List.mem_of_getElem? g3) m1
          subst ev
          obtain ⟨x3, ex, hxi3⟩ := g4
          cases ex
          obtain ⟨u1, u2⟩ := hxi3
          obtain ⟨w1, w2⟩ := hxi
          have ht : ∀ j, j < env.length → τ' j = σ j := fun j hj => ((hτ' j hj).trans (hu j hj)).trans (hτ j hj)
          refine ih _ ?_ τ' ht ad' lsC' lv' stC' H' locs' a1 a2 a3 a4 a5 a6 ⟨x2, m1, rfl⟩
          rw [← hk]
          cases up with
          | true =>
            have := m2 rfl
            rw [cond_true, cond_true]; omega
          | false =>
            have := m3 rfl
            rw [cond_false, cond_false]; omega
        · exact h0.2.1 L hL
      have G := I (yUp τ env.length x.toInt) (some r) cuts ((T, i, up, env.length, 0, []) :: loops.1, loops.2) (env ++ [iv]) T.1 cur _ _ _ nx 0 0 hE' hH' (yZ_ext hZ (by rw [List.length_append]; omega) (fun j hj => (hu j hj).trans (hτ j hj))) hcur hr
      exact G ad lsC _ stC H locs had hnx (yHasS1 hl hx) (xS1_ok (yB_ls hu b1 hla) ySy_ok) (yB_all hu b2 hs) (yRel_ext hu b3 hR)
  refine yM_good hE hM (P := fun lv => ∃ x : Int32, (i, Value.int x) ∈ lv) ?_ ?_
  · intro ad lsC lv stC H locs a1 a2 a3 a4 a5 a6 a7
    obtain ⟨x, hx⟩ := a7
    exact key _ σ (fun _ _ => rfl) ad lsC lv stC H locs a1 a2 a3 a4 a5 a6 ⟨x, hx, rfl⟩
  · intro ad lsC lv lv' hl hla hla' hsub
    obtain ⟨k1, v1, g1, g2⟩ := xLg_ok hla' hiv
    obtain ⟨x, rfl, -⟩ := g2
    exact ⟨x, List.mem_of_getElem? g1⟩
set_option maxHeartbeats 2000000 in
theorem yL7_ok (I : yIH p l e R s m args below meth c Q D cy A ad0 nx0 nL N0 σ0 n0 M rec) {σ : Nat → Int} {T : yT} {i q : Nat} {up : Bool} {F : List yFa} {r : List yAn} {cuts : List yT} {loops : yLs} {env : List xI} {cur : List xEn} {ls : List (Nat × xV)} {st : List xV} {hp : xH} {nx cs ss : Nat} (hE : yOkE σ env) (hH : yHy p l e R s m args below meth c Q D cy A ad0 nx0 nL N0 σ env.length cuts loops) (hZ : yZ σ0 n0 σ env.length) (hcur : ∀ q ∈ cur, q ∈ M.1) (h : yL7 N0 rec T i up q F r cuts loops env cur ls st hp nx cs ss = true) : xGood p l e R s m args below meth c Q D cy (yη σ) A ad0 nx0 nL T.1 ls st hp nx cs ss := by
  simp only [yL7, Bool.and_eq_true, beq_iff_eq] at h
  obtain ⟨⟨⟨⟨⟨⟨⟨rfl, rfl⟩, rfl⟩, hn⟩, hB⟩, hM⟩, hqi⟩, hr⟩ := h
  have hqi : q ≠ i := by simpa using hqi
  split at hr
  rotate_left
  · cases hr
  rename_i iv jv hiv hjv
  generalize hls : xS1 q (ySy (env.length + 1)) (xS1 i (ySy env.length) T.2.2.1) = ls' at hr
  generalize hfs : yFm ls' F = fs at hr
  simp only [Bool.and_eq_true] at hr
  obtain ⟨⟨hfb, hcf⟩, hr⟩ := hr
  simp only [yBt, Bool.and_eq_true] at hB
  obtain ⟨⟨b1, b2⟩, b3⟩ := hB
  rw [hn] at b1 b2 b3
  have hlen1 : (env ++ [iv]).length = env.length + 1 := by rw [List.length_append]; rfl
  have hlen2 : ((env ++ [iv]) ++ [jv]).length = env.length + 2 := by rw [List.length_append, hlen1]; rfl
  have key : ∀ (k : Nat) (τ : Nat → Int), (∀ j, j < env.length → τ j = σ j) → yTG p l e R s m args below meth c Q D cy A ad0 nx0 nL nx T τ (fun lv => ∃ x y : Int32, (i, Value.int x) ∈ lv ∧ (q, Value.int y) ∈ lv ∧ (∀ f ∈ fs, yFs (yUp (yUp τ env.length x.toInt) (env.length + 1) y.toInt) f ≤ 0) ∧ (bif up then (iv.2 - x.toInt).toNat else (x.toInt - iv.1).toNat) = k) := by
    intro k
    induction k using Nat.strongRecOn with
    | _ k ih =>
      intro τ hτ ad lsC lv stC H locs had hnx hl hla hs hR hx
      obtain ⟨x, y, hx, hy, hfx, hk⟩ := hx
      obtain ⟨k1, v1, g1, g2⟩ := xLg_ok hla hiv
      have ev := yUniq hl (List.mem_of_getElem? g1) hx
      subst ev
      obtain ⟨x', ex, hxi⟩ := g2
      cases ex
      obtain ⟨k2, v2, g3, g4⟩ := xLg_ok hla hjv
      have ev := yUniq hl (List.mem_of_getElem? g3) hy
      subst ev
      obtain ⟨y', ex, hyi⟩ := g4
      cases ex
      have hE1 := yOkE_app (yOkE_ext hE hτ) hxi
      have hE' := yOkE_app hE1 hyi
      rw [hlen1] at hE'
      have hu : ∀ j, j < env.length → yUp (yUp τ env.length x.toInt) (env.length + 1) y.toInt j = τ j := fun j hj => (yUp_lt j (by omega)).trans (yUp_lt j hj)
      have hun : yUp (yUp τ env.length x.toInt) (env.length + 1) y.toInt env.length = x.toInt := (yUp_lt _ (by omega)).trans yUp_at
      have hH' : yHy p l e R s m args below meth c Q D cy A ad0 nx0 nL nx (yUp (yUp τ env.length x.toInt) (env.length + 1) y.toInt) ((env ++ [iv]) ++ [jv]).length cuts ((T, i, up, env.length, q, fs) :: loops.1, fs ++ loops.2) := by
        have h0 : yHy p l e R s m args below meth c Q D cy A ad0 nx0 nL nx (yUp (yUp τ env.length x.toInt) (env.length + 1) y.toInt) ((env ++ [iv]) ++ [jv]).length cuts loops := yHy_ext (by rw [hlen2]; omega) (fun j hj => (hu j hj).trans (hτ j hj)) hH
        refine ⟨h0.1, fun L hL => ?_, fun f hf => ?_⟩
        · rcases List.mem_cons.mp hL with rfl | hL
          · refine ⟨by rw [hn, hlen2]; omega, by rw [hlen2]; show env.length < env.length + 2; omega, fun τ' hτ' => ?_⟩
            dsimp only at hτ' ⊢
            rw [hn] at hτ'
            intro ad' lsC' lv' stC' H' locs' a1 a2 a3 a4 a5 a6 a7
            obtain ⟨x2, m1, m2, m3, m4⟩ := a7
            dsimp only at m1 m2 m3 m4
            rw [hun] at m2 m3
            obtain ⟨k3, v3, g3, g4⟩ := xLg_ok a4 hiv
            have ev := yUniq a3 (List.mem_of_getElem? g3) m1
            subst ev
            obtain ⟨x3, ex, hxi3⟩ := g4
            cases ex
            obtain ⟨u1, u2⟩ := hxi3
            obtain ⟨w1, w2⟩ := hxi
            have ht : ∀ j, j < env.length → τ' j = σ j := fun j hj => ((hτ' j hj).trans (hu j hj)).trans (hτ j hj)
            have hy2 : ∃ y2 : Int32, (q, Value.int y2) ∈ lv' ∧ ∀ f ∈ fs, yFs (yUp (yUp τ' env.length x2.toInt) (env.length + 1) y2.toInt) f ≤ 0 := by
              rcases m4 with m4 | m4
              · obtain ⟨k5, v5, g5, g6⟩ := xLg_ok a4 hjv
                obtain ⟨y5, rfl, -⟩ := g6
                exact ⟨y5, List.mem_of_getElem? g5, fun f hf => by rw [m4] at hf; cases hf⟩
              · exact m4
            obtain ⟨y2, n1, n2⟩ := hy2
            refine ih _ ?_ τ' ht ad' lsC' lv' stC' H' locs' a1 a2 a3 a4 a5 a6 ⟨x2, y2, m1, n1, n2, rfl⟩
            rw [← hk]
            cases up with
            | true =>
              have := m2 rfl
              rw [cond_true, cond_true]; omega
            | false =>
              have := m3 rfl
              rw [cond_false, cond_false]; omega
          · exact h0.2.1 L hL
        · rcases List.mem_append.mp hf with hf | hf
          · refine ⟨?_, hfx f hf⟩
            rw [hlen2]
            exact List.all_eq_true.mp hfb f hf
          · exact h0.2.2 f hf
      have G := I (yUp (yUp τ env.length x.toInt) (env.length + 1) y.toInt) (some r) cuts ((T, i, up, env.length, q, fs) :: loops.1, fs ++ loops.2) ((env ++ [iv]) ++ [jv]) T.1 cur _ _ _ nx 0 0 hE' hH' (yZ_ext hZ (by rw [hlen2]; omega) (fun j hj => (hu j hj).trans (hτ j hj))) hcur hr
      have hl1 := yHasS1 hl hx
      have hy1 : (q, Value.int y) ∈ ((i, Value.int x) :: lv.filter (fun z => !(z.1 == i) && !(z.1 + 1 == i && z.2.category == 2))) := List.mem_cons_of_mem _ (List.mem_filter.mpr ⟨hy, by
        rw [show (q == i) = false by simpa using hqi]
        show (true && !(q + 1 == i && (Value.int y).category == 2)) = true
        rw [show ((Value.int y).category == 2) = false by rfl, Bool.and_false]
        rfl⟩)
      subst hls
      exact G ad lsC _ stC H locs had hnx (yHasS1 hl1 hy1) (xS1_ok (xS1_ok (yB_ls hu b1 hla) (ySy_at hun)) (ySy_at yUp_at)) (yB_all hu b2 hs) (yRel_ext hu b3 hR)
  refine yM_good hE hM (P := fun lv => ∃ x y : Int32, (i, Value.int x) ∈ lv ∧ (q, Value.int y) ∈ lv ∧ ∀ f ∈ fs, yFs (yUp (yUp σ env.length x.toInt) (env.length + 1) y.toInt) f ≤ 0) ?_ ?_
  · intro ad lsC lv stC H locs a1 a2 a3 a4 a5 a6 a7
    obtain ⟨x, y, hx, hy, hf⟩ := a7
    exact key _ σ (fun _ _ => rfl) ad lsC lv stC H locs a1 a2 a3 a4 a5 a6 ⟨x, y, hx, hy, hf, rfl⟩
  · intro ad lsC lv lv' hl hla hla' hsub
    obtain ⟨k1, v1, g1, g2⟩ := xLg_ok hla' hiv
    obtain ⟨x, rfl, -⟩ := g2
    have m1 := List.mem_of_getElem? g1
    rcases yCf_ok hE (fun f hf => (hH.2.2 f hf).2) hl hla hla' hsub hcf with z | ⟨y, q1, q2⟩
    · obtain ⟨k5, v5, g5, g6⟩ := xLg_ok hla' hjv
      obtain ⟨y5, rfl, -⟩ := g6
      exact ⟨x, y5, m1, List.mem_of_getElem? g5, fun f hf => by rw [z] at hf; cases hf⟩
    · exact ⟨x, y, m1, q1, fun f hf => q2 x m1 f hf⟩
theorem yJ0_ok (I : yIH p l e R s m args below meth c Q D cy A ad0 nx0 nL N0 σ0 n0 M rec) {σ : Nat → Int} {T : yT} {r : List yAn} {cuts : List yT} {loops : yLs} {env : List xI} {pc : Nat} {cur : List xEn} {ls : List (Nat × xV)} {st : List xV} {hp : xH} {nx cs ss : Nat} (hE : yOkE σ env) (hH : yHy p l e R s m args below meth c Q D cy A ad0 nx0 nL N0 σ env.length cuts loops) (hZ : yZ σ0 n0 σ env.length) (hcur : ∀ q ∈ cur, q ∈ M.1) (h : yJ0 M N0 rec T r cuts loops env pc cur ls st hp nx cs ss = true) : xGood p l e R s m args below meth c Q D cy (yη σ) A ad0 nx0 nL pc ls st hp nx cs ss := by
  simp only [yJ0, Bool.and_eq_true, beq_iff_eq] at h
  obtain ⟨⟨⟨⟨⟨⟨rfl, rfl⟩, rfl⟩, hn⟩, hB⟩, h1⟩, h2⟩ := h
  refine I σ (some r) (T :: cuts) loops env pc cur ls st hp nx 0 0 hE ⟨fun T' hT' => ?_, hH.2⟩ hZ hcur h2
  rcases List.mem_cons.mp hT' with hTe | hT'
  · rw [hTe]
    refine ⟨Nat.le_of_eq hn, fun τ hτ => ?_⟩
    rw [hn] at hτ
    have G := I τ none cuts loops env T.1 _ _ _ _ nx 0 0 (yOkE_ext hE hτ) (yHy_ext (Nat.le_refl _) hτ hH) (yZ_ext hZ (Nat.le_refl _) hτ) xSeek_in h1
    intro ad lsC lv stC H locs a1 a2 a3 a4 a5 a6 _
    exact G ad lsC lv stC H locs a1 a2 a3 a4 a5 a6
  · exact hH.1 T' hT'
set_option maxHeartbeats 2000000 in
theorem yPre_ok (I : yIH p l e R s m args below meth c Q D cy A ad0 nx0 nL N0 σ0 n0 M rec) {σ : Nat → Int} {a : yAn} {r : List yAn} {cuts : List yT} {loops : yLs} {env : List xI} {pc : Nat} {cur : List xEn} {ls : List (Nat × xV)} {st : List xV} {hp : xH} {nx cs ss : Nat} (hE : yOkE σ env) (hH : yHy p l e R s m args below meth c Q D cy A ad0 nx0 nL N0 σ env.length cuts loops) (hZ : yZ σ0 n0 σ env.length) (hcur : ∀ q ∈ cur, q ∈ M.1) (h : yPre M N0 rec a r cuts loops env pc cur ls st hp nx cs ss = true) : xGood p l e R s m args below meth c Q D cy (yη σ) A ad0 nx0 nL pc ls st hp nx cs ss := by
  unfold yPre at h
  split at h
  · rcases Bool.or_eq_true _ _ ▸ h with h | h
    · exact yL0_ok (T := yMk env.length pc a.2.1 ls st hp) I hE hH hZ hcur h
    · rw [Bool.and_eq_true] at h
      exact I σ (some r) cuts loops env pc cur ls st hp nx cs ss hE hH hZ hcur h.2
  · exact yJ0_ok I hE hH hZ hcur h
  · split at h
    rotate_left
    · exact I σ (some r) cuts loops env pc cur ls st hp nx cs ss hE hH hZ hcur h
    rename_i iv hiv
    by_cases hk : xK iv = true
    · rw [hk, cond_true] at h
      exact I σ (some r) cuts loops env pc cur ls st hp nx cs ss hE hH hZ hcur h
    rw [show xK iv = false by simpa using hk, cond_false] at h
    simp only [yBt, Bool.and_eq_true] at h
    obtain ⟨⟨⟨b1, b2⟩, b3⟩, h⟩ := h
    intro ad lsC lv stC H locs had hnx hl hla hs hR
    obtain ⟨k1, v1, g1, g2⟩ := xLg_ok hla hiv
    obtain ⟨x, rfl, hxi⟩ := g2
    have hu : ∀ j, j < env.length → yUp σ env.length x.toInt j = σ j := yUp_lt
    have G := I (yUp σ env.length x.toInt) (some r) cuts loops (env ++ [iv]) pc cur _ _ _ nx cs ss (yOkE_app hE hxi) (yHy_ext (by rw [List.length_append]; omega) hu hH) (yZ_ext hZ (by rw [List.length_append]; omega) hu) hcur h
    exact G ad lsC _ stC H locs had hnx (yHasS1 hl (List.mem_of_getElem? g1)) (xS1_ok (yB_ls hu b1 hla) ySy_ok) (yB_all hu b2 hs) (yRel_ext hu b3 hR)
  · split at h
    rotate_left
    · exact I σ (some r) cuts loops env pc cur ls st hp nx cs ss hE hH hZ hcur h
    rename_i o hp' htk
    split at h
    rotate_left
    · exact I σ (some r) cuts loops env pc cur ls st hp nx cs ss hE hH hZ hcur h
    rename_i iv hiv
    by_cases hk : xK iv = true
    · rw [hk, cond_true] at h
      exact I σ (some r) cuts loops env pc cur ls st hp nx cs ss hE hH hZ hcur h
    rw [show xK iv = false by simpa using hk, cond_false] at h
    simp only [yBt, Bool.and_eq_true] at h
    obtain ⟨⟨⟨b1, b2⟩, b3⟩, h⟩ := h
    intro ad lsC lv stC H locs had hnx hl hla hs hR
    obtain ⟨ws, hw, hP, hD, hS⟩ := hR
    have hw0 := hw
    obtain ⟨y, ws', e1, e0, e2, -⟩ := xTake_ok hw htk
    rcases y with y | y
    · exact e2.elim
    obtain ⟨x1, g1, g2⟩ := xAll_get e2.2 _ _ hiv
    obtain ⟨x, rfl, hxi⟩ := g2
    have hu : ∀ j, j < env.length → yUp σ env.length x.toInt j = σ j := yUp_lt
    have G := I (yUp σ env.length x.toInt) (some r) cuts loops (env ++ [iv]) pc cur _ _ _ nx cs ss (yOkE_app hE hxi) (yHy_ext (by rw [List.length_append]; omega) hu hH) (yZ_ext hZ (by rw [List.length_append]; omega) hu) hcur h
    refine G ad lsC lv stC H locs had hnx hl (yB_ls hu b1 hla) (yB_all hu b2 hs) ?_
    obtain ⟨z, ws2, f1, f0, f2, f3⟩ := xTake_ok (yBh_ok hu b3 hw0) htk
    have hP2 := xP_perm hP f1
    have hD2 := xD_perm hD f1
    rcases z with z | z
    · exact f2.elim
    have ez : (ad a.2.2.1, (Sum.inr z : va_E)) = (ad a.2.2.1, (Sum.inr y : va_E)) := by
      have m1 : (ad a.2.2.1, (Sum.inr z : va_E)) ∈ ws := f1.mem_iff.mpr List.mem_cons_self
      have m2 : (ad a.2.2.1, (Sum.inr y : va_E)) ∈ ws := e1.mem_iff.mpr List.mem_cons_self
      obtain ⟨i1, hi1⟩ := List.getElem?_of_mem m1
      obtain ⟨i2, hi2⟩ := List.getElem?_of_mem m2
      have := hD.1 i1 i2 _ _ hi1 hi2 rfl
      subst this
      rw [hi1] at hi2
      exact Option.some.inj hi2
    cases ez
    exact ⟨(ad a.2.2.1, Sum.inr y) :: ws2, ⟨⟨rfl, f0, f2.1, yAll_set1 ySy_ok _ f2.2 g1⟩, f3⟩, hP2, hD2, hS⟩
  · split at h
    rotate_left
    · exact I σ (some r) cuts loops env pc cur ls st hp nx cs ss hE hH hZ hcur h
    rename_i v hv
    simp only [Bool.and_eq_true] at h
    obtain ⟨⟨⟨h1, h2⟩, h3⟩, h4⟩ := h
    intro ad lsC lv stC H locs had hnx hl hla hs hR
    obtain ⟨k1, v1, g1, g2⟩ := xLg_ok hla hv
    obtain ⟨x, rfl⟩ := xIsI_ok h1 g2
    have hr := xInR_ok h4
    have gb : xOk (yη σ) ad nx (.inl (a.2.2.2.2.1, a.2.2.2.2.1)) (.int (Int32.ofInt a.2.2.2.2.1)) := ⟨_, rfl, by rw [Int32.toInt_ofInt, xbm hr.1 hr.2]; exact ⟨Int.le_refl _, Int.le_refl _⟩⟩
    by_cases hlt : xPr .lt x (Int32.ofInt a.2.2.2.2.1)
    · obtain ⟨e', hb, hE'⟩ := yBr_ok hE g2 gb hlt
      unfold yTwo at h2
      rw [hb] at h2
      exact I σ (some r) cuts loops e' pc cur ls st hp nx cs ss hE' (by rw [yBr_len hb]; exact hH) (by rw [yBr_len hb]; exact hZ) hcur h2 ad lsC lv stC H locs had hnx hl hla hs hR
    · obtain ⟨e', hb, hE'⟩ := yBr_ok (k := .ge) hE g2 gb (yNg_ok hlt)
      unfold yTwo at h3
      rw [hb] at h3
      exact I σ (some r) cuts loops e' pc cur ls st hp nx cs ss hE' (by rw [yBr_len hb]; exact hH) (by rw [yBr_len hb]; exact hZ) hcur h3 ad lsC lv stC H locs had hnx hl hla hs hR
  · split at h
    rotate_left
    · exact I σ (some r) cuts loops env pc cur ls st hp nx cs ss hE hH hZ hcur h
    rename_i iv hiv
    by_cases hk : xK iv = true
    · rw [hk, cond_true] at h
      exact I σ (some r) cuts loops env pc cur ls st hp nx cs ss hE hH hZ hcur h
    rw [show xK iv = false by simpa using hk, cond_false] at h
    simp only [yBt, Bool.and_eq_true] at h
    obtain ⟨⟨⟨b1, b2⟩, b3⟩, h⟩ := h
    intro ad lsC lv stC H locs had hnx hl hla hs hR
    obtain ⟨v1, g1, g2⟩ := xAll_get hs _ _ hiv
    obtain ⟨x, rfl, hxi⟩ := g2
    have hu : ∀ j, j < env.length → yUp σ env.length x.toInt j = σ j := yUp_lt
    have G := I (yUp σ env.length x.toInt) (some r) cuts loops (env ++ [iv]) pc cur _ _ _ nx cs ss (yOkE_app hE hxi) (yHy_ext (by rw [List.length_append]; omega) hu hH) (yZ_ext hZ (by rw [List.length_append]; omega) hu) hcur h
    exact G ad lsC lv stC H locs had hnx hl (yB_ls hu b1 hla) (yAll_set1 ySy_ok _ (yB_all hu b2 hs) g1) (yRel_ext hu b3 hR)
  · split at h
    rotate_left
    · exact I σ (some r) cuts loops env pc cur ls st hp nx cs ss hE hH hZ hcur h
    rename_i v hv
    simp only [Bool.and_eq_true] at h
    obtain ⟨⟨⟨h1, h2⟩, h3⟩, h4⟩ := h
    intro ad lsC lv stC H locs had hnx hl hla hs hR
    obtain ⟨v1, g1, g2⟩ := xAll_get hs _ _ hv
    obtain ⟨x, rfl⟩ := xIsI_ok h1 g2
    have hr := xInR_ok h4
    have gb : xOk (yη σ) ad nx (.inl (a.2.2.2.2.1, a.2.2.2.2.1)) (.int (Int32.ofInt a.2.2.2.2.1)) := ⟨_, rfl, by rw [Int32.toInt_ofInt, xbm hr.1 hr.2]; exact ⟨Int.le_refl _, Int.le_refl _⟩⟩
    by_cases hlt : xPr .lt x (Int32.ofInt a.2.2.2.2.1)
    · obtain ⟨e', hb, hE'⟩ := yBr_ok hE g2 gb hlt
      unfold yTwo at h2
      rw [hb] at h2
      exact I σ (some r) cuts loops e' pc cur ls st hp nx cs ss hE' (by rw [yBr_len hb]; exact hH) (by rw [yBr_len hb]; exact hZ) hcur h2 ad lsC lv stC H locs had hnx hl hla hs hR
    · obtain ⟨e', hb, hE'⟩ := yBr_ok (k := .ge) hE g2 gb (yNg_ok hlt)
      unfold yTwo at h3
      rw [hb] at h3
      exact I σ (some r) cuts loops e' pc cur ls st hp nx cs ss hE' (by rw [yBr_len hb]; exact hH) (by rw [yBr_len hb]; exact hZ) hcur h3 ad lsC lv stC H locs had hnx hl hla hs hR
  · rcases Bool.or_eq_true _ _ ▸ h with h | h
    · exact yL7_ok (T := yMk env.length pc a.2.1 ls st hp) I hE hH hZ hcur h
    · rw [Bool.and_eq_true] at h
      exact I σ (some r) cuts loops env pc cur ls st hp nx cs ss hE hH hZ hcur h.2
  · split at h
    · exact I σ (some r) cuts loops _ pc cur ls st hp nx cs ss (yTf_ok hE (fun f hf => (hH.2.2 f hf).2)) (by rw [yTf_len]; exact hH) (by rw [yTf_len]; exact hZ) hcur h
    · exact I σ (some r) cuts loops env pc cur ls st hp nx cs ss hE hH hZ hcur h
  · split at h
    rotate_left
    · cases h
    rename_i o hg
    split at h
    rotate_left
    · cases h
    rename_i v hv
    simp only [Bool.and_eq_true] at h
    obtain ⟨⟨⟨h1, h2⟩, h3⟩, h4⟩ := h
    intro ad lsC lv stC H locs had hnx hl hla hs hR
    have hR0 := hR
    obtain ⟨ws, hw, hP, hD, hS⟩ := hR
    obtain ⟨i0, y, e1, e2⟩ := xGet_ok hw hg
    rcases y with y | y
    · exact e2.elim
    obtain ⟨v1, g1, g2⟩ := xAll_get e2.2 _ _ hv
    obtain ⟨x, rfl⟩ := xIsI_ok h1 g2
    have hr := xInR_ok h4
    have gb : xOk (yη σ) ad nx (.inl (a.2.2.2.2.1, a.2.2.2.2.1)) (.int (Int32.ofInt a.2.2.2.2.1)) := ⟨_, rfl, by rw [Int32.toInt_ofInt, xbm hr.1 hr.2]; exact ⟨Int.le_refl _, Int.le_refl _⟩⟩
    by_cases hlt : xPr .lt x (Int32.ofInt a.2.2.2.2.1)
    · obtain ⟨e', hb, hE'⟩ := yBr_ok hE g2 gb hlt
      unfold yTwo at h2
      rw [hb] at h2
      exact I σ (some r) cuts loops e' pc cur ls st hp nx cs ss hE' (by rw [yBr_len hb]; exact hH) (by rw [yBr_len hb]; exact hZ) hcur h2 ad lsC lv stC H locs had hnx hl hla hs hR0
    · obtain ⟨e', hb, hE'⟩ := yBr_ok (k := .ge) hE g2 gb (yNg_ok hlt)
      unfold yTwo at h3
      rw [hb] at h3
      exact I σ (some r) cuts loops e' pc cur ls st hp nx cs ss hE' (by rw [yBr_len hb]; exact hH) (by rw [yBr_len hb]; exact hZ) hcur h3 ad lsC lv stC H locs had hnx hl hla hs hR0
  · cases h
end YPR

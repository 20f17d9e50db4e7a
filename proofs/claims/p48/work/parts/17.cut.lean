/-! linear facts of names: the sum is at most 0 -/
abbrev yFa : Type := List (Nat × Int) × Int
def yUp (σ : Nat → Int) (n : Nat) (x : Int) : Nat → Int := fun j => if j = n then x else σ j
theorem yUp_lt {σ : Nat → Int} {n : Nat} {x : Int} : ∀ j, j < n → yUp σ n x j = σ j := fun j hj => by unfold yUp; rw [if_neg (by omega)]
theorem yUp_at {σ : Nat → Int} {n : Nat} {x : Int} : yUp σ n x n = x := by unfold yUp; rw [if_pos rfl]
theorem yUp_ne {σ : Nat → Int} {n j : Nat} {x : Int} (h : j ≠ n) : yUp σ n x j = σ j := by unfold yUp; rw [if_neg h]
def yFl (σ : Nat → Int) : List (Nat × Int) → Int
  | [] => 0
  | q :: r => q.2 * σ q.1 + yFl σ r
def yFs (σ : Nat → Int) (f : yFa) : Int := yFl σ f.1 + f.2
def yFb (n : Nat) (f : yFa) : Bool := f.1.all (fun q => decide (q.1 < n))
theorem yFl_ext {σ σ' : Nat → Int} {n : Nat} (hs : ∀ j, j < n → σ' j = σ j) : ∀ {e : List (Nat × Int)}, e.all (fun q => decide (q.1 < n)) = true → yFl σ' e = yFl σ e
  | [], _ => rfl
  | q :: r, h => by
    rw [List.all_cons, Bool.and_eq_true, decide_eq_true_eq] at h
    unfold yFl
    rw [hs _ h.1, yFl_ext hs h.2]
theorem yFb_up {n n' : Nat} (hn : n ≤ n') : ∀ {e : List (Nat × Int)}, e.all (fun q => decide (q.1 < n)) = true → e.all (fun q => decide (q.1 < n')) = true
  | [], _ => rfl
  | q :: r, h => by
    rw [List.all_cons, Bool.and_eq_true, decide_eq_true_eq] at h
    rw [List.all_cons, Bool.and_eq_true, decide_eq_true_eq]
    exact ⟨by omega, yFb_up hn h.2⟩
theorem yFl_app {σ : Nat → Int} : ∀ {a b : List (Nat × Int)}, yFl σ (a ++ b) = yFl σ a + yFl σ b
  | [], b => by rw [List.nil_append]; show _ = 0 + _; rw [Int.zero_add]
  | q :: r, b => by
    rw [List.cons_append]
    show q.2 * σ q.1 + yFl σ (r ++ b) = q.2 * σ q.1 + yFl σ r + yFl σ b
    rw [yFl_app, Int.add_assoc]
/-- c times a value -/
def yTm (env : List xI) (c : Int) : xV → Option yFa
  | .inr (.inr (.inr k)) => (match yIv env k with
    | some _ => some ([(yN k, c)], c * yO k)
    | none => none)
  | .inl iv => bif xK iv then some ([], c * iv.1) else none
  | _ => none
theorem yTm_ok {σ : Nat → Int} {env : List xI} (h : yOkE σ env) {ad : Nat → Nat} {N : Nat} {v : xV} {x : Int32} {c : Int} {t : yFa} (g : xOk (yη σ) ad N v (.int x)) (ht : yTm env c v = some t) : yFs σ t = c * x.toInt := by
  unfold yTm at ht
  split at ht
  · rename_i k
    have g : Value.int x = .int (yη σ k) := g
    cases g
    split at ht
    · rename_i i hi
      cases ht
      rw [(yIv_ok h hi).1]
      show c * σ (yN k) + 0 + c * yO k = _
      rw [Int.add_zero, Int.mul_add]
    · cases ht
  · rename_i iv
    by_cases hk : xK iv = true
    · rw [hk, cond_true] at ht
      cases ht
      obtain ⟨y, e, g1, g2⟩ := g
      cases e
      have hb : iv.1 = iv.2 := by simpa [xK] using hk
      show 0 + c * iv.1 = c * x.toInt
      rw [Int.zero_add, show iv.1 = x.toInt by omega]
    · rw [show xK iv = false by simpa using hk, cond_false] at ht
      cases ht
  · cases ht
/-- the names n and n + 1 put in -/
def ySb (env : List xI) (n : Nat) (vi vr : xV) : List (Nat × Int) → Option yFa
  | [] => some ([], 0)
  | q :: r => (match ySb env n vi vr r, (bif q.1 == n then yTm env q.2 vi else bif q.1 == n + 1 then yTm env q.2 vr else bif decide (q.1 < n) then some ([q], 0) else none) with
    | some a, some b => some (b.1 ++ a.1, b.2 + a.2)
    | _, _ => none)
theorem ySb_ok {σ : Nat → Int} {env : List xI} (h : yOkE σ env) {ad : Nat → Nat} {N : Nat} {vi vr : xV} {x y : Int32} {n : Nat} (gi : xOk (yη σ) ad N vi (.int x)) (gr : xOk (yη σ) ad N vr (.int y)) : ∀ {e : List (Nat × Int)} {t : yFa}, ySb env n vi vr e = some t → yFl (yUp (yUp σ n x.toInt) (n + 1) y.toInt) e = yFs σ t
  | [], t, ht => by
    cases ht
    rfl
  | q :: r, t, ht => by
    unfold ySb at ht
    split at ht
    · rename_i a b ha hb
      cases ht
      have e1 := ySb_ok h gi gr ha
      have e2 : q.2 * yUp (yUp σ n x.toInt) (n + 1) y.toInt q.1 = yFs σ b := by
        by_cases h1 : q.1 = n
        · rw [show (q.1 == n) = true by simpa using h1, cond_true] at hb
          rw [yTm_ok h gi hb, h1, yUp_ne (by omega), yUp_at]
        · rw [show (q.1 == n) = false by simpa using h1, cond_false] at hb
          by_cases h2 : q.1 = n + 1
          · rw [show (q.1 == n + 1) = true by simpa using h2, cond_true] at hb
            rw [yTm_ok h gr hb, h2, yUp_at]
          · rw [show (q.1 == n + 1) = false by simpa using h2, cond_false] at hb
            by_cases h3 : q.1 < n
            · rw [decide_eq_true h3, cond_true] at hb
              cases hb
              rw [yUp_ne h2, yUp_ne h1]
              show _ = q.2 * σ q.1 + 0 + 0
              omega
            · rw [decide_eq_false h3, cond_false] at hb
              cases hb
      show q.2 * _ + yFl _ r = yFl σ (b.1 ++ a.1) + (b.2 + a.2)
      rw [e1, e2, yFl_app]
      unfold yFs
      omega
    · cases ht
/-- one term taken off -/
def yL1 (j : Nat) (c : Int) : List (Nat × Int) → List (Nat × Int)
  | [] => [(j, -c)]
  | q :: r => bif q.1 == j then (j, q.2 - c) :: r else q :: yL1 j c r
theorem yL1_ok {σ : Nat → Int} {j : Nat} {c : Int} : ∀ {e : List (Nat × Int)}, yFl σ (yL1 j c e) = yFl σ e - c * σ j
  | [] => by
    show -c * σ j + 0 = 0 - c * σ j
    rw [Int.neg_mul]; omega
  | q :: r => by
    unfold yL1
    by_cases h : q.1 = j
    · rw [show (q.1 == j) = true by simpa using h, cond_true]
      show (q.2 - c) * σ j + yFl σ r = q.2 * σ q.1 + yFl σ r - c * σ j
      rw [h, Int.sub_mul]; omega
    · rw [show (q.1 == j) = false by simpa using h, cond_false]
      show q.2 * σ q.1 + yFl σ (yL1 j c r) = q.2 * σ q.1 + yFl σ r - c * σ j
      rw [yL1_ok]; omega
def yMi (e : List (Nat × Int)) : List (Nat × Int) → List (Nat × Int)
  | [] => e
  | q :: r => yL1 q.1 q.2 (yMi e r)
theorem yMi_ok {σ : Nat → Int} {e : List (Nat × Int)} : ∀ {f : List (Nat × Int)}, yFl σ (yMi e f) = yFl σ e - yFl σ f
  | [] => by show _ = _ - 0; rw [Int.sub_zero]; rfl
  | q :: r => by
    show yFl σ (yL1 q.1 q.2 (yMi e r)) = yFl σ e - (q.2 * σ q.1 + yFl σ r)
    rw [yL1_ok, yMi_ok]; omega
def yUb (env : List xI) : List (Nat × Int) → Option Int
  | [] => some 0
  | q :: r => bif q.2 == 0 then yUb env r else (match env[q.1]?, yUb env r with
    | some i, some u => some ((bif decide (0 ≤ q.2) then q.2 * i.2 else q.2 * i.1) + u)
    | _, _ => none)
theorem yUb_ok {σ : Nat → Int} {env : List xI} (h : yOkE σ env) : ∀ {e : List (Nat × Int)} {u : Int}, yUb env e = some u → yFl σ e ≤ u
  | [], u, hu => by
    cases hu
    exact Int.le_refl _
  | q :: r, u, hu => by
    unfold yUb at hu
    by_cases h0 : q.2 = 0
    · rw [show (q.2 == 0) = true by simpa using h0, cond_true] at hu
      show q.2 * σ q.1 + yFl σ r ≤ u
      rw [h0, Int.zero_mul, Int.zero_add]
      exact yUb_ok h hu
    rw [show (q.2 == 0) = false by simpa using h0, cond_false] at hu
    split at hu
    · rename_i i w hi hw
      cases hu
      have e1 := yUb_ok h hw
      obtain ⟨b1, b2⟩ := h _ _ hi
      show q.2 * σ q.1 + yFl σ r ≤ _
      by_cases hc : 0 ≤ q.2
      · rw [decide_eq_true hc, cond_true]
        have := Int.mul_le_mul_of_nonneg_left b2 hc
        omega
      · rw [decide_eq_false hc, cond_false]
        have := Int.mul_le_mul_of_nonpos_left (a := q.2) (by omega) b1
        omega
    · cases hu
def yCb (F : List yFa) : List yFa := F ++ F.flatMap (fun f => F.map (fun g => (f.1 ++ g.1, f.2 + g.2)))
theorem yCb_ok {σ : Nat → Int} {F : List yFa} (h : ∀ f ∈ F, yFs σ f ≤ 0) : ∀ f ∈ yCb F, yFs σ f ≤ 0 := fun f hf => by
  rcases List.mem_append.mp hf with hf | hf
  · exact h f hf
  · obtain ⟨a, ha, hf⟩ := List.mem_flatMap.mp hf
    obtain ⟨b, hb, rfl⟩ := List.mem_map.mp hf
    have h1 := h a ha
    have h2 := h b hb
    unfold yFs at h1 h2 ⊢
    rw [yFl_app]
    dsimp only
    omega
def yUl (env : List xI) (e : yFa) : Bool := match yUb env (yMi [] (yMi [] e.1)) with
  | some u => decide (u + e.2 ≤ 0)
  | none => false
def yEnt (env : List xI) (F : List yFa) (e : yFa) : Bool := yUl env e || (yCb F).any (fun f => yUl env (yMi e.1 f.1, e.2 - f.2))
theorem yUl_ok {σ : Nat → Int} {env : List xI} (h : yOkE σ env) {e : yFa} (g : yUl env e = true) : yFs σ e ≤ 0 := by
  unfold yUl at g
  split at g
  · rename_i u hu
    have := yUb_ok h hu
    rw [yMi_ok, yMi_ok] at this
    have e0 : yFl σ [] = 0 := rfl
    rw [decide_eq_true_eq] at g
    unfold yFs; omega
  · cases g
theorem yEnt_ok {σ : Nat → Int} {env : List xI} (h : yOkE σ env) {F : List yFa} (hF : ∀ f ∈ F, yFs σ f ≤ 0) {e : yFa} (g : yEnt env F e = true) : yFs σ e ≤ 0 := by
  unfold yEnt at g
  rcases Bool.or_eq_true _ _ ▸ g with g | g
  · exact yUl_ok h g
  · obtain ⟨f, hf, g⟩ := List.any_eq_true.mp g
    have h1 := yUl_ok h g
    have h2 := yCb_ok hF f hf
    unfold yFs at h1 h2 ⊢
    dsimp only at h1
    rw [yMi_ok] at h1
    omega
/-- a name's ends by the facts -/
def yEd (env : List xI) (F : List yFa) (e : List (Nat × Int)) (d : Int) : Int := F.foldr (fun f h => match yUb env (yMi e f.1) with
  | some u => min h (u - f.2)
  | none => h) d
theorem yEd_ok {σ : Nat → Int} {env : List xI} (h : yOkE σ env) {e : List (Nat × Int)} {d : Int} (hd : yFl σ e ≤ d) : ∀ {F : List yFa}, (∀ f ∈ F, yFs σ f ≤ 0) → yFl σ e ≤ yEd env F e d
  | [], _ => hd
  | f :: F, hF => by
    have ih := yEd_ok h hd (F := F) fun g hg => hF g (List.mem_cons_of_mem _ hg)
    have hf := hF f List.mem_cons_self
    show _ ≤ (match yUb env (yMi e f.1) with
      | some u => min (yEd env F e d) (u - f.2)
      | none => yEd env F e d)
    split
    · rename_i u hu
      have := yUb_ok h hu
      rw [yMi_ok] at this
      unfold yFs at hf
      exact Int.le_min.mpr ⟨ih, by omega⟩
    · exact ih
def yTf (env : List xI) (F : List yFa) (j : Nat) : List xI := match env[j]? with
  | some iv => env.set j (-(yEd env (yCb F) [(j, -1)] (-iv.1)), yEd env (yCb F) [(j, 1)] iv.2)
  | none => env
theorem yTf_len {env : List xI} {F : List yFa} {j : Nat} : (yTf env F j).length = env.length := by
  unfold yTf
  split
  · rw [List.length_set]
  · rfl
theorem yTf_ok {σ : Nat → Int} {env : List xI} (h : yOkE σ env) {F : List yFa} (hF : ∀ f ∈ F, yFs σ f ≤ 0) {j : Nat} : yOkE σ (yTf env F j) := by
  unfold yTf
  split
  · rename_i iv hi
    obtain ⟨b1, b2⟩ := h _ _ hi
    intro q i hq
    rw [List.getElem?_set] at hq
    by_cases hj : j = q
    · rw [if_pos hj] at hq
      split at hq
      · cases hq
        subst hj
        have h1 := yEd_ok h (e := [(j, 1)]) (d := iv.2) (by show 1 * σ j + 0 ≤ iv.2; omega) (yCb_ok hF)
        have h2 := yEd_ok h (e := [(j, -1)]) (d := -iv.1) (by show -1 * σ j + 0 ≤ -iv.1; omega) (yCb_ok hF)
        have e1 : yFl σ [(j, 1)] = σ j := by show 1 * σ j + 0 = σ j; omega
        have e2 : yFl σ [(j, -1)] = -σ j := by show -1 * σ j + 0 = -σ j; omega
        rw [e1] at h1
        rw [e2] at h2
        constructor <;> dsimp only <;> omega
      · cases hq
    · rw [if_neg hj] at hq
      exact h q i hq
  · exact h
/-! cuts and loops of a walk: states that other walks end in -/
abbrev yT : Type := Nat × Nat × List (Nat × xV) × List xV × xH
/-- template, counter, upward, its name; the local that goes with it, facts -/
abbrev yLp : Type := yT × Nat × Bool × Nat × Nat × List yFa
abbrev yLs : Type := List yLp × List yFa
/-- locals put in, locals left out, how many of the stack go, what comes on it, cells put in -/
abbrev yGn : Type := List (Nat × xV) × List Nat × Nat × List xV × xH
/-- its kind, a change of the state, a number, upward, another number -/
abbrev yAn : Type := Nat × yGn × Nat × Bool × Int × Nat × List yFa
abbrev yRc : Type := Option (List yAn) → List yT → yLs → List xI → xRec
def yGl (g : yGn) (ls : List (Nat × xV)) : List (Nat × xV) := g.1 ++ ls.filter (fun q => !(g.2.1.any (fun i => i == q.1)) && !(g.1.any (fun z => z.1 == q.1)))
def yGs (g : yGn) (st : List xV) : List xV := g.2.2.2.1 ++ st.drop g.2.2.1
def yGh (g : yGn) (hp : xH) : xH := g.2.2.2.2 ++ hp.filter (fun q => !(g.2.2.2.2.any (fun z => z.1 == q.1)))
def yMk (n pc : Nat) (g : yGn) (ls : List (Nat × xV)) (st : List xV) (hp : xH) : yT := (pc, n, yGl g ls, yGs g st, yGh g hp)
def yBt (T : yT) : Bool := T.2.2.1.all (fun q => yB T.2.1 q.2) && T.2.2.2.1.all (yB T.2.1) && yBh T.2.1 T.2.2.2.2
def yMl (env : List xI) (ls : List (Nat × xV)) : List (Nat × xV) → Bool
  | [] => true
  | q :: r => (match xLg q.1 ls with
    | some a => yLeV env a q.2
    | none => false) && yMl env ls r
def yM (env : List xI) (T : yT) (ls : List (Nat × xV)) (st : List xV) (hp : xH) : Bool := yMl env ls T.2.2.1 && yLeL env st T.2.2.2.1 && (match yTakeAll env T.2.2.2.2 hp with
  | some _ => true
  | none => false)
def ySy (n : Nat) : xV := .inr (.inr (.inr (yC n 0)))
def yCnt (env : List xI) (L : yLp) (ls : List (Nat × xV)) : Bool := (match xLg L.2.1 L.1.2.2.1 with
  | some _ => true
  | none => false) && (match xLg L.2.1 ls with
  | some (.inr (.inr (.inr k))) => yN k == L.2.2.2.1 && (bif L.2.2.1 then decide (0 < yO k) else decide (yO k < 0)) && (match yIv env k with
    | some _ => true
    | none => false)
  | _ => false)
theorem yMl_ok {σ : Nat → Int} {env : List xI} (h : yOkE σ env) {ad : Nat → Nat} {N : Nat} {ls : List (Nat × xV)} {lv : List (Nat × Value)} (hla : xAll (xLok (yη σ) ad N) ls lv) : ∀ {ts : List (Nat × xV)}, yMl env ls ts = true → ∃ lv' : List (Nat × Value), xAll (xLok (yη σ) ad N) ts lv' ∧ ∀ q ∈ lv', q ∈ lv
  | [], _ => ⟨[], trivial, fun _ hq => by cases hq⟩
  | q :: r, hm => by
    simp only [yMl, Bool.and_eq_true] at hm
    obtain ⟨h1, h2⟩ := hm
    split at h1
    · rename_i a ha
      obtain ⟨k, v, g1, g2⟩ := xLg_ok hla ha
      obtain ⟨lv', g3, g4⟩ := yMl_ok h hla h2
      refine ⟨(q.1, v) :: lv', ⟨⟨rfl, yLeV_ok h h1 g2⟩, g3⟩, fun z hz => ?_⟩
      rcases List.mem_cons.mp hz with rfl | hz
      · exact List.mem_of_getElem? g1
      · exact g4 z hz
    · cases h1
/-- the first names are what they were -/
def yZ (σ0 : Nat → Int) (n0 : Nat) (σ : Nat → Int) (n : Nat) : Prop := n0 ≤ n ∧ ∀ j, j < n0 → σ j = σ0 j
theorem yZ_ext {σ0 σ σ' : Nat → Int} {n0 n n' : Nat} (h : yZ σ0 n0 σ n) (hn : n ≤ n') (hs : ∀ j, j < n → σ' j = σ j) : yZ σ0 n0 σ' n' := ⟨Nat.le_trans h.1 hn, fun j hj => (hs j (Nat.lt_of_lt_of_le hj h.1)).trans (h.2 j hj)⟩
section YCU
variable {p : Program} {l : Launch} {e : Env} {R : Room} {s : State} {m : MethodId} {args : Array Value} {below : List Frame} {meth : Method} {c : Code} {Q : State → Prop}
variable {cc : ByteArray} {D : va_G} {cy : Nat → ClassId} {A : Nat → Prop} {own : String} {Ts : List Cond} {ad0 : Nat → Nat} {nx0 nL N0 : Nat}
variable {M : xMi} {rec : yRc} {σ0 : Nat → Int} {n0 : Nat}
theorem yRelSub {η : Nat → Int32} {ad : Nat → Nat} {N : Nat} {H0 H : Heap} {locs : List Loc} {hp : xH} {ws wc wr : va_W} (hP : va_P D vwCl ws H) (hD : va_D A ws) (hS : va_S A H0 H locs) (hperm : ws.Perm (wc ++ wr)) (hw : xWok η ad N cy hp wc) : xRel D cy η ad N A H0 hp H locs := by
  refine ⟨wc, hw, xP_mem.mpr fun q hq => xP_mem.mp (xP_perm hP hperm) q (List.mem_append_left _ hq), ?_, hS⟩
  have := xD_mem.mp (xD_perm hD hperm)
  rw [List.map_append] at this
  exact xD_mem.mpr ⟨(List.nodup_append.mp this.1).1, fun q hq => this.2 q (List.mem_append_left _ hq)⟩
theorem yHasSub {lsC : Array Slot} {lv lv' : List (Nat × Value)} (h : lv_has lsC nL lv) (hs : ∀ q ∈ lv', q ∈ lv) : lv_has lsC nL lv' := ⟨h.1, h.2.1, fun q hq => h.2.2 q (hs q hq)⟩
/-- what is to hold at a template's place, for a locals' list that fits it -/
def yTG (p : Program) (l : Launch) (e : Env) (R : Room) (s : State) (m : MethodId) (args : Array Value) (below : List Frame) (meth : Method) (c : Code) (Q : State → Prop) (D : va_G) (cy : Nat → ClassId) (A : Nat → Prop) (ad0 : Nat → Nat) (nx0 nL N0 : Nat) (T : yT) (σ : Nat → Int) (P : List (Nat × Value) → Prop) : Prop :=
  ∀ (ad : Nat → Nat) (lsC : Array Slot) (lv : List (Nat × Value)) (stC : List Value) (H : Heap) (locs : List Loc), (∀ k, k < nx0 → ad k = ad0 k) → nx0 ≤ N0 → lv_has lsC nL lv → xAll (xLok (yη σ) ad N0) T.2.2.1 lv → xAll (xOk (yη σ) ad N0) T.2.2.2.1 stC → xRel D cy (yη σ) ad N0 A s.heap T.2.2.2.2 H locs → P lv → W p l e R s m args below meth c H locs 0 0 Q (F0 m T.1 lsC stC)
def yLq (σ : Nat → Int) (L : yLp) (σ' : Nat → Int) (lv : List (Nat × Value)) : Prop := ∃ x : Int32, (L.2.1, Value.int x) ∈ lv ∧ (L.2.2.1 = true → σ L.2.2.2.1 < x.toInt) ∧ (L.2.2.1 = false → x.toInt < σ L.2.2.2.1) ∧ (L.2.2.2.2.2 = [] ∨ ∃ y : Int32, (L.2.2.2.2.1, Value.int y) ∈ lv ∧ ∀ f ∈ L.2.2.2.2.2, yFs (yUp (yUp σ' L.2.2.2.1 x.toInt) (L.2.2.2.1 + 1) y.toInt) f ≤ 0)
/-- the hypotheses: each cut, each loop ahead of where it now is, the facts -/
def yHy (p : Program) (l : Launch) (e : Env) (R : Room) (s : State) (m : MethodId) (args : Array Value) (below : List Frame) (meth : Method) (c : Code) (Q : State → Prop) (D : va_G) (cy : Nat → ClassId) (A : Nat → Prop) (ad0 : Nat → Nat) (nx0 nL N0 : Nat) (σ : Nat → Int) (n : Nat) (cuts : List yT) (loops : yLs) : Prop :=
  (∀ T ∈ cuts, T.2.1 ≤ n ∧ ∀ σ' : Nat → Int, (∀ j, j < T.2.1 → σ' j = σ j) → yTG p l e R s m args below meth c Q D cy A ad0 nx0 nL N0 T σ' (fun _ => True)) ∧
  (∀ L ∈ loops.1, L.1.2.1 ≤ n ∧ L.2.2.2.1 < n ∧ ∀ σ' : Nat → Int, (∀ j, j < L.1.2.1 → σ' j = σ j) → yTG p l e R s m args below meth c Q D cy A ad0 nx0 nL N0 L.1 σ' (yLq σ L σ')) ∧
  (∀ f ∈ loops.2, yFb n f = true ∧ yFs σ f ≤ 0)
theorem yHy_ext {σ σ' : Nat → Int} {n n' : Nat} {cuts : List yT} {loops : yLs} (hn : n ≤ n') (hs : ∀ j, j < n → σ' j = σ j) (h : yHy p l e R s m args below meth c Q D cy A ad0 nx0 nL N0 σ n cuts loops) : yHy p l e R s m args below meth c Q D cy A ad0 nx0 nL N0 σ' n' cuts loops := by
  refine ⟨fun T hT => ?_, fun L hL => ?_, fun f hf => ?_⟩
  · obtain ⟨h1, h2⟩ := h.1 T hT
    exact ⟨Nat.le_trans h1 hn, fun τ ht => h2 τ fun j hj => (ht j hj).trans (hs j (Nat.lt_of_lt_of_le hj h1))⟩
  · obtain ⟨h1, h2, h3⟩ := h.2.1 L hL
    refine ⟨Nat.le_trans h1 hn, Nat.lt_of_lt_of_le h2 hn, fun τ ht => ?_⟩
    unfold yLq
    rw [hs _ h2]
    exact h3 τ fun j hj => (ht j hj).trans (hs j (Nat.lt_of_lt_of_le hj h1))
  · obtain ⟨h1, h2⟩ := h.2.2 f hf
    refine ⟨yFb_up hn h1, ?_⟩
    unfold yFs
    rw [yFl_ext hs h1]
    exact h2
def yIH (p : Program) (l : Launch) (e : Env) (R : Room) (s : State) (m : MethodId) (args : Array Value) (below : List Frame) (meth : Method) (c : Code) (Q : State → Prop) (D : va_G) (cy : Nat → ClassId) (A : Nat → Prop) (ad0 : Nat → Nat) (nx0 nL N0 : Nat) (σ0 : Nat → Int) (n0 : Nat) (M : xMi) (rec : yRc) : Prop :=
  ∀ (σ : Nat → Int) (md : Option (List yAn)) (cuts : List yT) (loops : yLs) (env : List xI) (pc : Nat) (cur : List xEn) (ls : List (Nat × xV)) (st : List xV) (hp : xH) (nx cs ss : Nat), yOkE σ env → yHy p l e R s m args below meth c Q D cy A ad0 nx0 nL N0 σ env.length cuts loops → yZ σ0 n0 σ env.length → (∀ q ∈ cur, q ∈ M.1) → rec md cuts loops env pc cur ls st hp nx cs ss = true → xGood p l e R s m args below meth c Q D cy (yη σ) A ad0 nx0 nL pc ls st hp nx cs ss
/-- a state that fits a template -/
theorem yM_good {σ : Nat → Int} {env : List xI} (hE : yOkE σ env) {T : yT} {ls : List (Nat × xV)} {st : List xV} {hp : xH} (hM : yM env T ls st hp = true) {P : List (Nat × Value) → Prop} (hG : yTG p l e R s m args below meth c Q D cy A ad0 nx0 nL N0 T σ P)
    (hP : ∀ (ad : Nat → Nat) (lsC : Array Slot) (lv lv' : List (Nat × Value)), lv_has lsC nL lv → xAll (xLok (yη σ) ad N0) ls lv → xAll (xLok (yη σ) ad N0) T.2.2.1 lv' → (∀ q ∈ lv', q ∈ lv) → P lv') : xGood p l e R s m args below meth c Q D cy (yη σ) A ad0 nx0 nL T.1 ls st hp N0 0 0 := by
  simp only [yM, Bool.and_eq_true] at hM
  obtain ⟨⟨h1, h2⟩, h3⟩ := hM
  intro ad lsC lv stC H locs had hnx hl hla hs hR
  obtain ⟨lv', g1, g2⟩ := yMl_ok hE hla h1
  split at h3
  · rename_i r htk
    obtain ⟨ws, hw, hPp, hD, hS⟩ := hR
    obtain ⟨wc, wr, hperm, hwc, -⟩ := yTakeAll_ok hE hw htk
    exact hG ad lsC lv' stC H locs had hnx (yHasSub hl g2) g1 (yLeL_ok hE h2 hs) (yRelSub hPp hD hS hperm hwc) (hP ad lsC lv lv' hl hla g1 g2)
  · cases h3
def yCf (env : List xI) (F : List yFa) (tl ls : List (Nat × xV)) (i r n : Nat) (fs : List yFa) : Bool := fs.isEmpty || (match xLg r tl, xLg i ls, xLg r ls with
  | some _, some vi, some vr => xIsI vi && xIsI vr && fs.all (fun f => match ySb env n vi vr f.1 with
    | some e => yEnt env F (e.1, e.2 + f.2)
    | none => false)
  | _, _, _ => false)
theorem yUniq {lsC : Array Slot} {lv : List (Nat × Value)} {i : Nat} {v w : Value} (h : lv_has lsC nL lv) (h1 : (i, v) ∈ lv) (h2 : (i, w) ∈ lv) : v = w := by
  have e1 := h.2.2 _ h1
  have e2 := h.2.2 _ h2
  dsimp only at e1 e2
  rw [e1] at e2
  cases e2
  rfl
theorem yCf_ok {σ : Nat → Int} {env : List xI} (hE : yOkE σ env) {F : List yFa} (hF : ∀ f ∈ F, yFs σ f ≤ 0) {ad : Nat → Nat} {N : Nat} {lsC : Array Slot} {lv lv' : List (Nat × Value)} {tl ls : List (Nat × xV)} {i r n : Nat} {fs : List yFa} (hl : lv_has lsC nL lv) (hla : xAll (xLok (yη σ) ad N) ls lv) (hla' : xAll (xLok (yη σ) ad N) tl lv') (hsub : ∀ q ∈ lv', q ∈ lv) (h : yCf env F tl ls i r n fs = true) : fs = [] ∨ ∃ y : Int32, (r, Value.int y) ∈ lv' ∧ ∀ x : Int32, (i, Value.int x) ∈ lv' → ∀ f ∈ fs, yFs (yUp (yUp σ n x.toInt) (n + 1) y.toInt) f ≤ 0 := by
  unfold yCf at h
  rcases Bool.or_eq_true _ _ ▸ h with h | h
  · exact Or.inl (List.isEmpty_iff.mp h)
  · split at h
    · rename_i w vi vr hw hi hr
      simp only [Bool.and_eq_true] at h
      obtain ⟨⟨h1, h2⟩, h3⟩ := h
      obtain ⟨k1, v1, g1, -⟩ := xLg_ok hla' hw
      obtain ⟨k2, v2, g2, g3⟩ := xLg_ok hla hr
      obtain ⟨k4, v4, g4, g5⟩ := xLg_ok hla hi
      have e1 := yUniq hl (hsub _ (List.mem_of_getElem? g1)) (List.mem_of_getElem? g2)
      subst e1
      obtain ⟨y, rfl⟩ := xIsI_ok h2 g3
      refine Or.inr ⟨y, List.mem_of_getElem? g1, fun x hx f hf => ?_⟩
      have e2 := yUniq hl (List.mem_of_getElem? g4) (hsub _ hx)
      subst e2
      have h4 := List.all_eq_true.mp h3 f hf
      split at h4
      · rename_i e he
        have h5 := yEnt_ok hE hF h4
        have h6 := ySb_ok hE g5 g3 he
        unfold yFs at h5 h6 ⊢
        dsimp only at h5
        omega
      · cases h4
    · cases h
def yAt (N0 : Nat) (ann : List (Nat × List yAn)) (rec : yRc) (cuts : List yT) (loops : yLs) (env : List xI) (pc : Nat) (cur : List xEn) (ls : List (Nat × xV)) (st : List xV) (hp : xH) (nx cs ss : Nat) : Bool := match cuts.find? (fun T => T.1 == pc) with
  | some T => nx == N0 && cs == 0 && ss == 0 && yM env T ls st hp
  | none => (match loops.1.find? (fun L => L.1.1 == pc) with
    | some L => (nx == N0 && cs == 0 && ss == 0 && yM env L.1 ls st hp && yCnt env L ls && yCf env loops.2 L.1.2.2.1 ls L.2.1 L.2.2.2.2.1 L.2.2.2.1 L.2.2.2.2.2) || rec (some (match xAs pc ann with | some a => a | none => [])) cuts loops env pc cur ls st hp nx cs ss
    | none => rec (some (match xAs pc ann with | some a => a | none => [])) cuts loops env pc cur ls st hp nx cs ss)
theorem yAt_ok {ann : List (Nat × List yAn)} (I : yIH p l e R s m args below meth c Q D cy A ad0 nx0 nL N0 σ0 n0 M rec) {σ : Nat → Int} {cuts : List yT} {loops : yLs} {env : List xI} {pc : Nat} {cur : List xEn} {ls : List (Nat × xV)} {st : List xV} {hp : xH} {nx cs ss : Nat} (hE : yOkE σ env) (hH : yHy p l e R s m args below meth c Q D cy A ad0 nx0 nL N0 σ env.length cuts loops) (hZ : yZ σ0 n0 σ env.length) (hcur : ∀ q ∈ cur, q ∈ M.1) (h : yAt N0 ann rec cuts loops env pc cur ls st hp nx cs ss = true) : xGood p l e R s m args below meth c Q D cy (yη σ) A ad0 nx0 nL pc ls st hp nx cs ss := by
  unfold yAt at h
  split at h
  · rename_i T hT
    have hmem := List.mem_of_find?_eq_some hT
    have hpc : T.1 = pc := by simpa using List.find?_some hT
    simp only [Bool.and_eq_true, beq_iff_eq] at h
    obtain ⟨⟨⟨rfl, rfl⟩, rfl⟩, h4⟩ := h
    rw [← hpc]
    exact yM_good hE h4 ((hH.1 T hmem).2 σ fun _ _ => rfl) (fun _ _ _ _ _ _ _ _ => trivial)
  · split at h
    · rename_i L hL
      have hmem := List.mem_of_find?_eq_some hL
      have hpc : L.1.1 = pc := by simpa using List.find?_some hL
      rcases Bool.or_eq_true _ _ ▸ h with h | h
      rotate_left
      · exact I σ _ cuts loops env pc cur ls st hp nx cs ss hE hH hZ hcur h
      simp only [Bool.and_eq_true, beq_iff_eq] at h
      obtain ⟨⟨⟨⟨⟨rfl, rfl⟩, rfl⟩, h4⟩, h5⟩, hcf⟩ := h
      rw [← hpc]
      refine yM_good hE h4 ((hH.2.1 L hmem).2.2 σ fun _ _ => rfl) (fun ad lsC lv lv' hl hla hla' hsub => ?_)
      simp only [yCnt, Bool.and_eq_true] at h5
      obtain ⟨h5, h6⟩ := h5
      split at h5
      · rename_i a ha
        obtain ⟨k1, v1, g1, -⟩ := xLg_ok hla' ha
        split at h6
        · rename_i k hk
          simp only [Bool.and_eq_true, beq_iff_eq] at h6
          obtain ⟨⟨h7, h8⟩, h9⟩ := h6
          obtain ⟨k2, v2, g2, g3⟩ := xLg_ok hla hk
          have g3 : v2 = .int (yη σ k) := g3
          subst g3
          have m1 := List.mem_of_getElem? g1
          have e1 := hl.2.2 _ (hsub _ m1)
          have e2 := hl.2.2 _ (List.mem_of_getElem? g2)
          have e3 : v1 = .int (yη σ k) := by
            dsimp only at e1 e2
            rw [e1] at e2
            cases e2
            rfl
          subst e3
          split at h9
          · rename_i i hi
            have e4 := (yIv_ok hE hi).1
            rw [h7] at e4
            refine ⟨_, m1, fun hu => ?_, fun hu => ?_, ?_⟩
            · rw [hu, cond_true, decide_eq_true_eq] at h8
              rw [e4]; omega
            · rw [hu, cond_false, decide_eq_true_eq] at h8
              rw [e4]; omega
            · rcases yCf_ok hE (fun f hf => (hH.2.2 f hf).2) hl hla hla' hsub hcf with q | ⟨y, q1, q2⟩
              · exact Or.inl q
              · exact Or.inr ⟨y, q1, fun f hf => q2 _ m1 f hf⟩
          · cases h9
        · cases h6
      · cases h5
    · exact I σ _ cuts loops env pc cur ls st hp nx cs ss hE hH hZ hcur h
end YCU

/-! a contract over names, held below one invariant of the class's cells -/
def zyLe1 (env : List xI) : xV → xV → Bool
  | .inl i, .inl j => decide (j.1 ≤ i.1) && decide (i.2 ≤ j.2)
  | .inr (.inr (.inr n)), .inl j => (match env[yN n]? with
    | some e => (decide (j.1 ≤ e.1 + yO n) && decide (e.2 + yO n ≤ j.2)) && (decide (-2147483648 ≤ e.1 + yO n) && decide (e.2 + yO n ≤ 2147483647))
    | none => false)
  | .inr (.inl i), .inr (.inl j) => xLeL2 i j
  | .inr (.inr (.inl o)), .inr (.inr (.inl o')) => o == o'
  | _, _ => false
theorem zyη {σ0 : Nat → Int} {n : Nat} (h1 : -2147483648 ≤ σ0 (yN n) + yO n) (h2 : σ0 (yN n) + yO n ≤ 2147483647) : (yη σ0 n).toInt = σ0 (yN n) + yO n := by
  unfold yη
  rw [zw_of, zw_id h1 h2]
theorem zyLe1_ok {σ0 σ1 : Nat → Int} {env : List xI} (hE : yOkE σ0 env) {a b : xV} {τ : zeS} {k : Nat} {j : Int} (h : zyLe1 env a b = true) (g : zyF σ0 a τ k j) : zyF σ1 b τ k j := by
  unfold zyLe1 at h
  split at h
  · simp only [Bool.and_eq_true, decide_eq_true_eq] at h
    exact ⟨Int.le_trans h.1 g.1, Int.le_trans g.2 h.2⟩
  · split at h
    · rename_i e he
      simp only [Bool.and_eq_true, decide_eq_true_eq] at h
      obtain ⟨b1, b2⟩ := hE _ _ he
      have g : τ.1 k j = _ := g
      rw [zyη (by omega) (by omega)] at g
      exact ⟨by omega, by omega⟩
    · cases h
  · exact xLeL2_ok h g
  · rw [← eq_of_beq h]; exact g
  · cases h
def zyName (src : List (Nat ⊕ (Nat × Nat))) (n : Nat) : Option (Nat ⊕ (Nat × Nat)) := bif decide (yO n = 0) then src[yN n]? else none
def zyFull (i : xI) : Bool := decide (i.1 ≤ -2147483648) && decide (2147483647 ≤ i.2)
def zySub32 (i : xI) : Bool := decide (-2147483648 ≤ i.1) && decide (i.2 ≤ 2147483647)
def zyNo : xV → Bool
  | .inr (.inr (.inr _)) => false
  | _ => true
theorem zyF_no {σ0 σ1 : Nat → Int} {τ : zeS} {k : Nat} {j : Int} : ∀ {a : xV}, zyNo a = true → zyF σ0 a τ k j → zyF σ1 a τ k j
  | .inl _, _, h => h
  | .inr (.inl _), _, h => h
  | .inr (.inr (.inl _)), _, h => h
  | .inr (.inr (.inr _)), h, _ => by cases h
theorem zyAt_no {d : xV} (hd : zyNo d = true) : ∀ {ov : List (Nat × xV)} (i : Nat), ov.all (fun q => zyNo q.2) = true → zyNo (xAt d ov i) = true
  | [], _, _ => hd
  | q :: r, i, h => by
    rw [List.all_cons, Bool.and_eq_true] at h
    unfold xAt
    by_cases hq : (q.1 == i) = true
    · rw [hq, cond_true]; exact h.1
    · rw [show (q.1 == i) = false by simpa using hq, cond_false]; exact zyAt_no hd i h.2
/-- rows that are told alike, without names -/
def zyEqR (d d' : xV) (ov ov' : List (Nat × xV)) : Bool := zyNo d && (ov.all (fun q => zyNo q.2) && (decide (d = d') && decide (ov = ov')))
/-- a field of the invariant, below what a contract asks of it -/
def zyP1 (src : List (Nat ⊕ (Nat × Nat))) (c s : Nat) (g a : xV) : Bool := match a with
  | .inr (.inr (.inr n)) => (match g with
    | .inl i => zySub32 i && decide (zyName src n = some (.inr (c, s)))
    | _ => false)
  | _ => zyLe1 [] g a
def zyPL (src : List (Nat ⊕ (Nat × Nat))) (c : Nat) : Nat → List xV → List xV → Bool
  | _, [], [] => true
  | s, g :: gs, a :: as => zyP1 src c s g a && zyPL src c (s + 1) gs as
  | _, _, _ => false
def zyPE (src : List (Nat ⊕ (Nat × Nat))) (c : Nat) : xE → xE → Bool
  | .inl o, .inl o' => o.1 == o'.1 && zyPL src c 0 o.2 o'.2
  | .inr (t, n, d, ov), .inr (t', n', d', ov') => (t == t' && n == n') && (((ov.isEmpty && ov'.isEmpty) && zyLe1 [] d d') || zyEqR d d' ov ov')
  | _, _ => false
def zyQL (env : List xI) : List xV → List xV → Bool
  | [], [] => true
  | a :: as, g :: gs => zyLe1 env a g && zyQL env as gs
  | _, _ => false
def zyQE (env : List xI) : xE → xE → Bool
  | .inl o, .inl o' => o.1 == o'.1 && zyQL env o.2 o'.2
  | .inr (t, n, d, ov), .inr (t', n', d', ov') => (t == t' && n == n') && (((ov.isEmpty && ov'.isEmpty) && zyLe1 env d d') || zyEqR d d' ov ov')
  | _, _ => false
def zyGf (G : xH) (q : Nat × Nat) : Option xI := match xGet q.1 G with
  | some (.inl o) => (match o.2[q.2]? with
    | some (.inl i) => some i
    | _ => none)
  | _ => none
def zyEv (G : xH) : List (Nat ⊕ (Nat × Nat)) → List xI → Bool
  | [], [] => true
  | .inl _ :: ss, i :: is => zyFull i && zyEv G ss is
  | .inr q :: ss, i :: is => (match zyGf G q with
    | some g => decide (i.1 ≤ g.1) && decide (g.2 ≤ i.2)
    | none => false) && zyEv G ss is
  | _, _ => false
def zyAr (src : List (Nat ⊕ (Nat × Nat))) : Nat → List xV → Bool
  | _, [] => true
  | i, .inr (.inr (.inr n)) :: as => decide (zyName src n = some (.inl i)) && zyAr src (i + 1) as
  | _, _ => false
def zyKi : Option xV → Bool
  | some (.inl _) => true
  | some (.inr (.inr (.inr _))) => true
  | _ => false
def zyGk (G : xH) (k : yCo2) (src : List (Nat ⊕ (Nat × Nat))) : Bool := decide ((G.map (·.1)).Nodup) && (match k.1 with
  | .inr (.inr (.inl (some 4))) :: as => zyAr src 0 as
  | _ => false) && zyEv G src k.2.2.2.2.2 && k.2.1.all (fun q => match xGet q.1 G with
    | some g => zyPE src q.1 g q.2
    | none => false) && k.2.2.2.1.all (fun z => zyKi z.1 && z.2.1.all (fun q => match xGet q.1 G with
    | some g => zyQE z.2.2 q.2 g
    | none => false))
def zCI (G : xH) (σ : zeS) : Prop := ∀ q ∈ G, zyC (fun _ => 0) q.2 σ q.1
theorem xGet_mem {k : Nat} {e : xE} : ∀ {hp : xH}, xGet k hp = some e → (k, e) ∈ hp
  | [], h => by cases h
  | q :: r, h => by
    unfold xGet at h
    by_cases hq : (q.1 == k) = true
    · rw [hq, cond_true] at h
      cases h
      have e : q.1 = k := by simpa using hq
      rw [← e]
      exact List.mem_cons_self
    · rw [show (q.1 == k) = false by simpa using hq, cond_false] at h
      exact List.mem_cons_of_mem _ (xGet_mem h)
theorem zyF_sm {σ0 : Nat → Int} {σ τ : zeS} {k : Nat} (h : zeSm σ τ k) {a : xV} {j : Int} (g : zyF σ0 a σ k j) : zyF σ0 a τ k j := by
  obtain ⟨h1, h2, h3⟩ := h
  rcases a with i | i | o | n
  · show i.1 ≤ τ.1 k j ∧ τ.1 k j ≤ i.2
    rw [h1]; exact g
  · show xInL i (τ.2.1 k j)
    rw [h2]; exact g
  · show τ.2.2 k j = o ∧ _
    rw [h3]; exact g
  · show τ.1 k j = _
    rw [h1]; exact g
theorem zyC_sm {σ0 : Nat → Int} {σ τ : zeS} {k : Nat} (h : zeSm σ τ k) : ∀ {e : xE}, zyC σ0 e σ k → zyC σ0 e τ k
  | .inl _, g => fun j a ha => zyF_sm h (g j a ha)
  | .inr (_, _, _, _), g => fun i hi => zyF_sm h (g i hi)
noncomputable def zyS0 (src : List (Nat ⊕ (Nat × Nat))) (xs : List Int) (σ : zeS) (j : Nat) : Int := match src[j]? with
  | some (.inl i) => xs.getD i 0
  | some (.inr q) => σ.1 q.1 (q.2 : Int)
  | none => 0
theorem zyN0 {src : List (Nat ⊕ (Nat × Nat))} {n : Nat} {z : Nat ⊕ (Nat × Nat)} (h : zyName src n = some z) : yO n = 0 ∧ src[yN n]? = some z := by
  unfold zyName at h
  by_cases ho : yO n = 0
  · rw [decide_eq_true ho, cond_true] at h
    exact ⟨ho, h⟩
  · rw [decide_eq_false ho, cond_false] at h
    cases h
theorem zyEv_ok {G : xH} {σ : zeS} (hC : zCI G σ) {f : Nat → Int} : ∀ {src : List (Nat ⊕ (Nat × Nat))} {env : List xI}, zyEv G src env = true → (∀ (j : Nat), match src[j]? with
    | some (.inl _) => -2147483648 ≤ f j ∧ f j ≤ 2147483647
    | some (.inr q) => f j = σ.1 q.1 (q.2 : Int)
    | none => True) → yOkE f env := by
  intro src
  induction src generalizing f with
  | nil => intro env h _; cases env with
    | nil => exact fun j i hj => by simp at hj
    | cons e es => cases h
  | cons s ss ih =>
    intro env h hf
    cases env with
    | nil => cases s <;> cases h
    | cons e es =>
      have h0 := hf 0
      have hss : ∀ (j : Nat), match ss[j]? with
          | some (.inl _) => -2147483648 ≤ f (j + 1) ∧ f (j + 1) ≤ 2147483647
          | some (.inr q) => f (j + 1) = σ.1 q.1 (q.2 : Int)
          | none => True := fun j => by
        have := hf (j + 1)
        rw [List.getElem?_cons_succ] at this
        exact this
      cases s with
      | inl i =>
        simp only [zyEv, Bool.and_eq_true, zyFull, decide_eq_true_eq] at h
        intro j x hj
        cases j with
        | zero => cases hj; exact ⟨Int.le_trans h.1.1 h0.1, Int.le_trans h0.2 h.1.2⟩
        | succ j => rw [List.getElem?_cons_succ] at hj; exact ih (f := fun j => f (j + 1)) h.2 hss j x hj
      | inr q =>
        simp only [zyEv, Bool.and_eq_true] at h
        obtain ⟨h1, h2⟩ := h
        intro j x hj
        cases j with
        | zero =>
          cases hj
          split at h1
          · rename_i g hg
            simp only [Bool.and_eq_true, decide_eq_true_eq] at h1
            unfold zyGf at hg
            split at hg
            · rename_i o ho
              split at hg
              · rename_i i hi
                cases hg
                have hc := hC _ (xGet_mem ho)
                have hz := hc q.2 _ hi
                have h0 : f 0 = σ.1 q.1 (q.2 : Int) := h0
                exact ⟨by rw [h0]; exact Int.le_trans h1.1 hz.1, by rw [h0]; exact Int.le_trans hz.2 h1.2⟩
              · cases hg
            · cases hg
          · cases h1
        | succ j => rw [List.getElem?_cons_succ] at hj; exact ih (f := fun j => f (j + 1)) h2 hss j x hj
theorem zyPL_ok {src : List (Nat ⊕ (Nat × Nat))} {σ0 : Nat → Int} {σ : zeS} {c : Nat} (h0 : ∀ (j : Nat) (q : Nat × Nat), src[j]? = some (.inr q) → σ0 j = σ.1 q.1 (q.2 : Int)) : ∀ {gs as : List xV} {s : Nat}, zyPL src c s gs as = true → (∀ (j : Nat) (g : xV), gs[j]? = some g → zyF (fun _ => 0) g σ c ((s + j : Nat) : Int)) → ∀ (j : Nat) (a : xV), as[j]? = some a → zyF σ0 a σ c ((s + j : Nat) : Int)
  | [], [], _, _, _, j, a, ha => by simp at ha
  | g :: gs, a :: as, s, h, hg, j, b, hb => by
    simp only [zyPL, Bool.and_eq_true] at h
    cases j with
    | zero =>
      cases hb
      have hg0 := hg 0 g rfl
      unfold zyP1 at h
      obtain ⟨h1, -⟩ := h
      split at h1
      · rename_i n
        split at h1
        · rename_i i
          simp only [Bool.and_eq_true, zySub32, decide_eq_true_eq] at h1
          obtain ⟨o1, o2⟩ := zyN0 h1.2
          have e := h0 _ _ o2
          obtain ⟨q1, q2⟩ := hg0
          show σ.1 c ((s + 0 : Nat) : Int) = _
          rw [Nat.add_zero] at q1 q2 ⊢
          rw [zyη (by rw [o1, e]; dsimp only; omega) (by rw [o1, e]; dsimp only; omega), o1, e]
          dsimp only
          omega
        · cases h1
      · exact zyLe1_ok (fun _ _ h => by simp at h) h1 hg0
    | succ j =>
      rw [List.getElem?_cons_succ] at hb
      have := zyPL_ok h0 (s := s + 1) h.2 (fun j g hg' => by
        have := hg (j + 1) g (by rw [List.getElem?_cons_succ]; exact hg')
        rw [show s + (j + 1) = s + 1 + j by omega] at this
        exact this) j b hb
      rw [show s + (j + 1) = s + 1 + j by omega]
      exact this
  | [], _ :: _, _, h, _, _, _, _ => by simp [zyPL] at h
  | _ :: _, [], _, h, _, _, _, _ => by simp [zyPL] at h
theorem zyPE_ok {src : List (Nat ⊕ (Nat × Nat))} {σ0 : Nat → Int} {σ : zeS} {c : Nat} (h0 : ∀ (j : Nat) (q : Nat × Nat), src[j]? = some (.inr q) → σ0 j = σ.1 q.1 (q.2 : Int)) : ∀ {g e : xE}, zyPE src c g e = true → zyC (fun _ => 0) g σ c → zyC σ0 e σ c
  | .inl o, .inl o', h, hg => by
    simp only [zyPE, Bool.and_eq_true] at h
    intro j a ha
    have := zyPL_ok h0 (s := 0) h.2 (fun j g hj => by rw [Nat.zero_add]; exact hg j g hj) j a ha
    rw [Nat.zero_add] at this
    exact this
  | .inr (t, n, d, ov), .inr (t', n', d', ov'), h, hg => by
    simp only [zyPE, Bool.and_eq_true, Bool.or_eq_true, List.isEmpty_iff, beq_iff_eq] at h
    obtain ⟨⟨h1, h2⟩, ⟨⟨h3, h4⟩, h5⟩ | h6⟩ := h
    · subst h3 h4 h2
      intro i hi
      exact zyLe1_ok (fun _ _ h => by simp at h) h5 (hg i hi)
    · simp only [zyEqR, Bool.and_eq_true, decide_eq_true_eq] at h6
      obtain ⟨n1, n2, h3, h4⟩ := h6
      subst h3 h4 h2
      intro i hi
      exact zyF_no (zyAt_no n1 i n2) (hg i hi)
  | .inl _, .inr _, h, _ => by simp [zyPE] at h
  | .inr _, .inl _, h, _ => by simp [zyPE] at h
theorem zyQL_ok {env : List xI} {σ0 : Nat → Int} (hE : yOkE σ0 env) {τ : zeS} {c : Nat} : ∀ {as gs : List xV} {s : Nat}, zyQL env as gs = true → (∀ (j : Nat) (a : xV), as[j]? = some a → zyF σ0 a τ c ((s + j : Nat) : Int)) → ∀ (j : Nat) (g : xV), gs[j]? = some g → zyF (fun _ => 0) g τ c ((s + j : Nat) : Int)
  | [], [], _, _, _, j, a, ha => by simp at ha
  | a :: as, g :: gs, s, h, ha, j, b, hb => by
    simp only [zyQL, Bool.and_eq_true] at h
    cases j with
    | zero => cases hb; exact zyLe1_ok hE h.1 (ha 0 a rfl)
    | succ j =>
      rw [List.getElem?_cons_succ] at hb
      have := zyQL_ok hE (s := s + 1) h.2 (fun j g hg' => by
        have := ha (j + 1) g (by rw [List.getElem?_cons_succ]; exact hg')
        rw [show s + (j + 1) = s + 1 + j by omega] at this
        exact this) j b hb
      rw [show s + (j + 1) = s + 1 + j by omega]
      exact this
  | [], _ :: _, _, h, _, _, _, _ => by simp [zyQL] at h
  | _ :: _, [], _, h, _, _, _, _ => by simp [zyQL] at h
theorem zyQE_ok {env : List xI} {σ0 : Nat → Int} (hE : yOkE σ0 env) {τ : zeS} {c : Nat} : ∀ {e g : xE}, zyQE env e g = true → zyC σ0 e τ c → zyC (fun _ => 0) g τ c
  | .inl o, .inl o', h, he => by
    simp only [zyQE, Bool.and_eq_true] at h
    intro j a ha
    have := zyQL_ok hE (s := 0) h.2 (fun j g hj => by rw [Nat.zero_add]; exact he j g hj) j a ha
    rw [Nat.zero_add] at this
    exact this
  | .inr (t, n, d, ov), .inr (t', n', d', ov'), h, he => by
    simp only [zyQE, Bool.and_eq_true, Bool.or_eq_true, List.isEmpty_iff, beq_iff_eq] at h
    obtain ⟨⟨h1, h2⟩, ⟨⟨h3, h4⟩, h5⟩ | h6⟩ := h
    · subst h3 h4 h2
      intro i hi
      exact zyLe1_ok hE h5 (he i hi)
    · simp only [zyEqR, Bool.and_eq_true, decide_eq_true_eq] at h6
      obtain ⟨n1, n2, h3, h4⟩ := h6
      subst h3 h4 h2
      intro i hi
      exact zyF_no (zyAt_no n1 i n2) (he i hi)
  | .inl _, .inr _, h, _ => by simp [zyQE] at h
  | .inr _, .inl _, h, _ => by simp [zyQE] at h
theorem zyAr_ok {src : List (Nat ⊕ (Nat × Nat))} {σ : zeS} {xs : List Int} (hx : ∀ x ∈ xs, -2147483648 ≤ x ∧ x ≤ 2147483647) : ∀ {as : List xV} {ys : List Int} {i : Nat}, zyAr src i as = true → ys.length = as.length → (∀ (j : Nat) (y : Int), ys[j]? = some y → xs[i + j]? = some y) → xAll (zyV (zyS0 src xs σ)) as (ys.map Sum.inl)
  | [], [], _, _, _, _ => trivial
  | [], _ :: _, _, _, h, _ => by cases h
  | _ :: _, [], _, _, h, _ => by cases h
  | a :: as, y :: ys, i, h, hl, hj => by
    rcases a with q | q | q | n
    · simp [zyAr] at h
    · simp [zyAr] at h
    · simp [zyAr] at h
    · have h : (decide (zyName src n = some (.inl i)) && zyAr src (i + 1) as) = true := h
      rw [Bool.and_eq_true, decide_eq_true_eq] at h
      obtain ⟨o1, o2⟩ := zyN0 h.1
      have hy := hj 0 y rfl
      rw [Nat.add_zero] at hy
      have e : zyS0 src xs σ (yN n) = y := by
        unfold zyS0
        rw [o2]
        show xs.getD i 0 = y
        rw [List.getD_eq_getElem?_getD, hy]; rfl
      have hr := hx y (List.mem_of_getElem? hy)
      refine ⟨?_, zyAr_ok hx (i := i + 1) h.2 (by simpa using hl) (fun j y' hy' => by
        rw [show i + 1 + j = i + (j + 1) by omega]
        exact hj (j + 1) y' (by rw [List.getElem?_cons_succ]; exact hy'))⟩
      show y = (yη _ n).toInt
      rw [zyη (by rw [e, o1]; omega) (by rw [e, o1]; omega), e, o1]
      omega
set_option maxHeartbeats 1000000 in
theorem zyG {M : xM} {k : yCo2} (hk : yHolds M k) {dom : zeD} (hnd : zeNd dom = true) (hok : zyOk dom k = true) {rm : Nat × Nat} (hrm : k.2.2.2.2.1 = (rm.1, rm.2, 0, 0)) {G : xH} {src : List (Nat ⊕ (Nat × Nat))} (hg : zyGk G k src = true) {xs : List Int} {σ : zeS} {Q : Option zeV → zeS → Prop} (hl : xs.length + 1 = k.1.length) (hx : ∀ x ∈ xs, -2147483648 ≤ x ∧ x ≤ 2147483647) (hC : zCI G σ)
    (hQ : ∀ z ∈ k.2.2.2.1, ∀ (r : Int) (τ : zeS), zCI G τ → (∀ k', ¬ k' ∈ k.2.1.map (·.1) → zeSm σ τ k') → yOkE (zyS0 src xs σ) z.2.2 → zyRt (zyS0 src xs σ) z.1 (some (.inl r)) → (∀ q ∈ z.2.1, zyC (zyS0 src xs σ) q.2 τ q.1) → Q (some (.inl r)) τ) : zeMet M rm dom (.inr (.inr (some 4)) :: xs.map Sum.inl) σ Q := by
  simp only [zyGk, Bool.and_eq_true, decide_eq_true_eq, List.all_eq_true] at hg
  obtain ⟨⟨⟨⟨hG, ha⟩, he⟩, hp⟩, hq⟩ := hg
  have hE : yOkE (zyS0 src xs σ) k.2.2.2.2.2 := zyEv_ok hC he (fun j => by
    unfold zyS0
    cases hs : src[j]? with
    | none => trivial
    | some z => cases z with
      | inl i =>
        show -2147483648 ≤ xs.getD i 0 ∧ xs.getD i 0 ≤ 2147483647
        rw [List.getD_eq_getElem?_getD]
        cases hi : xs[i]? with
        | none => exact ⟨by decide, by decide⟩
        | some x => exact hx x (List.mem_of_getElem? hi)
      | inr q => rfl)
  have h0 : ∀ (j : Nat) (q : Nat × Nat), src[j]? = some (.inr q) → zyS0 src xs σ j = σ.1 q.1 (q.2 : Int) := fun j q hj => by
    unfold zyS0
    rw [hj]
  have has : xAll (zyV (zyS0 src xs σ)) k.1 (.inr (.inr (some 4)) :: xs.map Sum.inl) := by
    revert ha hl
    generalize k.1 = ks
    intro hl ha
    split at ha
    · rename_i as
      exact ⟨⟨rfl, fun k h => by cases h; decide⟩, zyAr_ok hx (i := 0) ha (by simpa using hl) (fun j y hy => by rw [Nat.zero_add]; exact hy)⟩
    · cases ha
  refine zyM hk hnd hok hrm (zyS0 src xs σ) hE has (fun q hq' => ?_) (fun z hz r τ t1 t2 t3 t4 => ?_)
  · have := hp q hq'
    split at this
    · rename_i g hgq
      exact zyPE_ok h0 this (hC _ (xGet_mem hgq))
    · cases this
  · obtain ⟨hki, hqz⟩ := hq z hz
    have hr : ∃ x : Int, r = some (.inl x) := by
      revert hki t2
      generalize z.1 = zo
      intro t2 hki
      cases r with
      | none => cases zo with
        | none => cases hki
        | some a => exact t2.elim
      | some v => cases v with
        | inl v => exact ⟨v, rfl⟩
        | inr v => cases zo with
          | none => cases hki
          | some a =>
            rcases a with a | a | a | a
            · exact t2.elim
            · cases hki
            · cases hki
            · exact t2.elim
    obtain ⟨x, rfl⟩ := hr
    refine hQ z hz x τ (fun q hqG => ?_) t4 t1 t2 t3
    simp only [zyOk, Bool.and_eq_true, beq_iff_eq, decide_eq_true_eq, List.all_eq_true] at hok
    have hids : z.2.1.map (·.1) = k.2.1.map (·.1) := by
      have e := congrArg (List.map (·.1)) (hok.2 z hz).1
      rw [List.map_map, List.map_map] at e
      exact e
    by_cases hin : q.1 ∈ k.2.1.map (·.1)
    · rw [← hids] at hin
      obtain ⟨q', hq', hqq⟩ := List.mem_map.mp hin
      have h1 := hqz q' hq'
      split at h1
      · rename_i g hgq
        have e := zyU hG (xGet_mem hgq) hqG hqq
        have := zyQE_ok t1 h1 (t3 q' hq')
        rw [← e]
        exact this
      · cases h1
    · exact zyC_sm (t4 q.1 hin) (hC q hqG)

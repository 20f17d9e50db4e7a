/-! what the next exact contracts of the class want: the invariant where one place is written -/
theorem zyF_at {σ0 : Nat → Int} {σ τ : zeS} {k : Nat} {j : Int} (h1 : τ.1 k j = σ.1 k j) (h2 : τ.2.1 k j = σ.2.1 k j) (h3 : τ.2.2 k j = σ.2.2 k j) {a : xV} (g : zyF σ0 a σ k j) : zyF σ0 a τ k j := by
  rcases a with i | i | o | n
  · show i.1 ≤ τ.1 k j ∧ τ.1 k j ≤ i.2
    rw [h1]; exact g
  · show xInL i (τ.2.1 k j)
    rw [h2]; exact g
  · show τ.2.2 k j = o ∧ _
    rw [h3]; exact g
  · show τ.1 k j = _
    rw [h1]; exact g
theorem zGcN : (zGc.map (·.1)).Nodup := by decide +kernel
theorem zCI_fld {σ : zeS} (h : zCI zGc σ) {k j : Nat} {v lo hi : Int} {o : Nat × List xV} (hm : (k, (.inl o : xE)) ∈ zGc) (hj : o.2[j]? = some (.inl (lo, hi))) (h0 : lo ≤ v) (h1 : v ≤ hi) : zCI zGc (zuI σ k (j : Int) v) := fun q hq => by
  by_cases hk : q.1 = k
  · have e := zyU zGcN hq hm hk
    have hc := h q hq
    subst e
    intro j' a ha
    by_cases hjj : j' = j
    · subst hjj
      rw [hj] at ha
      cases ha
      show lo ≤ (if k = k ∧ ((j' : Int)) = (j' : Int) then v else σ.1 k (j' : Int)) ∧ (if k = k ∧ ((j' : Int)) = (j' : Int) then v else σ.1 k (j' : Int)) ≤ hi
      rw [if_pos ⟨rfl, rfl⟩]
      exact ⟨h0, h1⟩
    · refine zyF_at (σ := σ) (τ := zuI σ k (j : Int) v) ?_ rfl rfl (hc j' a ha)
      show (if k = k ∧ ((j' : Int)) = (j : Int) then v else σ.1 k (j' : Int)) = _
      rw [if_neg (fun z => hjj (Int.ofNat.inj z.2))]
  · exact zyC_sm (zuI_sm hk) (h q hq)
theorem zCI_row {σ : zeS} (h : zCI zGc σ) {k t n : Nat} {i v lo hi : Int} (hm : (k, (.inr (t, n, .inl (lo, hi), []) : xE)) ∈ zGc) (h0 : lo ≤ v) (h1 : v ≤ hi) : zCI zGc (zuI σ k i v) := fun q hq => by
  by_cases hk : q.1 = k
  · have e := zyU zGcN hq hm hk
    have hc := h q hq
    subst e
    intro j hj
    have hc := hc j hj
    have hc : lo ≤ σ.1 k (j : Int) ∧ σ.1 k (j : Int) ≤ hi := hc
    show lo ≤ (if k = k ∧ ((j : Int)) = i then v else σ.1 k (j : Int)) ∧ (if k = k ∧ ((j : Int)) = i then v else σ.1 k (j : Int)) ≤ hi
    by_cases hji : ((j : Int)) = i
    · rw [if_pos ⟨rfl, hji⟩]; exact ⟨h0, h1⟩
    · rw [if_neg (fun z => hji z.2)]; exact hc
  · exact zyC_sm (zuI_sm hk) (h q hq)
theorem zRIL (Q : Option zeV → zeS → Prop) (x : Int) (σ : zeS) : zeRr (some .int) Q (some (.inl x)) σ = Q (some (.inl x)) σ := rfl
theorem zTminL {own : String} {Mi : xMi} {rm : Nat × Nat} {i : Nat} {T : zeT} (hrm : 1 ≤ rm.1 ∧ 40 ≤ rm.2) (hi : (i, 1) ∈ Mi.2.2.2.2.2) (hT : ∀ as σ Q, T as σ Q → ∃ a b : Int, as = [.inl a, .inl b] ∧ Q (some (.inl (min a b))) σ) : zeTok own Mi rm zdL (i + 100000, 2, T) := Or.inr (Or.inr (Or.inl ⟨i, rfl, rfl, hrm.1, hrm.2, Or.inl ⟨hi, hT⟩⟩))
theorem zTmaxL {own : String} {Mi : xMi} {rm : Nat × Nat} {i : Nat} {T : zeT} (hrm : 1 ≤ rm.1 ∧ 40 ≤ rm.2) (hi : (i, 2) ∈ Mi.2.2.2.2.2) (hT : ∀ as σ Q, T as σ Q → ∃ a b : Int, as = [.inl a, .inl b] ∧ Q (some (.inl (max a b))) σ) : zeTok own Mi rm zdL (i + 100000, 2, T) := Or.inr (Or.inr (Or.inl ⟨i, rfl, rfl, hrm.1, hrm.2, Or.inr ⟨hi, hT⟩⟩))
theorem zdL_20 : zeLy 20 zdL = some (.inl 0) := by decide +kernel
theorem zdL_23 : zeLy 23 zdL = some (.inl 3) := by decide +kernel
theorem zdL_24 : zeLy 24 zdL = some (.inr (1, 24)) := by decide +kernel
theorem zdL_37 : zeLy 37 zdL = some (.inr (4, 2)) := by decide +kernel
theorem zdL_64 : zeLy 64 zdL = some (.inl 0) := by decide +kernel
theorem zdL_81 : zeLy 81 zdL = some (.inl 0) := by decide +kernel
theorem zGr4_3 {σ : zeS} (h : zCI zGc σ) : σ.2.2 4 3 = some 20 := by
  have hm : ∃ e, (4, e) ∈ zGc ∧ ∃ o, e = .inl o ∧ o.2[3]? = some (.inr (.inr (.inl (some 20)))) := ⟨_, List.mem_of_getElem? (i := 0) rfl, _, rfl, rfl⟩
  obtain ⟨e, h1, o, rfl, h2⟩ := hm
  exact (h _ h1 3 _ h2).1
theorem zGr20_2 {σ : zeS} (h : zCI zGc σ) : σ.2.2 20 2 = some 23 := by
  have hm : ∃ e, (20, e) ∈ zGc ∧ ∃ o, e = .inl o ∧ o.2[2]? = some (.inr (.inr (.inl (some 23)))) := ⟨_, List.mem_of_getElem? (i := 16) rfl, _, rfl, rfl⟩
  obtain ⟨e, h1, o, rfl, h2⟩ := hm
  exact (h _ h1 2 _ h2).1
theorem zGr23_0 {σ : zeS} (h : zCI zGc σ) : σ.2.2 23 0 = some 24 := by
  have hm : ∃ e, (23, e) ∈ zGc ∧ ∃ o, e = .inl o ∧ o.2[0]? = some (.inr (.inr (.inl (some 24)))) := ⟨_, List.mem_of_getElem? (i := 19) rfl, _, rfl, rfl⟩
  obtain ⟨e, h1, o, rfl, h2⟩ := hm
  exact (h _ h1 0 _ h2).1
theorem zGr4_4 {σ : zeS} (h : zCI zGc σ) : σ.2.2 4 4 = some 37 := by
  have hm : ∃ e, (4, e) ∈ zGc ∧ ∃ o, e = .inl o ∧ o.2[4]? = some (.inr (.inr (.inl (some 37)))) := ⟨_, List.mem_of_getElem? (i := 0) rfl, _, rfl, rfl⟩
  obtain ⟨e, h1, o, rfl, h2⟩ := hm
  exact (h _ h1 4 _ h2).1

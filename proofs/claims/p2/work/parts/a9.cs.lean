/-! the law's cases -/
theorem zWs1 (L : Nat) (f : Nat → Int32) (code : List zeEn) (cs : List zeC) (dom : zeD) (cuts : List (Nat × List Nat)) (G H : zeG) (R : Option zeV → zeS → Prop) (n : Nat) (q : zeEn) (nxt : List zeEn) (ls : zeLs) (st : List zeV) (σ : zeS) : zeWs L f code cs dom cuts G H R (n + 1) (q :: nxt) ls st σ = zeDos L f cs dom q.2.1 ls st σ
    (fun ls st σ => match zeCt cuts (q.1 + q.2.2) with
      | some js => H (q.1 + q.2.2) (zePj js ls) st σ
      | none => zeWs L f code cs dom cuts G H R n nxt ls st σ)
    (fun t ls st σ => match zeCt cuts t.toNat with
      | some js => H t.toNat (zePj js ls) st σ
      | none => zeWs L f code cs dom cuts G H R n (zeSk t.toNat code) ls st σ) R := rfl
theorem zWs0 (L : Nat) (f : Nat → Int32) (code : List zeEn) (cs : List zeC) (dom : zeD) (cuts : List (Nat × List Nat)) (G H : zeG) (R : Option zeV → zeS → Prop) (q : zeEn) (nxt : List zeEn) (ls : zeLs) (st : List zeV) (σ : zeS) : zeWs L f code cs dom cuts G H R 0 (q :: nxt) ls st σ = G q.1 ls st σ := rfl
def zLI (σ : zeS) : Prop := zCI zGc σ ∧ zGI σ ∧ σ.1 5 1 = σ.1 98 12
theorem zGi_lt : ∀ k ∈ zGi, k < 98 := by decide +kernel
theorem zGi_5 : 5 ∈ zGi := by decide +kernel
theorem zF98 {σ τ : zeS} (h : ∀ k', ¬ k' ∈ zGi → zeSm σ τ k') : τ.1 98 12 = σ.1 98 12 := (h 98 (fun z => absurd (zGi_lt _ z) (by decide))).1 12
theorem zF5 {σ τ : zeS} (h : ∀ k', k' < 98 ∨ 126 < k' → zeSm σ τ k') : τ.1 5 1 = σ.1 5 1 := (h 5 (by decide)).1 1
theorem zG_c {σ τ : zeS} (h : ∀ k', ¬ k' ∈ zGi → zeSm σ τ k') (g : zGI σ) : zGI τ := zGI_sm (fun k h1 _ => h k (fun z => by have := zGi_lt _ z; omega)) g
theorem zC_m {σ τ : zeS} (h : ∀ k', k' < 98 ∨ 126 < k' → zeSm σ τ k') (g : zCI zGc σ) : zCI zGc τ := fun q hq => zyC_sm (h q.1 (Or.inl (zGi_lt _ (by rw [← zGi_eq]; exact List.mem_map.mpr ⟨q, hq, rfl⟩)))) (g q hq)
theorem zLk {σ τ τ' : zeS} (hI : zLI σ) (h1 : zCI zGc τ) (h2 : ∀ k', ¬ k' ∈ zGi → zeSm σ τ k') (h3 : pK σ τ) (h4 : zGI τ') (h5 : ∀ k', k' < 98 ∨ 126 < k' → zeSm τ τ' k') (h6 : qK τ τ') : zLI τ' := ⟨zC_m h5 h1, h4, by
  have a := zF5 h5
  have b := zF98 h2
  have c := hI.2.2
  have h3 : τ.1 5 1 = σ.1 5 1 := h3
  have h6 : τ'.1 98 12 = τ.1 98 12 := h6
  omega⟩
theorem zLz {σ τ τ' : zeS} (h1 : zCI zGc τ) (h3 : pZ σ τ) (h4 : zGI τ') (h5 : ∀ k', k' < 98 ∨ 126 < k' → zeSm τ τ' k') (h6 : qZ τ τ') : zLI τ' := ⟨zC_m h5 h1, h4, by
  have a := zF5 h5
  have h3 : τ.1 5 1 = 0 := h3
  have h6 : τ'.1 98 12 = 0 := h6
  omega⟩
theorem zLi {τ τ' : zeS} (h1 : zCI zGc τ) (h4 : zGI τ') (h5 : ∀ k', k' < 98 ∨ 126 < k' → zeSm τ τ' k') (he : τ.1 5 1 = τ'.1 98 12) : zLI τ' := ⟨zC_m h5 h1, h4, by
  have a := zF5 h5
  omega⟩
theorem zGI_5 {σ : zeS} (h : zGI σ) (n : Int) : zGI (zuI σ 5 1 n) := zGI_sm (fun k h1 _ => zuI_sm (by omega)) h
theorem zyI1 (σ : zeS) (k : Nat) (i v : Int) (k' : Nat) (i' : Int) : (zuI σ k i v).1 k' i' = if k' = k ∧ i' = i then v else σ.1 k' i' := rfl
theorem z98_51 (σ : zeS) (n : Int) : (zuI σ 5 1 n).1 98 12 = σ.1 98 12 := by rw [zyI1, if_neg (fun z => absurd z.1 (by decide))]
theorem z51_51 (σ : zeS) (n : Int) : (zuI σ 5 1 n).1 5 1 = n := by rw [zyI1, if_pos ⟨rfl, rfl⟩]
theorem zLen {σ τ' : zeS} {n : Int} (hC : zCI zGc σ) (h5 : ∀ k', k' < 98 ∨ 126 < k' → zeSm (zuI σ 5 1 n) τ' k') (h0 : 0 ≤ n) (h1 : n ≤ 80) (h4 : zGI τ') (he : n = τ'.1 98 12) : zLI τ' := zLi (zCI_51 hC h0 h1) h4 h5 (by rw [z51_51]; exact he)
theorem zTvL {own : String} {Mi : xMi} {rm rm' : Nat × Nat} {i npar cl : Nat} {M' : xM} {n : Nat} {T : zeT} (h : xCok own (i, 0, npar, M', cl)) (hi : i < 100000) (hn : n = npar + 1) (hrm : rm'.1 + 1 ≤ rm.1 ∧ 8 + (M'.2.2.1 + 11) + rm'.2 ≤ rm.2) (hT : ∀ as σ Q, T as σ Q → (∃ k, as.head? = some (.inr (.inr (some k))) ∧ zeLy k zdL = some (.inl cl)) ∧ zeMet M' rm' zdL as σ Q) : zeTok own Mi rm zdL (i, n, T) := Or.inl ⟨npar, M', cl, rm', hi, h, hn, hrm, hT⟩
abbrev zRl : Nat × Nat := (2048, 84000)

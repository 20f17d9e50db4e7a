/-! the law's cases -/
theorem zWs1 (L : Nat) (f : Nat → Int32) (code : List zeEn) (cs : List zeC) (dom : zeD) (cuts : List (Nat × List Nat)) (G H : zeG) (R : Option zeV → zeS → Prop) (n : Nat) (q : zeEn) (nxt : List zeEn) (ls : zeLs) (st : List zeV) (σ : zeS) : zeWs L f code cs dom cuts G H R (n + 1) (q :: nxt) ls st σ = zeDos L f cs dom q.2.1 ls st σ
    (fun ls st σ => match zeCt cuts (q.1 + q.2.2) with
      | some js => H (q.1 + q.2.2) (zePj js ls) st σ
      | none => zeWs L f code cs dom cuts G H R n nxt ls st σ)
    (fun t ls st σ => match zeCt cuts t.toNat with
      | some js => H t.toNat (zePj js ls) st σ
      | none => zeWs L f code cs dom cuts G H R n (zeSk t.toNat code) ls st σ) R := rfl
theorem zWs0 (L : Nat) (f : Nat → Int32) (code : List zeEn) (cs : List zeC) (dom : zeD) (cuts : List (Nat × List Nat)) (G H : zeG) (R : Option zeV → zeS → Prop) (q : zeEn) (nxt : List zeEn) (ls : zeLs) (st : List zeV) (σ : zeS) : zeWs L f code cs dom cuts G H R 0 (q :: nxt) ls st σ = G q.1 ls st σ := rfl
/-- the signs of the two texts are one (the reference's are bytes) -/
def zTxt (σ : zeS) : Prop := ∀ i : Int, 0 ≤ i → i < σ.1 5 1 → σ.1 6 i = σ.1 104 i % 256
def zLI (σ : zeS) : Prop := zCI zGc σ ∧ zGI σ ∧ σ.1 5 1 = σ.1 98 12 ∧ zTxt σ
theorem zGi_lt : ∀ k ∈ zGi, k < 98 := by decide +kernel
theorem zGi_5 : 5 ∈ zGi := by decide +kernel
theorem zF98 {σ τ : zeS} (h : ∀ k', ¬ k' ∈ zGi → zeSm σ τ k') : τ.1 98 12 = σ.1 98 12 := (h 98 (fun z => absurd (zGi_lt _ z) (by decide))).1 12
theorem zF5 {σ τ : zeS} (h : ∀ k', k' < 98 ∨ 126 < k' → zeSm σ τ k') : τ.1 5 1 = σ.1 5 1 := (h 5 (by decide)).1 1
theorem zG_c {σ τ : zeS} (h : ∀ k', ¬ k' ∈ zGi → zeSm σ τ k') (g : zGI σ) : zGI τ := zGI_sm (fun k h1 _ => h k (fun z => by have := zGi_lt _ z; omega)) g
theorem zC_m {σ τ : zeS} (h : ∀ k', k' < 98 ∨ 126 < k' → zeSm σ τ k') (g : zCI zGc σ) : zCI zGc τ := fun q hq => zyC_sm (h q.1 (Or.inl (zGi_lt _ (by rw [← zGi_eq]; exact List.mem_map.mpr ⟨q, hq, rfl⟩)))) (g q hq)
theorem zX6 {σ τ : zeS} (h : ∀ k', k' < 98 ∨ 126 < k' → zeSm σ τ k') (i : Int) : τ.1 6 i = σ.1 6 i := (h 6 (by decide)).1 i
theorem zX104 {σ τ : zeS} (h : ∀ k', ¬ k' ∈ zGi → zeSm σ τ k') (i : Int) : τ.1 104 i = σ.1 104 i := (h 104 (fun z => absurd (zGi_lt _ z) (by decide))).1 i
theorem zLk {σ τ τ' : zeS} (hI : zLI σ) (h1 : zCI zGc τ) (h2 : ∀ k', ¬ k' ∈ zGi → zeSm σ τ k') (h3 : pK σ τ) (h4 : zGI τ') (h5 : ∀ k', k' < 98 ∨ 126 < k' → zeSm τ τ' k') (h6 : qK τ τ') : zLI τ' := by
  have a := zF5 h5
  have b := zF98 h2
  have c := hI.2.2.1
  have d := h3.1
  have e : τ'.1 98 12 = τ.1 98 12 := h6.1
  refine ⟨zC_m h5 h1, h4, by omega, fun i i0 i1 => ?_⟩
  have e6 : τ'.1 104 i = τ.1 104 i := h6.2 i
  rw [zX6 h5 i, h3.2 i, e6, zX104 h2 i]
  exact hI.2.2.2 i i0 (by omega)
theorem zLz {σ τ τ' : zeS} (h1 : zCI zGc τ) (h3 : pZ σ τ) (h4 : zGI τ') (h5 : ∀ k', k' < 98 ∨ 126 < k' → zeSm τ τ' k') (h6 : qZ τ τ') : zLI τ' := by
  have a := zF5 h5
  have h3 : τ.1 5 1 = 0 := h3
  have h6 : τ'.1 98 12 = 0 := h6
  exact ⟨zC_m h5 h1, h4, by omega, fun i i0 i1 => by omega⟩
theorem zLr {τ τ' : zeS} (hI : zLI τ) (h4 : zGI τ') (h5 : ∀ k', k' < 98 ∨ 126 < k' → zeSm τ τ' k') (h6 : zKe τ τ') : zLI τ' := zLk hI hI.1 (fun _ _ => ⟨fun _ => rfl, fun _ => rfl, fun _ => rfl⟩) ⟨rfl, fun _ => rfl⟩ h4 h5 h6
theorem zLsg {σ τ τ' : zeS} {v : Int} (hI : zLI σ) (h1 : zCI zGc τ) (h2 : zFrT σ τ) (h3 : τ.1 5 1 = σ.1 5 1 + 4) (h4 : ∀ i : Int, ¬ (σ.1 5 1 ≤ i ∧ i < σ.1 5 1 + 4) → τ.1 6 i = σ.1 6 i) (h5 : ∀ j : Int, 0 ≤ j → j < 4 → τ.1 6 (σ.1 5 1 + j) = zBc v j) (g1 : zGI τ') (g2 : ∀ k', k' < 98 ∨ 126 < k' → zeSm τ τ' k') (g3 : τ'.1 98 12 = τ.1 98 12 + 4) (g4 : ∀ i : Int, ¬ (τ.1 98 12 ≤ i ∧ i < τ.1 98 12 + 4) → τ'.1 104 i = τ.1 104 i) (g5 : ∀ j : Int, 0 ≤ j → j < 4 → τ'.1 104 (τ.1 98 12 + j) = zByR v (3 - j)) : zLI τ' := by
  have a := zF5 g2
  have b : τ.1 98 12 = σ.1 98 12 := (h2 98 (by decide) (by decide)).1 12
  have c := hI.2.2.1
  refine ⟨zC_m g2 h1, g1, by omega, fun i i0 i1 => ?_⟩
  rw [zX6 g2 i]
  by_cases hi : i < σ.1 5 1
  · have e : τ.1 104 i = σ.1 104 i := (h2 104 (by decide) (by decide)).1 i
    rw [h4 i (by omega), g4 i (by omega), e]
    exact hI.2.2.2 i i0 hi
  · have e1 := h5 (i - σ.1 5 1) (by omega) (by omega)
    have e2 := g5 (i - σ.1 5 1) (by omega) (by omega)
    rw [show σ.1 5 1 + (i - σ.1 5 1) = i by omega] at e1
    rw [show τ.1 98 12 + (i - σ.1 5 1) = i by omega] at e2
    rw [e1, e2]
    exact zBcr v _ (by omega) (by omega)
theorem zGI_5 {σ : zeS} (h : zGI σ) (n : Int) : zGI (zuI σ 5 1 n) := zGI_sm (fun k h1 _ => zuI_sm (by omega)) h
theorem zyI1 (σ : zeS) (k : Nat) (i v : Int) (k' : Nat) (i' : Int) : (zuI σ k i v).1 k' i' = if k' = k ∧ i' = i then v else σ.1 k' i' := rfl
theorem z98_51 (σ : zeS) (n : Int) : (zuI σ 5 1 n).1 98 12 = σ.1 98 12 := by rw [zyI1, if_neg (fun z => absurd z.1 (by decide))]
theorem z51_51 (σ : zeS) (n : Int) : (zuI σ 5 1 n).1 5 1 = n := by rw [zyI1, if_pos ⟨rfl, rfl⟩]
theorem zLke {σ τ τ' : zeS} (hI : zLI σ) (h1 : zCI zGc τ) (h2 : zFrK σ τ) (h4 : zGI τ') (h5 : ∀ k', k' < 98 ∨ 126 < k' → zeSm τ τ' k') (h6 : zKe τ τ') : zLI τ' := zLk hI h1 h2.1 ⟨h2.2.1.1 1, h2.2.2.1⟩ h4 h5 h6
theorem z104_51 (σ : zeS) (n i : Int) : (zuI σ 5 1 n).1 104 i = σ.1 104 i := by rw [zyI1, if_neg (fun z => absurd z.1 (by decide))]
theorem zLen {σ τ' : zeS} {n : Int} (hI : zLI σ) (h5 : ∀ k', k' < 98 ∨ 126 < k' → zeSm (zuI σ 5 1 n) τ' k') (h0 : 0 ≤ n) (h1 : n ≤ σ.1 5 1) (h4 : zGI τ') (he : τ'.1 98 12 = n) (hr : ∀ i : Int, τ'.1 104 i = σ.1 104 i) : zLI τ' := by
  have h80 := zG51 hI.1
  have a := zF5 h5
  rw [z51_51] at a
  refine ⟨zC_m h5 (zCI_51 hI.1 h0 (by omega)), h4, by omega, fun i i0 i1 => ?_⟩
  have e6 : (zuI σ 5 1 n).1 6 i = σ.1 6 i := by rw [zyI1, if_neg (fun z => absurd z.1 (by decide))]
  rw [zX6 h5 i, e6, hr i]
  exact hI.2.2.2 i i0 (by omega)
theorem zDg_eq {x y : Int} (h0 : -128 ≤ y) (h1 : y ≤ 127) (e : x = y % 256) : zDg x ↔ zDg y := by
  unfold zDg
  omega
/-- both fogs answer one number -/
theorem zFg_eq {σ τ : zeS} {a b : Int} (hI : zLI σ) (h : zFgS (σ.1 6) (σ.1 5 1) a) (hF : zFrG σ τ) (g : zFgS (τ.1 104) (τ.1 98 12) b) : a = b := by
  have e1 : τ.1 98 12 = σ.1 98 12 := (hF 98 (by decide) (by decide) (by decide)).1 12
  have h80 := zG51 hI.1
  rw [e1, ← hI.2.2.1] at g
  refine zFgS_u h g (fun j j0 j1 => ?_)
  have e2 : τ.1 104 j = σ.1 104 j := (hF 104 (by decide) (by decide) (by decide)).1 j
  have hT : zTz σ := by
    obtain ⟨hRf, hw1, hw2, hh1, hh2, hFg, hYd, hWl, hKp, hTx, -⟩ := hI.2.1
    exact hTx
  have hb := hT j j0 (by omega)
  rw [e2]
  exact zDg_eq hb.1 hb.2 (hI.2.2.2 j j0 j1)
theorem zLfg {τ τ' : zeS} (h1 : zCI zGc τ) (h3 : τ.1 5 1 = 0) (h4 : zGI τ') (h5 : ∀ k', k' < 98 ∨ 126 < k' → zeSm τ τ' k') (h6 : τ'.1 98 12 = 0) : zLI τ' := zLz (σ := τ) h1 h3 h4 h5 h6
theorem zLsh {σ τ τ' : zeS} (hI : zLI σ) (h1 : zCI zGc τ) (h2 : zFrF σ τ) (h4 : zGI τ') (h5 : ∀ k', k' < 98 ∨ 126 < k' → zeSm τ τ' k') (h6 : zKe τ τ') : zLI τ' := by
  have a := (h2 5 (by decide) (by decide)).1 1
  have b := (h2 98 (by decide) (by decide)).1 12
  have c := hI.2.2.1
  exact zLr ⟨h1, zGI_sm (fun k k1 k2 => h2 k (by omega) (by omega)) hI.2.1, by omega, fun i i0 i1 => by
    rw [(h2 6 (by decide) (by decide)).1 i, (h2 104 (by decide) (by decide)).1 i]
    exact hI.2.2.2 i i0 (by omega)⟩ h4 h5 h6
theorem zTvL {own : String} {Mi : xMi} {rm rm' : Nat × Nat} {i npar cl : Nat} {M' : xM} {n : Nat} {T : zeT} (h : xCok own (i, 0, npar, M', cl)) (hi : i < 100000) (hn : n = npar + 1) (hrm : rm'.1 + 1 ≤ rm.1 ∧ 8 + (M'.2.2.1 + 11) + rm'.2 ≤ rm.2) (hT : ∀ as σ Q, T as σ Q → (∃ k, as.head? = some (.inr (.inr (some k))) ∧ zeLy k zdL = some (.inl cl)) ∧ zeMet M' rm' zdL as σ Q) : zeTok own Mi rm zdL (i, n, T) := Or.inl ⟨npar, M', cl, rm', hi, h, hn, hrm, hT⟩
abbrev zRl : Nat × Nat := (2048, 84000)

/-! the law's cases -/
theorem zWs1 (L : Nat) (f : Nat → Int32) (code : List zeEn) (cs : List zeC) (dom : zeD) (cuts : List (Nat × List Nat)) (G H : zeG) (R : Option zeV → zeS → Prop) (n : Nat) (q : zeEn) (nxt : List zeEn) (ls : zeLs) (st : List zeV) (σ : zeS) : zeWs L f code cs dom cuts G H R (n + 1) (q :: nxt) ls st σ = zeDos L f cs dom q.2.1 ls st σ
    (fun ls st σ => match zeCt cuts (q.1 + q.2.2) with
      | some js => H (q.1 + q.2.2) (zePj js ls) st σ
      | none => zeWs L f code cs dom cuts G H R n nxt ls st σ)
    (fun t ls st σ => match zeCt cuts t.toNat with
      | some js => H t.toNat (zePj js ls) st σ
      | none => zeWs L f code cs dom cuts G H R n (zeSk t.toNat code) ls st σ) R := rfl
theorem zWs0 (L : Nat) (f : Nat → Int32) (code : List zeEn) (cs : List zeC) (dom : zeD) (cuts : List (Nat × List Nat)) (G H : zeG) (R : Option zeV → zeS → Prop) (q : zeEn) (nxt : List zeEn) (ls : zeLs) (st : List zeV) (σ : zeS) : zeWs L f code cs dom cuts G H R 0 (q :: nxt) ls st σ = G q.1 ls st σ := rfl
/-- the signs of the two texts are one (the reference's are bytes) -/
def zTxt (σ : zeS) : Prop := ∀ i : Int, 0 ≤ i → i < σ.1 5 1 → σ.1 6 i = σ.1 104 i % 256
def zLI (σ : zeS) : Prop := zCI zGc σ ∧ zGI σ ∧ σ.1 5 1 = σ.1 98 12 ∧ zTxt σ
theorem zGi_lt : ∀ k ∈ zGi, k < 98 := by decide +kernel
theorem zGi_5 : 5 ∈ zGi := by decide +kernel
theorem zF98 {σ τ : zeS} (h : ∀ k', ¬ k' ∈ zGi → zeSm σ τ k') : τ.1 98 12 = σ.1 98 12 := (h 98 (fun z => absurd (zGi_lt _ z) (by decide))).1 12
theorem zF5 {σ τ : zeS} (h : ∀ k', k' < 98 ∨ 126 < k' → zeSm σ τ k') : τ.1 5 1 = σ.1 5 1 := (h 5 (by decide)).1 1
theorem zG_c {σ τ : zeS} (h : ∀ k', ¬ k' ∈ zGi → zeSm σ τ k') (g : zGI σ) : zGI τ := zGI_sm (fun k h1 _ => h k (fun z => by have := zGi_lt _ z; omega)) g
theorem zC_m {σ τ : zeS} (h : ∀ k', k' < 98 ∨ 126 < k' → zeSm σ τ k') (g : zCI zGc σ) : zCI zGc τ := fun q hq => zyC_sm (h q.1 (Or.inl (zGi_lt _ (by rw [← zGi_eq]; exact List.mem_map.mpr ⟨q, hq, rfl⟩)))) (g q hq)
theorem zX6 {σ τ : zeS} (h : ∀ k', k' < 98 ∨ 126 < k' → zeSm σ τ k') (i : Int) : τ.1 6 i = σ.1 6 i := (h 6 (by decide)).1 i
theorem zX104 {σ τ : zeS} (h : ∀ k', ¬ k' ∈ zGi → zeSm σ τ k') (i : Int) : τ.1 104 i = σ.1 104 i := (h 104 (fun z => absurd (zGi_lt _ z) (by decide))).1 i
theorem zLk {σ τ τ' : zeS} (hI : zLI σ) (h1 : zCI zGc τ) (h2 : ∀ k', ¬ k' ∈ zGi → zeSm σ τ k') (h3 : pK σ τ) (h4 : zGI τ') (h5 : ∀ k', k' < 98 ∨ 126 < k' → zeSm τ τ' k') (h6 : qK τ τ') : zLI τ' := by
  have a := zF5 h5
  have b := zF98 h2
  have c := hI.2.2.1
  have d := h3.1
  have e : τ'.1 98 12 = τ.1 98 12 := h6.1
  refine ⟨zC_m h5 h1, h4, by omega, fun i i0 i1 => ?_⟩
  have e6 : τ'.1 104 i = τ.1 104 i := h6.2 i
  rw [zX6 h5 i, h3.2 i, e6, zX104 h2 i]
  exact hI.2.2.2 i i0 (by omega)
theorem zLz {σ τ τ' : zeS} (h1 : zCI zGc τ) (h3 : pZ σ τ) (h4 : zGI τ') (h5 : ∀ k', k' < 98 ∨ 126 < k' → zeSm τ τ' k') (h6 : qZ τ τ') : zLI τ' := by
  have a := zF5 h5
  have h3 : τ.1 5 1 = 0 := h3
  have h6 : τ'.1 98 12 = 0 := h6
  exact ⟨zC_m h5 h1, h4, by omega, fun i i0 i1 => by omega⟩
theorem zLr {τ τ' : zeS} (hI : zLI τ) (h4 : zGI τ') (h5 : ∀ k', k' < 98 ∨ 126 < k' → zeSm τ τ' k') (h6 : zKe τ τ') : zLI τ' := zLk hI hI.1 (fun _ _ => ⟨fun _ => rfl, fun _ => rfl, fun _ => rfl⟩) ⟨rfl, fun _ => rfl⟩ h4 h5 h6
theorem zLsg {σ τ τ' : zeS} {v : Int} (hI : zLI σ) (h1 : zCI zGc τ) (h2 : zFrT σ τ) (h3 : τ.1 5 1 = σ.1 5 1 + 4) (h4 : ∀ i : Int, ¬ (σ.1 5 1 ≤ i ∧ i < σ.1 5 1 + 4) → τ.1 6 i = σ.1 6 i) (h5 : ∀ j : Int, 0 ≤ j → j < 4 → τ.1 6 (σ.1 5 1 + j) = zBc v j) (g1 : zGI τ') (g2 : ∀ k', k' < 98 ∨ 126 < k' → zeSm τ τ' k') (g3 : τ'.1 98 12 = τ.1 98 12 + 4) (g4 : ∀ i : Int, ¬ (τ.1 98 12 ≤ i ∧ i < τ.1 98 12 + 4) → τ'.1 104 i = τ.1 104 i) (g5 : ∀ j : Int, 0 ≤ j → j < 4 → τ'.1 104 (τ.1 98 12 + j) = zByR v (3 - j)) : zLI τ' := by
  have a := zF5 g2
  have b : τ.1 98 12 = σ.1 98 12 := (h2 98 (by decide) (by decide)).1 12
  have c := hI.2.2.1
  refine ⟨zC_m g2 h1, g1, by omega, fun i i0 i1 => ?_⟩
  rw [zX6 g2 i]
  by_cases hi : i < σ.1 5 1
  · have e : τ.1 104 i = σ.1 104 i := (h2 104 (by decide) (by decide)).1 i
    rw [h4 i (by omega), g4 i (by omega), e]
    exact hI.2.2.2 i i0 hi
  · have e1 := h5 (i - σ.1 5 1) (by omega) (by omega)
    have e2 := g5 (i - σ.1 5 1) (by omega) (by omega)
    rw [show σ.1 5 1 + (i - σ.1 5 1) = i by omega] at e1
    rw [show τ.1 98 12 + (i - σ.1 5 1) = i by omega] at e2
    rw [e1, e2]
    exact zBcr v _ (by omega) (by omega)
theorem zGI_5 {σ : zeS} (h : zGI σ) (n : Int) : zGI (zuI σ 5 1 n) := zGI_sm (fun k h1 _ => zuI_sm (by omega)) h
theorem zyI1 (σ : zeS) (k : Nat) (i v : Int) (k' : Nat) (i' : Int) : (zuI σ k i v).1 k' i' = if k' = k ∧ i' = i then v else σ.1 k' i' := rfl
theorem z98_51 (σ : zeS) (n : Int) : (zuI σ 5 1 n).1 98 12 = σ.1 98 12 := by rw [zyI1, if_neg (fun z => absurd z.1 (by decide))]
theorem z51_51 (σ : zeS) (n : Int) : (zuI σ 5 1 n).1 5 1 = n := by rw [zyI1, if_pos ⟨rfl, rfl⟩]
theorem z104_51 (σ : zeS) (n i : Int) : (zuI σ 5 1 n).1 104 i = σ.1 104 i := by rw [zyI1, if_neg (fun z => absurd z.1 (by decide))]
theorem zLen {σ τ' : zeS} {n : Int} (hI : zLI σ) (h5 : ∀ k', k' < 98 ∨ 126 < k' → zeSm (zuI σ 5 1 n) τ' k') (h0 : 0 ≤ n) (h1 : n ≤ σ.1 5 1) (h4 : zGI τ') (he : τ'.1 98 12 = n) (hr : ∀ i : Int, τ'.1 104 i = σ.1 104 i) : zLI τ' := by
  have h80 := zG51 hI.1
  have a := zF5 h5
  rw [z51_51] at a
  refine ⟨zC_m h5 (zCI_51 hI.1 h0 (by omega)), h4, by omega, fun i i0 i1 => ?_⟩
  have e6 : (zuI σ 5 1 n).1 6 i = σ.1 6 i := by rw [zyI1, if_neg (fun z => absurd z.1 (by decide))]
  rw [zX6 h5 i, e6, hr i]
  exact hI.2.2.2 i i0 (by omega)
theorem zDg_eq {x y : Int} (h0 : -128 ≤ y) (h1 : y ≤ 127) (e : x = y % 256) : zDg x ↔ zDg y := by
  unfold zDg
  omega
/-- both fogs answer one number -/
theorem zFg_eq {σ τ : zeS} {a b : Int} (hI : zLI σ) (h : zFgS (σ.1 6) (σ.1 5 1) a) (hF : zFrG σ τ) (g : zFgS (τ.1 104) (τ.1 98 12) b) : a = b := by
  have e1 : τ.1 98 12 = σ.1 98 12 := (hF 98 (by decide) (by decide) (by decide)).1 12
  have h80 := zG51 hI.1
  rw [e1, ← hI.2.2.1] at g
  refine zFgS_u h g (fun j j0 j1 => ?_)
  have e2 : τ.1 104 j = σ.1 104 j := (hF 104 (by decide) (by decide) (by decide)).1 j
  have hT : zTz σ := by
    obtain ⟨hRf, hw1, hw2, hh1, hh2, hFg, hYd, hWl, hKp, hTx, -⟩ := hI.2.1
    exact hTx
  have hb := hT j j0 (by omega)
  rw [e2]
  exact zDg_eq hb.1 hb.2 (hI.2.2.2 j j0 j1)
theorem zLfg {τ τ' : zeS} (h1 : zCI zGc τ) (h3 : τ.1 5 1 = 0) (h4 : zGI τ') (h5 : ∀ k', k' < 98 ∨ 126 < k' → zeSm τ τ' k') (h6 : τ'.1 98 12 = 0) : zLI τ' := zLz (σ := τ) h1 h3 h4 h5 h6
theorem zLsh {σ τ τ' : zeS} (hI : zLI σ) (h1 : zCI zGc τ) (h2 : zFrF σ τ) (h4 : zGI τ') (h5 : ∀ k', k' < 98 ∨ 126 < k' → zeSm τ τ' k') (h6 : zKe τ τ') : zLI τ' := by
  have a := (h2 5 (by decide) (by decide)).1 1
  have b := (h2 98 (by decide) (by decide)).1 12
  have c := hI.2.2.1
  exact zLr ⟨h1, zGI_sm (fun k k1 k2 => h2 k (by omega) (by omega)) hI.2.1, by omega, fun i i0 i1 => by
    rw [(h2 6 (by decide) (by decide)).1 i, (h2 104 (by decide) (by decide)).1 i]
    exact hI.2.2.2 i i0 (by omega)⟩ h4 h5 h6
theorem zTvL {own : String} {Mi : xMi} {rm rm' : Nat × Nat} {i npar cl : Nat} {M' : xM} {n : Nat} {T : zeT} (h : xCok own (i, 0, npar, M', cl)) (hi : i < 100000) (hn : n = npar + 1) (hrm : rm'.1 + 1 ≤ rm.1 ∧ 8 + (M'.2.2.1 + 11) + rm'.2 ≤ rm.2) (hT : ∀ as σ Q, T as σ Q → (∃ k, as.head? = some (.inr (.inr (some k))) ∧ zeLy k zdL = some (.inl cl)) ∧ zeMet M' rm' zdL as σ Q) : zeTok own Mi rm zdL (i, n, T) := Or.inl ⟨npar, M', cl, rm', hi, h, hn, hrm, hT⟩
abbrev zRl : Nat × Nat := (2048, 84000)
/-! the law's cases whose answers are put aside, in one form -/
abbrev zLoc (i : Int) : zeLs := [(0, .inr (.inr (some 0))), (1, .inr (.inr (some 4))), (2, .inr (.inr (some 98))), (3, .inr (.inr (some 127))), (4, .inl i)]
def zArg : Nat → Nat → Nat → List zeEn
  | _, _, 0 => []
  | p, j, n + 1 => (p, .aload 0, 1) :: (p + 1, .iload 4, 2) :: (p + 3, .bipush (j : Int), 1) :: (p + 4, .iadd, 1) :: (p + 5, .iaload, 1) :: zArg (p + 6) (j + 1) n
def zArv (f : Nat → Int32) (i : Int) : Nat → Nat → List zeV → List zeV
  | _, 0, st => st
  | j, n + 1, st => zArv f i (j + 1) n (.inl (f (i + (j : Int)).toNat).toInt :: st)
def zAv (f : Nat → Int32) (i : Int) : Nat → Nat → List zeV
  | _, 0 => []
  | j, n + 1 => .inl (f (i + (j : Int)).toNat).toInt :: zAv f i (j + 1) n
theorem zPop_arv {f : Nat → Int32} {i : Int} : ∀ (n j m : Nat) (st acc : List zeV), zePop (m + n) (zArv f i j n st) acc = zePop m st (zAv f i j n ++ acc)
  | 0, _, _, _, _ => rfl
  | n + 1, j, m, st, acc => by
    have ih := zPop_arv (f := f) (i := i) n (j + 1) (m + 1) (.inl (f (i + (j : Int)).toNat).toInt :: st) acc
    rw [show m + (n + 1) = m + 1 + n by omega]
    exact ih
theorem zPop_av {f : Nat → Int32} {i : Int} {n j : Nat} {v : zeV} : zePop (n + 1) (zArv f i j n [v]) [] = some (v :: zAv f i j n, []) := by
  rw [Nat.add_comm n 1, zPop_arv n j 1 [v] [], List.append_nil]
  rfl
theorem zInts_av {f : Nat → Int32} {i : Int} : ∀ (n j : Nat), zInts (zAv f i j n)
  | 0, _ => trivial
  | n + 1, j => zInts_av n (j + 1)
theorem zAv_len {f : Nat → Int32} {i : Int} : ∀ (n j : Nat), (zAv f i j n).length = n
  | 0, _ => rfl
  | n + 1, j => by
    show (zAv f i (j + 1) n).length + 1 = n + 1
    rw [zAv_len]
section ZCA
variable {L : Nat} {f : Nat → Int32} {code : List zeEn} {cs : List zeC} {dom : zeD} {cuts : List (Nat × List Nat)} {G H : zeG} {R : Option zeV → zeS → Prop} {ls : zeLs} {st : List zeV} {σ : zeS} {n p len : Nat} {nxt : List zeEn} {ins : Instr}
variable {S : zeLs → List zeV → zeS → Prop} {J : Int → zeLs → List zeV → zeS → Prop}
theorem zs_step (hc : zeCt cuts (p + len) = none) (h : ∀ J, zeDos L f cs dom ins ls st σ (fun ls st σ => zeWs L f code cs dom cuts G H R n nxt ls st σ) J R) : zeWs L f code cs dom cuts G H R (n + 1) ((p, ins, len) :: nxt) ls st σ := by
  rw [zWs1]
  dsimp only
  rw [hc]
  exact h _
theorem zd_al {k : Nat} {v : zeV} (h : zeLg k ls = some v) (hk : zeKd v = 2) (g : S ls (v :: st) σ) : zeDos L f cs dom (.aload k) ls st σ S J R := by
  simp only [zeDos, zsAl, zsIl, Bool.false_and, Bool.false_eq_true, if_false, ite_false, zeDo, h]
  exact ⟨hk, g⟩
theorem zd_il {k : Nat} {v : zeV} (h : zeLg k ls = some v) (hk : zeKd v = 0) (g : S ls (v :: st) σ) : zeDos L f cs dom (.iload k) ls st σ S J R := by
  simp only [zeDos, zsAl, zsIl, Bool.false_and, Bool.false_eq_true, if_false, ite_false, zeDo, h]
  exact ⟨hk, g⟩
theorem zd_bi {k : Int} (g : S ls (.inl k :: st) σ) : zeDos L f cs dom (.bipush k) ls st σ S J R := by
  simp only [zeDos, zsAl, zsIl, Bool.false_and, Bool.false_eq_true, if_false, ite_false, zeDo]
  exact g
theorem zd_ad {a b : Int} (g : S ls (.inl (zw (a + b)) :: st) σ) : zeDos L f cs dom .iadd ls (.inl b :: .inl a :: st) σ S J R := by
  simp only [zeDos, zsAl, zsIl, Bool.false_and, Bool.false_eq_true, if_false, ite_false, zeDo, zeBF]
  exact g
theorem zd_sl {x : Int} (h0 : 0 ≤ x) (h1 : x < (L : Int)) (g : S ls (.inl (f x.toNat).toInt :: st) σ) : zeDos L f cs dom .iaload ls (.inl x :: .inr (.inr (some 0)) :: st) σ S J R := by
  simp only [zeDos, zsAl, zsIl, zsT1, zsT2, zsS2, Bool.false_and, Bool.true_and, Bool.false_eq_true, if_false, ite_false, if_true, ite_true]
  exact ⟨⟨h0, h1⟩, g⟩
theorem zd_po {a : zeV} (h : zeCat a = 1) (g : S ls st σ) : zeDos L f cs dom .pop ls (a :: st) σ S J R := by
  simp only [zeDos, zsAl, zsIl, Bool.false_and, Bool.false_eq_true, if_false, ite_false, zeDo]
  exact ⟨h, g⟩
theorem zd_iv {k c : Nat} {T : zeT} {as st' : List zeV} (h : zeCs k cs = some (c, T)) (hp : zePop c st [] = some (as, st')) (hs : zeSum st' ≤ 8) (g : T as σ (fun r σ' => match r with
      | some v => S ls (v :: st') σ'
      | none => S ls st' σ')) : zeDos L f cs dom (.invokevirtual k) ls st σ S J R := by
  simp only [zeDos, zsAl, zsIl, Bool.false_and, Bool.false_eq_true, if_false, ite_false, zeDo, zeCall, h, hp]
  exact ⟨hs, g⟩
theorem zs_goto {t : Int} {js : List Nat} (hc : zeCt cuts t.toNat = some js) (g : H t.toNat (zePj js ls) st σ) : zeWs L f code cs dom cuts G H R (n + 1) ((p, .goto t, len) :: nxt) ls st σ := by
  rw [zWs1]
  simp only [zeDos, zsAl, zsIl, Bool.false_and, Bool.false_eq_true, if_false, ite_false, zeDo]
  rw [hc]
  exact g
theorem zs_arg {i : Int} {j : Nat} (hc : ∀ x, p < x → x ≤ p + 6 → zeCt cuts x = none) (h0 : 0 ≤ i) (hj : i + (j : Int) < (L : Int)) (hL : L ≤ 3072) (h : zeWs L f code cs dom cuts G H R n nxt (zLoc i) (.inl (f (i + (j : Int)).toNat).toInt :: st) σ) : zeWs L f code cs dom cuts G H R (n + 5) ((p, .aload 0, 1) :: (p + 1, .iload 4, 2) :: (p + 3, .bipush (j : Int), 1) :: (p + 4, .iadd, 1) :: (p + 5, .iaload, 1) :: nxt) (zLoc i) st σ := by
  have hz : zw (i + (j : Int)) = i + (j : Int) := zw_id (by omega) (by omega)
  refine zs_step (hc _ (by omega) (by omega)) fun _ => zd_al (v := .inr (.inr (some 0))) rfl rfl ?_
  refine zs_step (hc _ (by omega) (by omega)) fun _ => zd_il (v := .inl i) rfl rfl ?_
  refine zs_step (hc _ (by omega) (by omega)) fun _ => zd_bi ?_
  refine zs_step (hc _ (by omega) (by omega)) fun _ => zd_ad ?_
  rw [hz]
  exact zs_step (hc _ (by omega) (by omega)) fun _ => zd_sl (by omega) hj h
theorem zs_args {i : Int} (h0 : 0 ≤ i) (hL : L ≤ 3072) : ∀ (n p j m : Nat) (nxt : List zeEn) (st : List zeV) (σ : zeS), (∀ x, p < x → x ≤ p + 6 * n → zeCt cuts x = none) → i + (j : Int) + (n : Int) ≤ (L : Int) → zeWs L f code cs dom cuts G H R m nxt (zLoc i) (zArv f i j n st) σ → zeWs L f code cs dom cuts G H R (m + 5 * n) (zArg p j n ++ nxt) (zLoc i) st σ
  | 0, _, _, _, _, _, _, _, _, h => h
  | n + 1, p, j, m, nxt, st, σ, hc, hj, h => by
    have ih := zs_args h0 hL n (p + 6) (j + 1) m nxt (.inl (f (i + (j : Int)).toNat).toInt :: st) σ (fun x x1 x2 => hc x (by omega) (by omega)) (by omega) h
    rw [show m + 5 * (n + 1) = m + 5 * n + 5 by omega]
    exact zs_arg (nxt := zArg (p + 6) (j + 1) n ++ nxt) (fun x x1 x2 => hc x x1 (by omega)) h0 (by omega) hL ih
end ZCA
/-- a case: the class is called, its answer goes; the reference is called, its answer goes -/
def zPc (E p l1 l2 n : Nat) (rest : List zeEn) : List zeEn := (p, .aload 1, 1) :: (zArg (p + 1) 1 n ++ ((p + 1 + 6 * n, .invokevirtual l1, 3) :: (p + 4 + 6 * n, .pop, 1) :: (p + 5 + 6 * n, .aload 2, 1) :: (zArg (p + 6 + 6 * n) 1 n ++ ((p + 6 + 12 * n, .invokevirtual l2, 3) :: (p + 9 + 12 * n, .pop, 1) :: (p + 10 + 12 * n, .goto (E : Int), 3) :: rest))))
theorem zCaseP {E L n pc l1 l2 : Nat} {f : Nat → Int32} {code rest : List zeEn} {G H : zeG} {R : Option zeV → zeS → Prop} {P1 P2 : zeS → zeS → Prop} {i : Int} {σ : zeS} (step : zeSs L f code [(l1, n + 1, tC n P1), (l2, n + 1, tM n P2)] zdL G H R) (hsk : zeSk pc code = zPc E pc l1 l2 n rest) (hne : (l1 == l2) = false) (hE : pc + 12 * n + 11 < E) (hn : n ≤ 5) (hL : L ≤ 3072) (hi0 : 0 ≤ i) (hi : i + 6 ≤ (L : Int)) (hI : zLI σ)
    (hP : ∀ τ τ' : zeS, zCI zGc τ → (∀ k', ¬ k' ∈ zGi → zeSm σ τ k') → P1 σ τ → zGI τ' → (∀ k', k' < 98 ∨ 126 < k' → zeSm τ τ' k') → P2 τ τ' → zLI τ') (k : ∀ τ, zLI τ → H E (zLoc i) [] τ) : G pc (zLoc i) [] σ := by
  have hc : ∀ x, x < E → zeCt [(E, [0, 1, 2, 3, 4])] x = none := fun x hx => by
    show (bif E == x then some [0, 1, 2, 3, 4] else none) = none
    rw [show (E == x) = false by simp; omega, cond_false]
  have hcE : zeCt [(E, [0, 1, 2, 3, 4])] (E : Int).toNat = some [0, 1, 2, 3, 4] := by
    rw [Int.toNat_natCast]
    show (bif E == E then some [0, 1, 2, 3, 4] else none) = _
    rw [beq_self_eq_true, cond_true]
  have h1 : zeCs l1 [(l1, n + 1, tC n P1), (l2, n + 1, tM n P2)] = some (n + 1, tC n P1) := by
    show (bif l1 == l1 then some (n + 1, tC n P1) else _) = _
    rw [beq_self_eq_true, cond_true]
  have h2 : zeCs l2 [(l1, n + 1, tC n P1), (l2, n + 1, tM n P2)] = some (n + 1, tM n P2) := by
    show (bif l1 == l2 then some (n + 1, tC n P1) else (bif l2 == l2 then some (n + 1, tM n P2) else none)) = _
    rw [hne, cond_false, beq_self_eq_true, cond_true]
  refine step (0 + 1 + 1 + 1 + 5 * n + 1 + 1 + 1 + 5 * n + 1) [(E, [0, 1, 2, 3, 4])] pc (zLoc i) [] σ ?_
  rw [hsk]
  unfold zPc
  refine zs_step (hc _ (by omega)) fun _ => zd_al (v := .inr (.inr (some 4))) rfl rfl ?_
  refine zs_args hi0 hL n _ 1 _ _ _ _ (fun x _ x2 => hc x (by omega)) (by omega) ?_
  refine zs_step (hc _ (by omega)) fun _ => zd_iv h1 zPop_av (by show 0 ≤ 8; omega) ?_
  refine ⟨⟨rfl, zInts_av n 1, zAv_len n 1⟩, hI.1, fun r τ a b c => ?_⟩
  refine zs_step (hc _ (by omega)) fun _ => zd_po rfl ?_
  refine zs_step (hc _ (by omega)) fun _ => zd_al (v := .inr (.inr (some 98))) rfl rfl ?_
  refine zs_args hi0 hL n _ 1 _ _ _ _ (fun x _ x2 => hc x (by omega)) (by omega) ?_
  refine zs_step (hc _ (by omega)) fun _ => zd_iv h2 zPop_av (by show 0 ≤ 8; omega) ?_
  refine ⟨⟨rfl, zInts_av n 1, zAv_len n 1⟩, zG_c b hI.2.1, fun r' τ' a' b' c' => ?_⟩
  refine zs_step (hc _ (by omega)) fun _ => zd_po rfl ?_
  refine zs_goto hcE ?_
  rw [Int.toNat_natCast]
  exact k τ' (hP τ τ' a b c a' b' c')

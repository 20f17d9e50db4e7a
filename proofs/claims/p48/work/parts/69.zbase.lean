/-! the reference's methods, exactly: short names -/
def zb (p : Prop) [Decidable p] : Int := if p then 1 else 0
theorem zb_0 (p : Prop) [Decidable p] : (zb p = 0) = ¬ p := by
  unfold zb
  by_cases h : p
  · simp [h]
  · simp [h]
theorem zb_1 (p : Prop) [Decidable p] : (zb p = 1) = p := by
  unfold zb
  by_cases h : p
  · simp [h]
  · simp [h]
theorem zb_in (p : Prop) [Decidable p] : zb p = 0 ∨ zb p = 1 := by
  unfold zb
  by_cases h : p
  · simp [h]
  · simp [h]
theorem zePr_eq (a b : Int) : zePr .eq a b = (a = b) := rfl
theorem zePr_ne (a b : Int) : zePr .ne a b = ¬ (a = b) := rfl
theorem zePr_lt (a b : Int) : zePr .lt a b = (a < b) := rfl
theorem zePr_ge (a b : Int) : zePr .ge a b = (b ≤ a) := rfl
theorem zePr_gt (a b : Int) : zePr .gt a b = (b < a) := rfl
theorem zePr_le (a b : Int) : zePr .le a b = (a ≤ b) := rfl
theorem zcn {α : Type} {P : α → Prop} : ∀ q ∈ ([] : List α), P q := fun _ h => (List.not_mem_nil h).elim
theorem zcc {α : Type} {P : α → Prop} {a : α} {l : List α} (h : P a) (g : ∀ q ∈ l, P q) : ∀ q ∈ a :: l, P q := List.forall_mem_cons.mpr ⟨h, g⟩
theorem zRI (Q : Option zeV → zeS → Prop) (x : Int) (σ : zeS) : zeRr (some .int) Q (some (.inl x)) σ = Q (some (.inl x)) σ := rfl
theorem zRZ (Q : Option zeV → zeS → Prop) (x : Int) (σ : zeS) : zeRr (some .boolean) Q (some (.inl x)) σ = ((x = 0 ∨ x = 1) ∧ Q (some (.inl x)) σ) := rfl
theorem zRJ (Q : Option zeV → zeS → Prop) (x : Int64) (σ : zeS) : zeRr (some .long) Q (some (.inr (.inl x))) σ = Q (some (.inr (.inl x))) σ := rfl
theorem zRV (Q : Option zeV → zeS → Prop) (σ : zeS) : zeRr none Q none σ = Q none σ := rfl
theorem zWc (code : List zeEn) (cs : List zeC) (dom : zeD) (cuts : List (Nat × List Nat)) (G : zeG) (R : Option zeV → zeS → Prop) (n : Nat) (q : zeEn) (nxt : List zeEn) (ls : zeLs) (st : List zeV) (σ : zeS) : zeWp code cs dom cuts G R (n + 1) (q :: nxt) ls st σ = zeDo cs dom q.2.1 ls st σ
    (fun ls st σ => match zeCt cuts (q.1 + q.2.2) with
      | some js => G (q.1 + q.2.2) (zePj js ls) st σ
      | none => zeWp code cs dom cuts G R n nxt ls st σ)
    (fun t ls st σ => match zeCt cuts t.toNat with
      | some js => G t.toNat (zePj js ls) st σ
      | none => zeWp code cs dom cuts G R n (zeSk t.toNat code) ls st σ) R := rfl
theorem zMt {M : xM} {Mi : xMi} {rm : Nat × Nat} {cs : List zeC} {code : List zeEn} {ret : Option FieldType} (hM : xMp M Mi) (hcode : zeTb Mi M.2.2.1 Mi.1 = some code ∧ zeCq code = true) (hr : M.2.2.2 = ret) (hcs : ∀ q ∈ cs, zeTok M.1.cls Mi rm zdM q) {as : List zeV} {σ : zeS} {Qz : Option zeV → zeS → Prop} (hmx : zeSum as ≤ M.2.2.1)
    (h : ∀ G : zeG, zeSt code cs zdM G (zeRr ret Qz) → (∀ js pc ls st σ, G pc (zePj js ls) st σ → G pc ls st σ) → G 0 (zeArgs 0 as) [] σ) : zeMet M rm zdM as σ Qz :=
  zeMet_of hM hcode.1 hcode.2 zdM_nd hcs hmx (by rw [hr]; exact h)
theorem zTv {own : String} {Mi : xMi} {rm rm' : Nat × Nat} {i npar cl : Nat} {M' : xM} {n : Nat} {T : zeT} (h : xCok own (i, 0, npar, M', cl)) (hi : i < 100000) (hn : n = npar + 1) (hrm : rm'.1 + 1 ≤ rm.1 ∧ 8 + (M'.2.2.1 + 11) + rm'.2 ≤ rm.2) (hT : ∀ as σ Q, T as σ Q → (∃ k, as.head? = some (.inr (.inr (some k))) ∧ zeLy k zdM = some (.inl cl)) ∧ zeMet M' rm' zdM as σ Q) : zeTok own Mi rm zdM (i, n, T) := Or.inl ⟨npar, M', cl, rm', hi, h, hn, hrm, hT⟩
theorem zTs {own : String} {Mi : xMi} {rm rm' : Nat × Nat} {i npar cl : Nat} {M' : xM} {n : Nat} {T : zeT} (h : xCok own (i, 1, npar, M', cl)) (hn : n = npar) (hrm : rm'.1 + 1 ≤ rm.1 ∧ 8 + (M'.2.2.1 + 11) + rm'.2 ≤ rm.2) (hT : ∀ as σ Q, T as σ Q → zeMet M' rm' zdM as σ Q) : zeTok own Mi rm zdM (i + 100000, n, T) := Or.inr (Or.inl ⟨1, npar, M', cl, i, rm', rfl, Or.inl rfl, h, hn, hrm, hT⟩)
theorem zc0 : ((0 : Nat) : Int) = 0 := rfl
theorem zc1 : ((1 : Nat) : Int) = 1 := rfl
theorem zc2 : ((2 : Nat) : Int) = 2 := rfl
theorem zc3 : ((3 : Nat) : Int) = 3 := rfl
theorem zc4 : ((4 : Nat) : Int) = 4 := rfl
theorem zc5 : ((5 : Nat) : Int) = 5 := rfl
theorem zc6 : ((6 : Nat) : Int) = 6 := rfl
theorem zc7 : ((7 : Nat) : Int) = 7 := rfl
theorem zc8 : ((8 : Nat) : Int) = 8 := rfl
theorem zc9 : ((9 : Nat) : Int) = 9 := rfl
theorem zc10 : ((10 : Nat) : Int) = 10 := rfl
theorem zc11 : ((11 : Nat) : Int) = 11 := rfl
theorem zc12 : ((12 : Nat) : Int) = 12 := rfl
theorem zc13 : ((13 : Nat) : Int) = 13 := rfl
theorem zc14 : ((14 : Nat) : Int) = 14 := rfl
theorem zc15 : ((15 : Nat) : Int) = 15 := rfl
theorem zc16 : ((16 : Nat) : Int) = 16 := rfl
theorem zc17 : ((17 : Nat) : Int) = 17 := rfl
theorem zc18 : ((18 : Nat) : Int) = 18 := rfl
theorem zc19 : ((19 : Nat) : Int) = 19 := rfl
theorem zc20 : ((20 : Nat) : Int) = 20 := rfl
theorem zc21 : ((21 : Nat) : Int) = 21 := rfl
theorem zc22 : ((22 : Nat) : Int) = 22 := rfl
theorem zc23 : ((23 : Nat) : Int) = 23 := rfl
theorem zc24 : ((24 : Nat) : Int) = 24 := rfl
theorem zc25 : ((25 : Nat) : Int) = 25 := rfl
theorem zc26 : ((26 : Nat) : Int) = 26 := rfl
theorem zc27 : ((27 : Nat) : Int) = 27 := rfl
theorem zc28 : ((28 : Nat) : Int) = 28 := rfl
theorem zc29 : ((29 : Nat) : Int) = 29 := rfl
theorem zc30 : ((30 : Nat) : Int) = 30 := rfl
theorem zc31 : ((31 : Nat) : Int) = 31 := rfl
theorem zc32 : ((32 : Nat) : Int) = 32 := rfl
theorem zc33 : ((33 : Nat) : Int) = 33 := rfl
theorem zc34 : ((34 : Nat) : Int) = 34 := rfl
theorem zc35 : ((35 : Nat) : Int) = 35 := rfl
theorem zc36 : ((36 : Nat) : Int) = 36 := rfl
theorem zc37 : ((37 : Nat) : Int) = 37 := rfl
theorem zc38 : ((38 : Nat) : Int) = 38 := rfl
theorem zc39 : ((39 : Nat) : Int) = 39 := rfl
theorem zc40 : ((40 : Nat) : Int) = 40 := rfl
theorem zc41 : ((41 : Nat) : Int) = 41 := rfl
theorem zc42 : ((42 : Nat) : Int) = 42 := rfl
theorem zc43 : ((43 : Nat) : Int) = 43 := rfl
theorem zc44 : ((44 : Nat) : Int) = 44 := rfl
theorem zc45 : ((45 : Nat) : Int) = 45 := rfl
theorem zc46 : ((46 : Nat) : Int) = 46 := rfl
theorem zc47 : ((47 : Nat) : Int) = 47 := rfl
theorem zc48 : ((48 : Nat) : Int) = 48 := rfl
theorem zc49 : ((49 : Nat) : Int) = 49 := rfl
theorem zc50 : ((50 : Nat) : Int) = 50 := rfl
theorem zmI (v : zeV) (x : Int) (h : v = .inl x) : zeKd v = 0 := by rw [h]; rfl
theorem zb_or (p : Prop) [Decidable p] : (zb p = 0 ∨ zb p = 1) = True := eq_true (zb_in p)
theorem zbp {p : Prop} [Decidable p] (h : p) : zb p = 1 := if_pos h
theorem zbn {p : Prop} [Decidable p] (h : ¬ p) : zb p = 0 := if_neg h
theorem zuI_1 (σ : zeS) (k : Nat) (i v : Int) (k' : Nat) (i' : Int) : (zuI σ k i v).1 k' i' = if k' = k ∧ i' = i then v else σ.1 k' i' := rfl
theorem zuI_2 (σ : zeS) (k : Nat) (i v : Int) : (zuI σ k i v).2.1 = σ.2.1 := rfl
theorem zuI_3 (σ : zeS) (k : Nat) (i v : Int) : (zuI σ k i v).2.2 = σ.2.2 := rfl
theorem zuL_1 (σ : zeS) (k : Nat) (i : Int) (v : Int64) : (zuL σ k i v).1 = σ.1 := rfl
theorem zuL_2 (σ : zeS) (k : Nat) (i : Int) (v : Int64) (k' : Nat) (i' : Int) : (zuL σ k i v).2.1 k' i' = if k' = k ∧ i' = i then v else σ.2.1 k' i' := rfl
theorem zuL_3 (σ : zeS) (k : Nat) (i : Int) (v : Int64) : (zuL σ k i v).2.2 = σ.2.2 := rfl
theorem zuR_1 (σ : zeS) (k : Nat) (i : Int) (v : Option Nat) : (zuR σ k i v).1 = σ.1 := rfl
theorem zuR_2 (σ : zeS) (k : Nat) (i : Int) (v : Option Nat) : (zuR σ k i v).2.1 = σ.2.1 := rfl
theorem zuR_3 (σ : zeS) (k : Nat) (i : Int) (v : Option Nat) (k' : Nat) (i' : Int) : (zuR σ k i v).2.2 k' i' = if k' = k ∧ i' = i then v else σ.2.2 k' i' := rfl
/-- the rows of the reference's object -/
def zRf (σ : zeS) : Prop := (σ.2.2 98 0 = some 99 ∧ σ.2.2 98 3 = some 100 ∧ σ.2.2 98 7 = some 101 ∧ σ.2.2 98 9 = some 102 ∧ σ.2.2 98 10 = some 103) ∧ (σ.2.2 98 11 = some 104 ∧ σ.2.2 98 13 = some 105 ∧ σ.2.2 98 21 = some 106 ∧ σ.2.2 98 22 = some 107 ∧ σ.2.2 98 28 = some 108) ∧ (σ.2.2 98 29 = some 109 ∧ σ.2.2 98 30 = some 110 ∧ σ.2.2 98 32 = some 111 ∧ σ.2.2 98 33 = some 112 ∧ σ.2.2 98 34 = some 113) ∧ (σ.2.2 98 35 = some 114 ∧ σ.2.2 98 36 = some 115 ∧ σ.2.2 98 37 = some 116 ∧ σ.2.2 98 39 = some 117 ∧ σ.2.2 98 40 = some 118) ∧ (σ.2.2 98 41 = some 119 ∧ σ.2.2 98 42 = some 120 ∧ σ.2.2 98 43 = some 121 ∧ σ.2.2 98 44 = some 122 ∧ σ.2.2 98 46 = some 123) ∧ σ.2.2 98 47 = some 124 ∧ σ.2.2 98 48 = some 125 ∧ σ.2.2 98 49 = some 126
theorem zMb {a b : Int} (h1 : 0 ≤ a) (h2 : a ≤ 6) (h3 : 0 ≤ b) (h4 : b ≤ 6) : 0 ≤ a * b ∧ a * b ≤ 36 := by
  have h : a = 0 ∨ a = 1 ∨ a = 2 ∨ a = 3 ∨ a = 4 ∨ a = 5 ∨ a = 6 := by omega
  rcases h with rfl | rfl | rfl | rfl | rfl | rfl | rfl <;> constructor <;> omega
theorem zMx {w h z x : Int} (h1 : 1 ≤ w) (h2 : w ≤ 6) (h3 : h ≤ 6) (h4 : 0 ≤ z) (h5 : z ≤ h - 1) (h6 : 0 ≤ x) (h7 : x ≤ w - 1) : 0 ≤ w * z ∧ w * z ≤ 30 ∧ 0 ≤ w * z + x ∧ w * z + x < w * h := by
  have a : w = 1 ∨ w = 2 ∨ w = 3 ∨ w = 4 ∨ w = 5 ∨ w = 6 := by omega
  rcases a with rfl | rfl | rfl | rfl | rfl | rfl <;> refine ⟨?_, ?_, ?_, ?_⟩ <;> omega
theorem zRf_I (σ : zeS) (k : Nat) (i v : Int) : zRf (zuI σ k i v) = zRf σ := rfl
theorem zRf_L (σ : zeS) (k : Nat) (i : Int) (v : Int64) : zRf (zuL σ k i v) = zRf σ := rfl
theorem zRf_R (σ : zeS) (v : Option Nat) : zRf (zuR σ 98 16 v) = zRf σ := rfl
theorem zeCmp_0 (a b : Int64) : (zeCmp a b = 0) = (a = b) := by
  unfold zeCmp
  rw [← Int64.toInt_inj]
  apply propext
  constructor
  · intro h
    split at h
    · omega
    · split at h
      · assumption
      · omega
  · intro h
    rw [if_neg (by omega), if_pos h]
theorem zL1 : Int64.ofInt 1 = 1 := rfl
/-! rows changed whole; what always holds of the reference's cells -/
def zup {α : Type} (g : Int → α) (i : Int) (v : α) : Int → α := fun j => if j = i then v else g j
theorem zup_at {α : Type} (g : Int → α) (i : Int) (v : α) (j : Int) : zup g i v j = if j = i then v else g j := rfl
def zrI (σ : zeS) (k : Nat) (g : Int → Int) : zeS := (fun k' i => if k' = k then g i else σ.1 k' i, σ.2)
def zrL (σ : zeS) (k : Nat) (g : Int → Int64) : zeS := (σ.1, fun k' i => if k' = k then g i else σ.2.1 k' i, σ.2.2)
theorem zrI_1 (σ : zeS) (k : Nat) (g : Int → Int) (k' : Nat) (i : Int) : (zrI σ k g).1 k' i = if k' = k then g i else σ.1 k' i := rfl
theorem zrI_2 (σ : zeS) (k : Nat) (g : Int → Int) : (zrI σ k g).2.1 = σ.2.1 := rfl
theorem zrI_3 (σ : zeS) (k : Nat) (g : Int → Int) : (zrI σ k g).2.2 = σ.2.2 := rfl
theorem zrL_1 (σ : zeS) (k : Nat) (g : Int → Int64) : (zrL σ k g).1 = σ.1 := rfl
theorem zrL_2 (σ : zeS) (k : Nat) (g : Int → Int64) (k' : Nat) (i : Int) : (zrL σ k g).2.1 k' i = if k' = k then g i else σ.2.1 k' i := rfl
theorem zrL_3 (σ : zeS) (k : Nat) (g : Int → Int64) : (zrL σ k g).2.2 = σ.2.2 := rfl
theorem zrI_self (σ : zeS) (k : Nat) : zrI σ k (σ.1 k) = σ := by
  refine Prod.ext ?_ rfl
  funext k' i
  show (if k' = k then σ.1 k i else σ.1 k' i) = σ.1 k' i
  by_cases h : k' = k
  · rw [if_pos h, h]
  · rw [if_neg h]
theorem zrL_self (σ : zeS) (k : Nat) : zrL σ k (σ.2.1 k) = σ := by
  refine Prod.ext rfl (Prod.ext ?_ rfl)
  funext k' i
  show (if k' = k then σ.2.1 k i else σ.2.1 k' i) = σ.2.1 k' i
  by_cases h : k' = k
  · rw [if_pos h, h]
  · rw [if_neg h]
theorem zuI_zrI (σ : zeS) (k : Nat) (g : Int → Int) (i v : Int) : zuI (zrI σ k g) k i v = zrI σ k (zup g i v) := by
  refine Prod.ext ?_ rfl
  funext k' j
  show (if k' = k ∧ j = i then v else if k' = k then g j else σ.1 k' j) = if k' = k then (if j = i then v else g j) else σ.1 k' j
  by_cases h : k' = k
  · by_cases h2 : j = i
    · rw [if_pos ⟨h, h2⟩, if_pos h, if_pos h2]
    · rw [if_neg (fun z => h2 z.2), if_pos h, if_pos h, if_neg h2]
  · rw [if_neg (fun z => h z.1), if_neg h, if_neg h]
theorem zuL_zrL (σ : zeS) (k : Nat) (g : Int → Int64) (i : Int) (v : Int64) : zuL (zrL σ k g) k i v = zrL σ k (zup g i v) := by
  refine Prod.ext rfl (Prod.ext ?_ rfl)
  funext k' j
  show (if k' = k ∧ j = i then v else if k' = k then g j else σ.2.1 k' j) = if k' = k then (if j = i then v else g j) else σ.2.1 k' j
  by_cases h : k' = k
  · by_cases h2 : j = i
    · rw [if_pos ⟨h, h2⟩, if_pos h, if_pos h2]
    · rw [if_neg (fun z => h2 z.2), if_pos h, if_pos h, if_neg h2]
  · rw [if_neg (fun z => h z.1), if_neg h, if_neg h]
/-- a store goes past another row's change -/
theorem zuI_zrI' (σ : zeS) {k k' : Nat} (h : ¬ k = k') (g : Int → Int) (i v : Int) : zuI (zrI σ k' g) k i v = zrI (zuI σ k i v) k' g := by
  refine Prod.ext ?_ rfl
  funext q j
  show (if q = k ∧ j = i then v else if q = k' then g j else σ.1 q j) = if q = k' then g j else (if q = k ∧ j = i then v else σ.1 q j)
  by_cases h1 : q = k'
  · rw [if_neg (fun z => h (by rw [← z.1, h1])), if_pos h1, if_pos h1]
  · rw [if_neg h1, if_neg h1]
theorem zuI_zrL (σ : zeS) (k k' : Nat) (g : Int → Int64) (i v : Int) : zuI (zrL σ k' g) k i v = zrL (zuI σ k i v) k' g := rfl
theorem zuL_zrI (σ : zeS) (k k' : Nat) (g : Int → Int) (i : Int) (v : Int64) : zuL (zrI σ k' g) k i v = zrI (zuL σ k i v) k' g := rfl
theorem zuR_zrI (σ : zeS) (k k' : Nat) (g : Int → Int) (i : Int) (v : Option Nat) : zuR (zrI σ k' g) k i v = zrI (zuR σ k i v) k' g := rfl
theorem zuR_zrL (σ : zeS) (k k' : Nat) (g : Int → Int64) (i : Int) (v : Option Nat) : zuR (zrL σ k' g) k i v = zrL (zuR σ k i v) k' g := rfl
theorem zuI_zuI (σ : zeS) (k : Nat) (i v v' : Int) : zuI (zuI σ k i v) k i v' = zuI σ k i v' := by
  refine Prod.ext ?_ rfl
  funext q j
  show (if q = k ∧ j = i then v' else if q = k ∧ j = i then v else σ.1 q j) = if q = k ∧ j = i then v' else σ.1 q j
  by_cases h : q = k ∧ j = i
  · rw [if_pos h, if_pos h]
  · rw [if_neg h, if_neg h, if_neg h]
theorem zRf_rI (σ : zeS) (k : Nat) (g : Int → Int) : zRf (zrI σ k g) = zRf σ := rfl
theorem zRf_rL (σ : zeS) (k : Nat) (g : Int → Int64) : zRf (zrL σ k g) = zRf σ := rfl
def zFg (σ : zeS) : Prop := (0 ≤ σ.1 98 4 ∧ σ.1 98 4 ≤ 24) ∧ (-1 ≤ σ.1 98 5 ∧ σ.1 98 5 ≤ 9) ∧ ∀ i : Int, 0 ≤ i → i ≤ 23 → 0 ≤ σ.1 100 i ∧ σ.1 100 i ≤ 9
def zYd (σ : zeS) : Prop := ∀ i : Int, 0 ≤ i → i ≤ 35 → 0 ≤ σ.1 99 i ∧ σ.1 99 i ≤ 10
def zWl (σ : zeS) : Prop := ∀ i : Int, 0 ≤ i → i ≤ 3 → ((0 ≤ σ.1 102 (5 * i + 1) ∧ σ.1 102 (5 * i + 1) ≤ 35) ∧ (0 ≤ σ.1 102 (5 * i + 2) ∧ σ.1 102 (5 * i + 2) ≤ 999)) ∧ (-1 ≤ σ.1 102 (5 * i + 3) ∧ σ.1 102 (5 * i + 3) ≤ 9) ∧ (0 ≤ σ.1 102 (5 * i + 4) ∧ σ.1 102 (5 * i + 4) ≤ 30)
theorem zFg_I {σ : zeS} {k : Nat} {i v : Int} (h : ¬ k = 100) (h2 : ¬ (k = 98 ∧ (i = 4 ∨ i = 5))) : zFg (zuI σ k i v) = zFg σ := by
  have e1 : (zuI σ k i v).1 98 4 = σ.1 98 4 := if_neg (fun z => h2 ⟨z.1.symm, Or.inl z.2.symm⟩)
  have e2 : (zuI σ k i v).1 98 5 = σ.1 98 5 := if_neg (fun z => h2 ⟨z.1.symm, Or.inr z.2.symm⟩)
  have e3 : ∀ j, (zuI σ k i v).1 100 j = σ.1 100 j := fun j => if_neg (fun z => h z.1.symm)
  unfold zFg
  simp only [e1, e2, e3]
theorem zFg_L (σ : zeS) (k : Nat) (i : Int) (v : Int64) : zFg (zuL σ k i v) = zFg σ := rfl
theorem zFg_R (σ : zeS) (k : Nat) (i : Int) (v : Option Nat) : zFg (zuR σ k i v) = zFg σ := rfl
theorem zFg_rL (σ : zeS) (k : Nat) (g : Int → Int64) : zFg (zrL σ k g) = zFg σ := rfl
theorem zFg_rI {σ : zeS} {k : Nat} {g : Int → Int} (h : ¬ k = 100) (h2 : ¬ k = 98) : zFg (zrI σ k g) = zFg σ := by
  have e1 : ∀ j, (zrI σ k g).1 98 j = σ.1 98 j := fun j => if_neg (fun z => h2 z.symm)
  have e3 : ∀ j, (zrI σ k g).1 100 j = σ.1 100 j := fun j => if_neg (fun z => h z.symm)
  unfold zFg
  simp only [e1, e3]
theorem zYd_I {σ : zeS} {k : Nat} {i v : Int} (h : ¬ k = 99) : zYd (zuI σ k i v) = zYd σ := by
  have e3 : ∀ j, (zuI σ k i v).1 99 j = σ.1 99 j := fun j => if_neg (fun z => h z.1.symm)
  unfold zYd
  simp only [e3]
theorem zYd_L (σ : zeS) (k : Nat) (i : Int) (v : Int64) : zYd (zuL σ k i v) = zYd σ := rfl
theorem zYd_R (σ : zeS) (k : Nat) (i : Int) (v : Option Nat) : zYd (zuR σ k i v) = zYd σ := rfl
theorem zYd_rL (σ : zeS) (k : Nat) (g : Int → Int64) : zYd (zrL σ k g) = zYd σ := rfl
theorem zYd_rI {σ : zeS} {k : Nat} {g : Int → Int} (h : ¬ k = 99) : zYd (zrI σ k g) = zYd σ := by
  have e3 : ∀ j, (zrI σ k g).1 99 j = σ.1 99 j := fun j => if_neg (fun z => h z.symm)
  unfold zYd
  simp only [e3]
theorem zWl_I {σ : zeS} {k : Nat} {i v : Int} (h : ¬ k = 102) : zWl (zuI σ k i v) = zWl σ := by
  have e3 : ∀ j, (zuI σ k i v).1 102 j = σ.1 102 j := fun j => if_neg (fun z => h z.1.symm)
  unfold zWl
  simp only [e3]
theorem zWl_L (σ : zeS) (k : Nat) (i : Int) (v : Int64) : zWl (zuL σ k i v) = zWl σ := rfl
theorem zWl_R (σ : zeS) (k : Nat) (i : Int) (v : Option Nat) : zWl (zuR σ k i v) = zWl σ := rfl
theorem zWl_rL (σ : zeS) (k : Nat) (g : Int → Int64) : zWl (zrL σ k g) = zWl σ := rfl
theorem zWl_rI {σ : zeS} {k : Nat} {g : Int → Int} (h : ¬ k = 102) : zWl (zrI σ k g) = zWl σ := by
  have e3 : ∀ j, (zrI σ k g).1 102 j = σ.1 102 j := fun j => if_neg (fun z => h z.symm)
  unfold zWl
  simp only [e3]
noncomputable def zc (p : Prop) : Int := @ite Int p (Classical.propDecidable p) 1 0
theorem zc_0 (p : Prop) : (zc p = 0) = ¬ p := by
  unfold zc
  by_cases h : p
  · simp [h]
  · simp [h]
theorem zc_1 (p : Prop) : (zc p = 1) = p := by
  unfold zc
  by_cases h : p
  · simp [h]
  · simp [h]
theorem zcp {p : Prop} (h : p) : zc p = 1 := by rw [zc_1]; exact h
theorem zcm {p : Prop} (h : ¬ p) : zc p = 0 := by rw [zc_0]; exact h
theorem zc_or (p : Prop) : (zc p = 0 ∨ zc p = 1) = True := by
  rw [zc_0, zc_1]
  exact eq_true ((Classical.em p).symm.imp id id)
theorem zuI_comm {σ : zeS} {k : Nat} {i j v w : Int} (h : i < j) : zuI (zuI σ k j w) k i v = zuI (zuI σ k i v) k j w := by
  refine Prod.ext ?_ rfl
  funext q x
  show (if q = k ∧ x = i then v else if q = k ∧ x = j then w else σ.1 q x) = if q = k ∧ x = j then w else (if q = k ∧ x = i then v else σ.1 q x)
  by_cases h1 : q = k ∧ x = i
  · rw [if_pos h1, if_neg (fun z => by have := h1.2; have := z.2; omega), if_pos h1]
  · rw [if_neg h1, if_neg h1]
theorem zuI_self (σ : zeS) (k : Nat) (i : Int) : zuI σ k i (σ.1 k i) = σ := by
  refine Prod.ext ?_ rfl
  funext q x
  show (if q = k ∧ x = i then σ.1 k i else σ.1 q x) = σ.1 q x
  by_cases h : q = k ∧ x = i
  · rw [if_pos h, h.1, h.2]
  · rw [if_neg h]
theorem zTmin {own : String} {Mi : xMi} {rm : Nat × Nat} {i : Nat} {T : zeT} (hrm : 1 ≤ rm.1 ∧ 40 ≤ rm.2) (hi : (i, 1) ∈ Mi.2.2.2.2.2) (hT : ∀ as σ Q, T as σ Q → ∃ a b : Int, as = [.inl a, .inl b] ∧ Q (some (.inl (min a b))) σ) : zeTok own Mi rm zdM (i + 100000, 2, T) := Or.inr (Or.inr (Or.inl ⟨i, rfl, rfl, hrm.1, hrm.2, Or.inl ⟨hi, hT⟩⟩))
theorem zTmax {own : String} {Mi : xMi} {rm : Nat × Nat} {i : Nat} {T : zeT} (hrm : 1 ≤ rm.1 ∧ 40 ≤ rm.2) (hi : (i, 2) ∈ Mi.2.2.2.2.2) (hT : ∀ as σ Q, T as σ Q → ∃ a b : Int, as = [.inl a, .inl b] ∧ Q (some (.inl (max a b))) σ) : zeTok own Mi rm zdM (i + 100000, 2, T) := Or.inr (Or.inr (Or.inl ⟨i, rfl, rfl, hrm.1, hrm.2, Or.inr ⟨hi, hT⟩⟩))
theorem zTx {own : String} {Mi : xMi} {rm : Nat × Nat} {i : Nat} {T : zeT} (hrm : 4 ≤ rm.1 ∧ 131 ≤ rm.2) (hi : (i, 5) ∈ Mi.2.2.2.2.2) (hl : i < 100000) (hT : ∀ as σ Q, T as σ Q → ∃ (j n : Nat) (y : Int), xStL j = some n ∧ as = [.inr (.inr (some j)), .inl y] ∧ ∀ r : Int, -1 ≤ r → r ≤ (n : Int) - 1 → Q (some (.inl r)) σ) : zeTok own Mi rm zdM (i, 2, T) := Or.inr (Or.inr (Or.inr ⟨hl, rfl, hrm.1, hrm.2, hi, hT⟩))
def tT_min : zeT := fun as σ Q => match as with
  | [.inl a, .inl b] => Q (some (.inl (min a b))) σ
  | _ => False
def tT_max : zeT := fun as σ Q => match as with
  | [.inl a, .inl b] => Q (some (.inl (max a b))) σ
  | _ => False
def tT_idx : zeT := fun as σ Q => match as with
  | [r, .inl _] => r = .inr (.inr (some 3)) ∧ ∀ q : Int, -1 ≤ q → q ≤ 4 → Q (some (.inl q)) σ
  | _ => False
theorem tT_min_ok (as : List zeV) (σ : zeS) (Q : Option zeV → zeS → Prop) (h : tT_min as σ Q) : ∃ a b : Int, as = [.inl a, .inl b] ∧ Q (some (.inl (min a b))) σ := by
  unfold tT_min at h
  split at h
  · exact ⟨_, _, rfl, h⟩
  · exact h.elim
theorem tT_max_ok (as : List zeV) (σ : zeS) (Q : Option zeV → zeS → Prop) (h : tT_max as σ Q) : ∃ a b : Int, as = [.inl a, .inl b] ∧ Q (some (.inl (max a b))) σ := by
  unfold tT_max at h
  split at h
  · exact ⟨_, _, rfl, h⟩
  · exact h.elim
theorem tT_idx_ok (as : List zeV) (σ : zeS) (Q : Option zeV → zeS → Prop) (h : tT_idx as σ Q) : ∃ (j n : Nat) (y : Int), xStL j = some n ∧ as = [.inr (.inr (some j)), .inl y] ∧ ∀ r : Int, -1 ≤ r → r ≤ (n : Int) - 1 → Q (some (.inl r)) σ := by
  unfold tT_idx at h
  split at h
  · obtain ⟨rfl, h⟩ := h
    exact ⟨3, 5, _, rfl, rfl, fun r h1 h2 => h r h1 (by omega)⟩
  · exact h.elim
/-! what owedIn changes -/
def zOwP (k : Nat) (i : Int) : Prop := k = 98 ∧ (i = 17 ∨ i = 18 ∨ i = 19 ∨ i = 20 ∨ i = 24 ∨ i = 25 ∨ i = 26 ∨ i = 27)
def zOwS (σ : zeS) (p : Option Nat) (g : Int → Int) : zeS := (fun k i => if k = 98 ∧ (i = 17 ∨ i = 18 ∨ i = 19 ∨ i = 20 ∨ i = 24 ∨ i = 25 ∨ i = 26 ∨ i = 27) then g i else σ.1 k i, σ.2.1, fun k i => if k = 98 ∧ i = 16 then p else σ.2.2 k i)
theorem zOw_1 (σ : zeS) (p : Option Nat) (g : Int → Int) (k : Nat) (i : Int) : (zOwS σ p g).1 k i = if k = 98 ∧ (i = 17 ∨ i = 18 ∨ i = 19 ∨ i = 20 ∨ i = 24 ∨ i = 25 ∨ i = 26 ∨ i = 27) then g i else σ.1 k i := rfl
theorem zOw_2 (σ : zeS) (p : Option Nat) (g : Int → Int) : (zOwS σ p g).2.1 = σ.2.1 := rfl
theorem zOw_3 (σ : zeS) (p : Option Nat) (g : Int → Int) (k : Nat) (i : Int) : (zOwS σ p g).2.2 k i = if k = 98 ∧ i = 16 then p else σ.2.2 k i := rfl
theorem zOw_eq {σ τ : zeS} (h1 : ∀ (k : Nat) (i : Int), ¬ zOwP k i → τ.1 k i = σ.1 k i) (h2 : τ.2.1 = σ.2.1) (h3 : ∀ (k : Nat) (i : Int), ¬ (k = 98 ∧ i = 16) → τ.2.2 k i = σ.2.2 k i) : τ = zOwS σ (τ.2.2 98 16) (τ.1 98) := by
  refine Prod.ext ?_ (Prod.ext h2 ?_)
  · funext k i
    rw [zOw_1]
    by_cases h : k = 98 ∧ (i = 17 ∨ i = 18 ∨ i = 19 ∨ i = 20 ∨ i = 24 ∨ i = 25 ∨ i = 26 ∨ i = 27)
    · rw [if_pos h, h.1]
    · rw [if_neg h, h1 k i h]
  · funext k i
    show τ.2.2 k i = if k = 98 ∧ i = 16 then τ.2.2 98 16 else σ.2.2 k i
    by_cases h : k = 98 ∧ i = 16
    · rw [if_pos h, h.1, h.2]
    · rw [if_neg h, h3 k i h]
theorem zOw_self (σ : zeS) : zOwS σ (σ.2.2 98 16) (σ.1 98) = σ := (zOw_eq (fun _ _ _ => rfl) rfl (fun _ _ _ => rfl)).symm
theorem zOw_Ow (σ : zeS) (p p' : Option Nat) (g g' : Int → Int) : zOwS (zOwS σ p g) p' g' = zOwS σ p' g' := by
  refine Prod.ext ?_ (Prod.ext rfl ?_)
  · funext k i
    rw [zOw_1, zOw_1, zOw_1]
    by_cases h : k = 98 ∧ (i = 17 ∨ i = 18 ∨ i = 19 ∨ i = 20 ∨ i = 24 ∨ i = 25 ∨ i = 26 ∨ i = 27)
    · rw [if_pos h, if_pos h]
    · rw [if_neg h, if_neg h, if_neg h]
  · funext k i
    rw [zOw_3, zOw_3, zOw_3]
    by_cases h : k = 98 ∧ i = 16
    · rw [if_pos h, if_pos h]
    · rw [if_neg h, if_neg h, if_neg h]
theorem zOw_I {σ : zeS} {p : Option Nat} {g : Int → Int} {k : Nat} {i v : Int} (h : ¬ (k = 98 ∧ (i = 17 ∨ i = 18 ∨ i = 19 ∨ i = 20 ∨ i = 24 ∨ i = 25 ∨ i = 26 ∨ i = 27))) : zuI (zOwS σ p g) k i v = zOwS (zuI σ k i v) p g := by
  refine Prod.ext ?_ (Prod.ext rfl rfl)
  funext k' i'
  rw [zuI_1, zOw_1, zOw_1, zuI_1]
  by_cases h1 : k' = k ∧ i' = i
  · rw [if_pos h1, if_neg (by rw [h1.1, h1.2]; exact h), if_pos h1]
  · rw [if_neg h1, if_neg h1]
theorem zOw_L (σ : zeS) (p : Option Nat) (g : Int → Int) (k : Nat) (i : Int) (v : Int64) : zuL (zOwS σ p g) k i v = zOwS (zuL σ k i v) p g := rfl
theorem zOw_rL (σ : zeS) (p : Option Nat) (g : Int → Int) (k : Nat) (f : Int → Int64) : zrL (zOwS σ p g) k f = zOwS (zrL σ k f) p g := rfl
theorem zOw_rI {σ : zeS} {p : Option Nat} {g : Int → Int} {k : Nat} {f : Int → Int} (h : ¬ k = 98) : zrI (zOwS σ p g) k f = zOwS (zrI σ k f) p g := by
  refine Prod.ext ?_ (Prod.ext rfl rfl)
  funext k' i'
  rw [zrI_1, zOw_1, zOw_1, zrI_1]
  by_cases h1 : k' = k
  · rw [if_pos h1, if_neg (fun z => h (by rw [← h1]; exact z.1)), if_pos h1]
  · rw [if_neg h1, if_neg h1]
theorem zRf_Ow (σ : zeS) (p : Option Nat) (g : Int → Int) : zRf (zOwS σ p g) = zRf σ := rfl
theorem zFg_Ow (σ : zeS) (p : Option Nat) (g : Int → Int) : zFg (zOwS σ p g) = zFg σ := rfl
theorem zYd_Ow (σ : zeS) (p : Option Nat) (g : Int → Int) : zYd (zOwS σ p g) = zYd σ := rfl
theorem zWl_Ow (σ : zeS) (p : Option Nat) (g : Int → Int) : zWl (zOwS σ p g) = zWl σ := rfl

/-! the reference's calls, over the law's plan -/
theorem zdM_L : ∀ p ∈ zdM, p ∈ zdL := fun p hp => List.mem_append_right _ (List.mem_append_left _ hp)
theorem zdM_i : ∀ k, k ∈ zsI zdM ↔ 98 ≤ k ∧ k ≤ 126 := fun k => by
  have e : zsI zdM = List.range' 98 29 := by decide +kernel
  rw [e, List.mem_range'_1]
  omega
theorem zdL_98 : zeLy 98 zdL = some (.inl 12) := by decide +kernel
/-- what is known of the reference's cells is known where they tell the same -/
theorem zGI_sm {σ τ : zeS} (h : ∀ k, 98 ≤ k → k ≤ 126 → zeSm σ τ k) (g : zGI σ) : zGI τ := by
  have a98 : ∀ i, τ.1 98 i = σ.1 98 i := (h 98 (by decide) (by decide)).1
  have b98 : ∀ i, τ.2.2 98 i = σ.2.2 98 i := (h 98 (by decide) (by decide)).2.2
  have a99 : ∀ i, τ.1 99 i = σ.1 99 i := (h 99 (by decide) (by decide)).1
  have a100 : ∀ i, τ.1 100 i = σ.1 100 i := (h 100 (by decide) (by decide)).1
  have a102 : ∀ i, τ.1 102 i = σ.1 102 i := (h 102 (by decide) (by decide)).1
  have a104 : ∀ i, τ.1 104 i = σ.1 104 i := (h 104 (by decide) (by decide)).1
  have a123 : ∀ i, τ.1 123 i = σ.1 123 i := (h 123 (by decide) (by decide)).1
  unfold zGI zRf zFg zYd zWl zKp zTz at g ⊢
  simp only [a98, b98, a99, a100, a102, a104, a123]
  exact g
/-- a call of the reference: n ints -/
def tM (n : Nat) (post : zeS → zeS → Prop) : zeT := fun as σ Q => (match as with
  | hv :: xs => hv = .inr (.inr (some 98)) ∧ zInts xs ∧ xs.length = n
  | [] => False) ∧ zGI σ ∧ ∀ (r : Int) (τ : zeS), zGI τ → (∀ k', k' < 98 ∨ 126 < k' → zeSm σ τ k') → post σ τ → Q (some (.inl r)) τ
def qK (σ τ : zeS) : Prop := zKe σ τ
theorem zmg_x {σ τ : zeS} (i : Int) : (zmg (zsI zdM) σ τ).1 104 i = τ.1 104 i := (zmg_p ((zdM_i 104).mpr (by omega))).1 i
def qZ (_ τ : zeS) : Prop := τ.1 98 12 = 0
theorem zmg_G {σ τ : zeS} (g : zGI τ) : zGI (zmg (zsI zdM) σ τ) := zGI_sm (fun k h1 h2 => zmg_p ((zdM_i k).mpr ⟨h1, h2⟩)) g
theorem zmg_o {σ τ : zeS} : ∀ k', k' < 98 ∨ 126 < k' → zeSm σ (zmg (zsI zdM) σ τ) k' := fun k' h => zmg_n (fun z => by have := (zdM_i k').mp z; omega)
theorem zmg_t {σ τ : zeS} : (zmg (zsI zdM) σ τ).1 98 12 = τ.1 98 12 := (zmg_p ((zdM_i 98).mpr (by omega))).1 12
theorem zr_of {M : xM} {rm : Nat × Nat} {T : zeT} {n : Nat} {post : zeS → zeS → Prop} (hT : ∀ (as : List zeV) (σ : zeS) (Q : Option zeV → zeS → Prop), T as σ Q → (∃ k, as.head? = some (.inr (.inr (some k))) ∧ zeLy k zdM = some (.inl 12)) ∧ zeMet M rm zdM as σ Q)
    (hU : ∀ (xs : List Int) (σ : zeS) (Q : Option zeV → zeS → Prop), xs.length = n → zGI σ → (∀ (r : Int) (τ : zeS), zGI τ → post σ τ → Q (some (.inl r)) τ) → T (.inr (.inr (some 98)) :: xs.map Sum.inl) σ Q)
    (hp : ∀ σ τ, post σ τ → post σ (zmg (zsI zdM) σ τ)) (as : List zeV) (σ : zeS) (Q : Option zeV → zeS → Prop) (h : tM n post as σ Q) : (∃ k, as.head? = some (.inr (.inr (some k))) ∧ zeLy k zdL = some (.inl 12)) ∧ zeMet M rm zdL as σ Q := by
  obtain ⟨h1, h2, h3⟩ := h
  split at h1
  rotate_left
  · exact h1.elim
  rename_i hv ys
  obtain ⟨rfl, hi, hl⟩ := h1
  obtain ⟨xs, rfl⟩ := zInts_ex hi
  refine ⟨⟨98, rfl, zdL_98⟩, zsM zdM_nd zdL_nd zdM_L ?_⟩
  refine (hT _ σ _ ?_).2
  refine hU xs σ _ (by rw [← hl, List.length_map]) h2 ?_
  intro r τ g1 g2
  exact h3 r (zmg (zsI zdM) σ τ) (zmg_G g1) zmg_o (hp σ τ g2)
theorem qK_p (σ τ : zeS) (h : qK σ τ) : qK σ (zmg (zsI zdM) σ τ) := ⟨by rw [zmg_t]; exact h.1, fun i => by rw [zmg_x]; exact h.2 i⟩
theorem qZ_p (σ τ : zeS) (h : qZ σ τ) : qZ σ (zmg (zsI zdM) σ τ) := by
  show (zmg (zsI zdM) σ τ).1 98 12 = _
  rw [zmg_t]; exact h
theorem zr_town : ∀ (as : List zeV) (σ : zeS) (Q : Option zeV → zeS → Prop), tM 0 qZ as σ Q → (∃ k, as.head? = some (.inr (.inr (some k))) ∧ zeLy k zdL = some (.inl 12)) ∧ zeMet xM_X12_town (2, 42) zdL as σ Q := zr_of zm_town (fun xs σ Q hl hG h => match xs, hl with
  | [], _ => ⟨rfl, hG, h⟩) qZ_p
theorem zr_fog : ∀ (as : List zeV) (σ : zeS) (Q : Option zeV → zeS → Prop), tM 0 qZ as σ Q → (∃ k, as.head? = some (.inr (.inr (some k))) ∧ zeLy k zdL = some (.inl 12)) ∧ zeMet xM_X12_fog (1, 22) zdL as σ Q := zr_of zm_fog (fun xs σ Q hl hG h => match xs, hl with
  | [], _ => ⟨rfl, hG, h⟩) qZ_p
theorem zr_rule : ∀ (as : List zeV) (σ : zeS) (Q : Option zeV → zeS → Prop), tM 0 qZ as σ Q → (∃ k, as.head? = some (.inr (.inr (some k))) ∧ zeLy k zdL = some (.inl 12)) ∧ zeMet xM_X12_rule (176, 5094) zdL as σ Q := zr_of zm_rule (fun xs σ Q hl hG h => match xs, hl with
  | [], _ => ⟨rfl, hG, h⟩) qZ_p
theorem zr_yard : ∀ (as : List zeV) (σ : zeS) (Q : Option zeV → zeS → Prop), tM 1 qK as σ Q → (∃ k, as.head? = some (.inr (.inr (some k))) ∧ zeLy k zdL = some (.inl 12)) ∧ zeMet xM_X12_yard (2, 43) zdL as σ Q := zr_of zm_yard (fun xs σ Q hl hG h => match xs, hl with
  | [_], _ => ⟨rfl, hG, h⟩) qK_p
theorem zr_lamp : ∀ (as : List zeV) (σ : zeS) (Q : Option zeV → zeS → Prop), tM 2 qK as σ Q → (∃ k, as.head? = some (.inr (.inr (some k))) ∧ zeLy k zdL = some (.inl 12)) ∧ zeMet xM_X12_lamp (3, 64) zdL as σ Q := zr_of zm_lamp (fun xs σ Q hl hG h => match xs, hl with
  | [_, _], _ => ⟨rfl, hG, h⟩) qK_p
theorem zr_err : ∀ (as : List zeV) (σ : zeS) (Q : Option zeV → zeS → Prop), tM 1 qK as σ Q → (∃ k, as.head? = some (.inr (.inr (some k))) ∧ zeLy k zdL = some (.inl 12)) ∧ zeMet xM_X12_err (1, 22) zdL as σ Q := zr_of zm_err (fun xs σ Q hl hG h => match xs, hl with
  | [_], _ => ⟨rfl, hG, h⟩) qK_p
theorem zr_thick : ∀ (as : List zeV) (σ : zeS) (Q : Option zeV → zeS → Prop), tM 1 qK as σ Q → (∃ k, as.head? = some (.inr (.inr (some k))) ∧ zeLy k zdL = some (.inl 12)) ∧ zeMet xM_X12_thick (2, 42) zdL as σ Q := zr_of zm_thick (fun xs σ Q hl hG h => match xs, hl with
  | [_], _ => ⟨rfl, hG, h⟩) qK_p
theorem zr_sheet : ∀ (as : List zeV) (σ : zeS) (Q : Option zeV → zeS → Prop), tM 4 qK as σ Q → (∃ k, as.head? = some (.inr (.inr (some k))) ∧ zeLy k zdL = some (.inl 12)) ∧ zeMet xM_X12_sheet (1, 49) zdL as σ Q := zr_of zm_sheet (fun xs σ Q hl hG h => match xs, hl with
  | [_, _, _, _], _ => ⟨rfl, hG, h⟩) qK_p
theorem zr_rope : ∀ (as : List zeV) (σ : zeS) (Q : Option zeV → zeS → Prop), tM 2 qK as σ Q → (∃ k, as.head? = some (.inr (.inr (some k))) ∧ zeLy k zdL = some (.inl 12)) ∧ zeMet xM_X12_rope (3, 73) zdL as σ Q := zr_of zm_rope (fun xs σ Q hl hG h => match xs, hl with
  | [_, _], _ => ⟨rfl, hG, h⟩) qK_p
theorem zr_unrope : ∀ (as : List zeV) (σ : zeS) (Q : Option zeV → zeS → Prop), tM 0 qK as σ Q → (∃ k, as.head? = some (.inr (.inr (some k))) ∧ zeLy k zdL = some (.inl 12)) ∧ zeMet xM_X12_unrope (0, 0) zdL as σ Q := zr_of zm_unrope (fun xs σ Q hl hG h => match xs, hl with
  | [], _ => ⟨rfl, hG, h⟩) qK_p
theorem zr_lit : ∀ (as : List zeV) (σ : zeS) (Q : Option zeV → zeS → Prop), tM 1 qK as σ Q → (∃ k, as.head? = some (.inr (.inr (some k))) ∧ zeLy k zdL = some (.inl 12)) ∧ zeMet xM_X12_lit (4, 99) zdL as σ Q := zr_of zm_lit (fun xs σ Q hl hG h => match xs, hl with
  | [_], _ => ⟨rfl, hG, h⟩) qK_p
theorem zr_sees : ∀ (as : List zeV) (σ : zeS) (Q : Option zeV → zeS → Prop), tM 3 qK as σ Q → (∃ k, as.head? = some (.inr (.inr (some k))) ∧ zeLy k zdL = some (.inl 12)) ∧ zeMet xM_X12_sees (5, 122) zdL as σ Q := zr_of zm_sees (fun xs σ Q hl hG h => match xs, hl with
  | [_, _, _], _ => ⟨rfl, hG, h⟩) qK_p
theorem zr_owed : ∀ (as : List zeV) (σ : zeS) (Q : Option zeV → zeS → Prop), tM 3 qK as σ Q → (∃ k, as.head? = some (.inr (.inr (some k))) ∧ zeLy k zdL = some (.inl 12)) ∧ zeMet xM_X12_owed (177, 5117) zdL as σ Q := zr_of zm_owed (fun xs σ Q hl hG h => match xs, hl with
  | [_, _, _], _ => ⟨rfl, hG, h⟩) qK_p
theorem zr_seen : ∀ (as : List zeV) (σ : zeS) (Q : Option zeV → zeS → Prop), tM 3 qK as σ Q → (∃ k, as.head? = some (.inr (.inr (some k))) ∧ zeLy k zdL = some (.inl 12)) ∧ zeMet xM_X12_seen (5, 122) zdL as σ Q := zr_of zm_seen (fun xs σ Q hl hG h => match xs, hl with
  | [_, _, _], _ => ⟨rfl, hG, h⟩) qK_p
theorem zr_dearest : ∀ (as : List zeV) (σ : zeS) (Q : Option zeV → zeS → Prop), tM 2 qK as σ Q → (∃ k, as.head? = some (.inr (.inr (some k))) ∧ zeLy k zdL = some (.inl 12)) ∧ zeMet xM_X12_dearest (177, 5117) zdL as σ Q := zr_of zm_dearest (fun xs σ Q hl hG h => match xs, hl with
  | [_, _], _ => ⟨rfl, hG, h⟩) qK_p
theorem zr_light : ∀ (as : List zeV) (σ : zeS) (Q : Option zeV → zeS → Prop), tM 2 qK as σ Q → (∃ k, as.head? = some (.inr (.inr (some k))) ∧ zeLy k zdL = some (.inl 12)) ∧ zeMet xM_X12_light (4, 99) zdL as σ Q := zr_of zm_light (fun xs σ Q hl hG h => match xs, hl with
  | [_, _], _ => ⟨rfl, hG, h⟩) qK_p
theorem zr_needs : ∀ (as : List zeV) (σ : zeS) (Q : Option zeV → zeS → Prop), tM 3 qK as σ Q → (∃ k, as.head? = some (.inr (.inr (some k))) ∧ zeLy k zdL = some (.inl 12)) ∧ zeMet xM_X12_needs (5, 122) zdL as σ Q := zr_of zm_needs (fun xs σ Q hl hG h => match xs, hl with
  | [_, _, _], _ => ⟨rfl, hG, h⟩) qK_p
theorem zr_walk : ∀ (as : List zeV) (σ : zeS) (Q : Option zeV → zeS → Prop), tM 4 qZ as σ Q → (∃ k, as.head? = some (.inr (.inr (some k))) ∧ zeLy k zdL = some (.inl 12)) ∧ zeMet xM_X12_walk (4, 139) zdL as σ Q := zr_of zm_walk (fun xs σ Q hl hG h => match xs, hl with
  | [_, _, _, _], _ => ⟨rfl, hG, h⟩) qZ_p
theorem zr_drop : ∀ (as : List zeV) (σ : zeS) (Q : Option zeV → zeS → Prop), tM 1 qK as σ Q → (∃ k, as.head? = some (.inr (.inr (some k))) ∧ zeLy k zdL = some (.inl 12)) ∧ zeMet xM_X12_drop (2, 43) zdL as σ Q := zr_of zm_drop (fun xs σ Q hl hG h => match xs, hl with
  | [_], _ => ⟨rfl, hG, h⟩) qK_p
theorem zr_at : ∀ (as : List zeV) (σ : zeS) (Q : Option zeV → zeS → Prop), tM 2 qK as σ Q → (∃ k, as.head? = some (.inr (.inr (some k))) ∧ zeLy k zdL = some (.inl 12)) ∧ zeMet xM_X12_at (3, 71) zdL as σ Q := zr_of zm_at (fun xs σ Q hl hG h => match xs, hl with
  | [_, _], _ => ⟨rfl, hG, h⟩) qK_p
theorem zr_bill : ∀ (as : List zeV) (σ : zeS) (Q : Option zeV → zeS → Prop), tM 1 qK as σ Q → (∃ k, as.head? = some (.inr (.inr (some k))) ∧ zeLy k zdL = some (.inl 12)) ∧ zeMet xM_X12_bill (178, 5141) zdL as σ Q := zr_of zm_bill (fun xs σ Q hl hG h => match xs, hl with
  | [_], _ => ⟨rfl, hG, h⟩) qK_p
theorem zr_saw : ∀ (as : List zeV) (σ : zeS) (Q : Option zeV → zeS → Prop), tM 1 qK as σ Q → (∃ k, as.head? = some (.inr (.inr (some k))) ∧ zeLy k zdL = some (.inl 12)) ∧ zeMet xM_X12_saw (5, 122) zdL as σ Q := zr_of zm_saw (fun xs σ Q hl hG h => match xs, hl with
  | [_], _ => ⟨rfl, hG, h⟩) qK_p
theorem zr_dims : ∀ (as : List zeV) (σ : zeS) (Q : Option zeV → zeS → Prop), tM 1 qK as σ Q → (∃ k, as.head? = some (.inr (.inr (some k))) ∧ zeLy k zdL = some (.inl 12)) ∧ zeMet xM_X12_dims (178, 5141) zdL as σ Q := zr_of zm_dims (fun xs σ Q hl hG h => match xs, hl with
  | [_], _ => ⟨rfl, hG, h⟩) qK_p
theorem zr_adopt : ∀ (as : List zeV) (σ : zeS) (Q : Option zeV → zeS → Prop), tM 5 qK as σ Q → (∃ k, as.head? = some (.inr (.inr (some k))) ∧ zeLy k zdL = some (.inl 12)) ∧ zeMet xM_X12_adopt (6, 150) zdL as σ Q := zr_of zm_adopt (fun xs σ Q hl hG h => match xs, hl with
  | [_, _, _, _, _], _ => ⟨rfl, hG, h⟩) qK_p
theorem zr_hidden : ∀ (as : List zeV) (σ : zeS) (Q : Option zeV → zeS → Prop), tM 3 qK as σ Q → (∃ k, as.head? = some (.inr (.inr (some k))) ∧ zeLy k zdL = some (.inl 12)) ∧ zeMet xM_X12_hidden (5, 122) zdL as σ Q := zr_of zm_hidden (fun xs σ Q hl hG h => match xs, hl with
  | [_, _, _], _ => ⟨rfl, hG, h⟩) qK_p
theorem zr_hit : ∀ (as : List zeV) (σ : zeS) (Q : Option zeV → zeS → Prop), tM 2 qK as σ Q → (∃ k, as.head? = some (.inr (.inr (some k))) ∧ zeLy k zdL = some (.inl 12)) ∧ zeMet xM_X12_hit (7, 170) zdL as σ Q := zr_of zm_hit (fun xs σ Q hl hG h => match xs, hl with
  | [_, _], _ => ⟨rfl, hG, h⟩) qK_p
theorem zr_brush : ∀ (as : List zeV) (σ : zeS) (Q : Option zeV → zeS → Prop), tM 2 qK as σ Q → (∃ k, as.head? = some (.inr (.inr (some k))) ∧ zeLy k zdL = some (.inl 12)) ∧ zeMet xM_X12_brush (3, 71) zdL as σ Q := zr_of zm_brush (fun xs σ Q hl hG h => match xs, hl with
  | [_, _], _ => ⟨rfl, hG, h⟩) qK_p
theorem zr_hits : ∀ (as : List zeV) (σ : zeS) (Q : Option zeV → zeS → Prop), tM 0 qK as σ Q → (∃ k, as.head? = some (.inr (.inr (some k))) ∧ zeLy k zdL = some (.inl 12)) ∧ zeMet xM_X12_hits (7, 170) zdL as σ Q := zr_of zm_hits (fun xs σ Q hl hG h => match xs, hl with
  | [], _ => ⟨rfl, hG, h⟩) qK_p
theorem zr_takings : ∀ (as : List zeV) (σ : zeS) (Q : Option zeV → zeS → Prop), tM 1 qK as σ Q → (∃ k, as.head? = some (.inr (.inr (some k))) ∧ zeLy k zdL = some (.inl 12)) ∧ zeMet xM_X12_takings (177, 5117) zdL as σ Q := zr_of zm_takings (fun xs σ Q hl hG h => match xs, hl with
  | [_], _ => ⟨rfl, hG, h⟩) qK_p
theorem zr_fee : ∀ (as : List zeV) (σ : zeS) (Q : Option zeV → zeS → Prop), tM 1 qK as σ Q → (∃ k, as.head? = some (.inr (.inr (some k))) ∧ zeLy k zdL = some (.inl 12)) ∧ zeMet xM_X12_fee (178, 5141) zdL as σ Q := zr_of zm_fee (fun xs σ Q hl hG h => match xs, hl with
  | [_], _ => ⟨rfl, hG, h⟩) qK_p
theorem zr_way : ∀ (as : List zeV) (σ : zeS) (Q : Option zeV → zeS → Prop), tM 2 qK as σ Q → (∃ k, as.head? = some (.inr (.inr (some k))) ∧ zeLy k zdL = some (.inl 12)) ∧ zeMet xM_X12_way (3, 71) zdL as σ Q := zr_of zm_way (fun xs σ Q hl hG h => match xs, hl with
  | [_, _], _ => ⟨rfl, hG, h⟩) qK_p
theorem zr_cheapest : ∀ (as : List zeV) (σ : zeS) (Q : Option zeV → zeS → Prop), tM 5 qK as σ Q → (∃ k, as.head? = some (.inr (.inr (some k))) ∧ zeLy k zdL = some (.inl 12)) ∧ zeMet xM_X12_cheapest (178, 5142) zdL as σ Q := zr_of zm_cheapest (fun xs σ Q hl hG h => match xs, hl with
  | [_, _, _, _, _], _ => ⟨rfl, hG, h⟩) qK_p
theorem zr_safe : ∀ (as : List zeV) (σ : zeS) (Q : Option zeV → zeS → Prop), tM 4 qK as σ Q → (∃ k, as.head? = some (.inr (.inr (some k))) ∧ zeLy k zdL = some (.inl 12)) ∧ zeMet xM_X12_safe (6, 150) zdL as σ Q := zr_of zm_safe (fun xs σ Q hl hG h => match xs, hl with
  | [_, _, _, _], _ => ⟨rfl, hG, h⟩) qK_p
theorem zr_buys : ∀ (as : List zeV) (σ : zeS) (Q : Option zeV → zeS → Prop), tM 5 qK as σ Q → (∃ k, as.head? = some (.inr (.inr (some k))) ∧ zeLy k zdL = some (.inl 12)) ∧ zeMet xM_X12_buys (178, 5142) zdL as σ Q := zr_of zm_buys (fun xs σ Q hl hG h => match xs, hl with
  | [_, _, _, _, _], _ => ⟨rfl, hG, h⟩) qK_p
theorem zr_reach : ∀ (as : List zeV) (σ : zeS) (Q : Option zeV → zeS → Prop), tM 4 qK as σ Q → (∃ k, as.head? = some (.inr (.inr (some k))) ∧ zeLy k zdL = some (.inl 12)) ∧ zeMet xM_X12_reach (5, 126) zdL as σ Q := zr_of zm_reach (fun xs σ Q hl hG h => match xs, hl with
  | [_, _, _, _], _ => ⟨rfl, hG, h⟩) qK_p
theorem zr_tour : ∀ (as : List zeV) (σ : zeS) (Q : Option zeV → zeS → Prop), tM 5 qK as σ Q → (∃ k, as.head? = some (.inr (.inr (some k))) ∧ zeLy k zdL = some (.inl 12)) ∧ zeMet xM_X12_tour (5, 126) zdL as σ Q := zr_of zm_tour (fun xs σ Q hl hG h => match xs, hl with
  | [_, _, _, _, _], _ => ⟨rfl, hG, h⟩) qK_p
theorem zr_bears : ∀ (as : List zeV) (σ : zeS) (Q : Option zeV → zeS → Prop), tM 3 qK as σ Q → (∃ k, as.head? = some (.inr (.inr (some k))) ∧ zeLy k zdL = some (.inl 12)) ∧ zeMet xM_X12_bears (6, 150) zdL as σ Q := zr_of zm_bears (fun xs σ Q hl hG h => match xs, hl with
  | [_, _, _], _ => ⟨rfl, hG, h⟩) qK_p
theorem zr_waits : ∀ (as : List zeV) (σ : zeS) (Q : Option zeV → zeS → Prop), tM 4 qK as σ Q → (∃ k, as.head? = some (.inr (.inr (some k))) ∧ zeLy k zdL = some (.inl 12)) ∧ zeMet xM_X12_waits (6, 150) zdL as σ Q := zr_of zm_waits (fun xs σ Q hl hG h => match xs, hl with
  | [_, _, _, _], _ => ⟨rfl, hG, h⟩) qK_p
theorem zr_chance : ∀ (as : List zeV) (σ : zeS) (Q : Option zeV → zeS → Prop), tM 5 qK as σ Q → (∃ k, as.head? = some (.inr (.inr (some k))) ∧ zeLy k zdL = some (.inl 12)) ∧ zeMet xM_X12_chance (133, 3062) zdL as σ Q := zr_of zm_chance (fun xs σ Q hl hG h => match xs, hl with
  | [_, _, _, _, _], _ => ⟨rfl, hG, h⟩) qK_p
theorem zr_likely : ∀ (as : List zeV) (σ : zeS) (Q : Option zeV → zeS → Prop), tM 1 qK as σ Q → (∃ k, as.head? = some (.inr (.inr (some k))) ∧ zeLy k zdL = some (.inl 12)) ∧ zeMet xM_X12_likely (133, 3062) zdL as σ Q := zr_of zm_likely (fun xs σ Q hl hG h => match xs, hl with
  | [_], _ => ⟨rfl, hG, h⟩) qK_p
theorem zr_mean : ∀ (as : List zeV) (σ : zeS) (Q : Option zeV → zeS → Prop), tM 5 qK as σ Q → (∃ k, as.head? = some (.inr (.inr (some k))) ∧ zeLy k zdL = some (.inl 12)) ∧ zeMet xM_X12_mean (178, 5142) zdL as σ Q := zr_of zm_mean (fun xs σ Q hl hG h => match xs, hl with
  | [_, _, _, _, _], _ => ⟨rfl, hG, h⟩) qK_p
theorem zr_best : ∀ (as : List zeV) (σ : zeS) (Q : Option zeV → zeS → Prop), tM 4 qK as σ Q → (∃ k, as.head? = some (.inr (.inr (some k))) ∧ zeLy k zdL = some (.inl 12)) ∧ zeMet xM_X12_best (5, 126) zdL as σ Q := zr_of zm_best (fun xs σ Q hl hG h => match xs, hl with
  | [_, _, _, _], _ => ⟨rfl, hG, h⟩) qK_p
theorem zr_meet : ∀ (as : List zeV) (σ : zeS) (Q : Option zeV → zeS → Prop), tM 5 qK as σ Q → (∃ k, as.head? = some (.inr (.inr (some k))) ∧ zeLy k zdL = some (.inl 12)) ∧ zeMet xM_X12_meet (5, 126) zdL as σ Q := zr_of zm_meet (fun xs σ Q hl hG h => match xs, hl with
  | [_, _, _, _, _], _ => ⟨rfl, hG, h⟩) qK_p
theorem zr_lead : ∀ (as : List zeV) (σ : zeS) (Q : Option zeV → zeS → Prop), tM 5 qK as σ Q → (∃ k, as.head? = some (.inr (.inr (some k))) ∧ zeLy k zdL = some (.inl 12)) ∧ zeMet xM_X12_lead (177, 5117) zdL as σ Q := zr_of zm_lead (fun xs σ Q hl hG h => match xs, hl with
  | [_, _, _, _, _], _ => ⟨rfl, hG, h⟩) qK_p
theorem zr_keep : ∀ (as : List zeV) (σ : zeS) (Q : Option zeV → zeS → Prop), tM 1 qK as σ Q → (∃ k, as.head? = some (.inr (.inr (some k))) ∧ zeLy k zdL = some (.inl 12)) ∧ zeMet xM_X12_keep (1, 22) zdL as σ Q := zr_of zm_keep (fun xs σ Q hl hG h => match xs, hl with
  | [_], _ => ⟨rfl, hG, h⟩) qK_p
theorem zr_again : ∀ (as : List zeV) (σ : zeS) (Q : Option zeV → zeS → Prop), tM 1 qK as σ Q → (∃ k, as.head? = some (.inr (.inr (some k))) ∧ zeLy k zdL = some (.inl 12)) ∧ zeMet xM_X12_again (1, 22) zdL as σ Q := zr_of zm_again (fun xs σ Q hl hG h => match xs, hl with
  | [_], _ => ⟨rfl, hG, h⟩) qK_p
theorem zr_count : ∀ (as : List zeV) (σ : zeS) (Q : Option zeV → zeS → Prop), tM 1 qK as σ Q → (∃ k, as.head? = some (.inr (.inr (some k))) ∧ zeLy k zdL = some (.inl 12)) ∧ zeMet xM_X12_count (2, 43) zdL as σ Q := zr_of zm_count (fun xs σ Q hl hG h => match xs, hl with
  | [_], _ => ⟨rfl, hG, h⟩) qK_p
def tMe : zeT := fun as σ Q => match as with
  | [hv, .inl n] => hv = .inr (.inr (some 98)) ∧ zGI σ ∧ (¬ (0 ≤ n ∧ n ≤ σ.1 98 12) → ∀ τ : zeS, zGI τ → (∀ k', k' < 98 ∨ 126 < k' → zeSm σ τ k') → zKe σ τ → Q (some (.inl 0)) τ) ∧ (0 ≤ n ∧ n ≤ σ.1 98 12 → ∀ τ : zeS, zGI τ → (∀ k', k' < 98 ∨ 126 < k' → zeSm σ τ k') → τ.1 98 12 = n → (∀ i : Int, τ.1 104 i = σ.1 104 i) → Q (some (.inl 1)) τ)
  | _ => False
theorem zr_end (as : List zeV) (σ : zeS) (Q : Option zeV → zeS → Prop) (h : tMe as σ Q) : (∃ k, as.head? = some (.inr (.inr (some k))) ∧ zeLy k zdL = some (.inl 12)) ∧ zeMet xM_X12_end (1, 22) zdL as σ Q := by
  unfold tMe at h
  split at h
  rotate_left
  · exact h.elim
  obtain ⟨rfl, hG, h1, h2⟩ := h
  refine ⟨⟨98, rfl, zdL_98⟩, zsM zdM_nd zdL_nd zdM_L ?_⟩
  refine (zm_end _ σ _ ?_).2
  exact ⟨rfl, hG, fun a τ g1 g2 => h1 a _ (zmg_G g1) zmg_o (qK_p _ _ g2), fun a τ g1 g2 => h2 a _ (zmg_G g1) zmg_o (by rw [zmg_t]; exact g2.1) (fun i => by rw [zmg_x]; exact g2.2 i)⟩
def tMr : zeT := fun as σ Q => match as with
  | [hv, .inl _] => hv = .inr (.inr (some 98)) ∧ zGI σ ∧ ∀ (r : Int64) (τ : zeS), zGI τ → (∀ k', k' < 98 ∨ 126 < k' → zeSm σ τ k') → zKe σ τ → Q (some (.inr (.inl r))) τ
  | _ => False
theorem zr_row (as : List zeV) (σ : zeS) (Q : Option zeV → zeS → Prop) (h : tMr as σ Q) : (∃ k, as.head? = some (.inr (.inr (some k))) ∧ zeLy k zdL = some (.inl 12)) ∧ zeMet xM_X12_row (1, 22) zdL as σ Q := by
  unfold tMr at h
  split at h
  rotate_left
  · exact h.elim
  obtain ⟨rfl, hG, h1⟩ := h
  refine ⟨⟨98, rfl, zdL_98⟩, zsM zdM_nd zdL_nd zdM_L ?_⟩
  refine (zm_row _ σ _ ?_).2
  exact ⟨rfl, hG, fun r τ g1 g2 => h1 r _ (zmg_G g1) zmg_o (qK_p _ _ g2)⟩

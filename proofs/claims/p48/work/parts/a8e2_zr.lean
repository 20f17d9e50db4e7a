/-! sign and fog of the reference over the law's plan, exactly; the two texts are one -/
def tMsX : zeT := fun as σ Q => match as with
  | [hv, .inl v] => hv = .inr (.inr (some 98)) ∧ zGI σ ∧ (80 < σ.1 98 12 + 4 → ∀ τ : zeS, zGI τ → (∀ k', k' < 98 ∨ 126 < k' → zeSm σ τ k') → zKe σ τ → Q (some (.inl (-1))) τ) ∧ (σ.1 98 12 + 4 ≤ 80 → ∀ τ : zeS, zGI τ → (∀ k', k' < 98 ∨ 126 < k' → zeSm σ τ k') → τ.1 98 12 = σ.1 98 12 + 4 → (∀ i : Int, ¬ (σ.1 98 12 ≤ i ∧ i < σ.1 98 12 + 4) → τ.1 104 i = σ.1 104 i) → (∀ j : Int, 0 ≤ j → j < 4 → τ.1 104 (σ.1 98 12 + j) = zByR v (3 - j)) → Q (some (.inl (σ.1 98 12 + 4))) τ)
  | _ => False
theorem zr_signX (as : List zeV) (σ : zeS) (Q : Option zeV → zeS → Prop) (h : tMsX as σ Q) : (∃ k, as.head? = some (.inr (.inr (some k))) ∧ zeLy k zdL = some (.inl 12)) ∧ zeMet xM_X12_sign (0, 0) zdL as σ Q := by
  unfold tMsX at h
  split at h
  rotate_left
  · exact h.elim
  obtain ⟨rfl, hG, h1, h2⟩ := h
  refine ⟨⟨98, rfl, zdL_98⟩, zsM zdM_nd zdL_nd zdM_L ?_⟩
  refine (zm_signX _ σ _ ?_).2
  exact ⟨rfl, hG, fun a τ g1 g2 g3 => h1 a _ (zmg_G g1) zmg_o ⟨by rw [zmg_t]; exact g2, fun i => by rw [zmg_x]; exact g3 i⟩, fun a τ g1 g2 g3 g4 => h2 a _ (zmg_G g1) zmg_o (by rw [zmg_t]; exact g2) (fun i hi => by rw [zmg_x]; exact g3 i hi) (fun j a b => by rw [zmg_x]; exact g4 j a b)⟩
def tMf : zeT := fun as σ Q => match as with
  | [hv] => hv = .inr (.inr (some 98)) ∧ zGI σ ∧ ∀ (a : Int) (τ : zeS), zFgS (σ.1 104) (σ.1 98 12) a → zGI τ → (∀ k', k' < 98 ∨ 126 < k' → zeSm σ τ k') → τ.1 98 12 = 0 → Q (some (.inl a)) τ
  | _ => False
theorem zr_fogX (as : List zeV) (σ : zeS) (Q : Option zeV → zeS → Prop) (h : tMf as σ Q) : (∃ k, as.head? = some (.inr (.inr (some k))) ∧ zeLy k zdL = some (.inl 12)) ∧ zeMet xM_X12_fog (1, 22) zdL as σ Q := by
  unfold tMf at h
  split at h
  rotate_left
  · exact h.elim
  obtain ⟨rfl, hG, h1⟩ := h
  refine ⟨⟨98, rfl, zdL_98⟩, zsM zdM_nd zdL_nd zdM_L ?_⟩
  refine (zm_fogX _ σ _ ?_).2
  exact ⟨rfl, hG, fun a τ g0 g1 g2 => h1 a _ g0 (zmg_G g1) zmg_o (by rw [zmg_t]; exact g2)⟩

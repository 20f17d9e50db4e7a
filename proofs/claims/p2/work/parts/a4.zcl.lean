/-! the class's calls, over the law's plan -/
def tS : zeT := fun as σ Q => match as with
  | [hv, .inl v] => hv = .inr (.inr (some 4)) ∧ zCI zGc σ ∧ (80 < σ.1 5 1 + 4 → ∀ τ : zeS, zCI zGc τ → (∀ k', ¬ k' ∈ zGi → zeSm σ τ k') → τ.1 5 1 = σ.1 5 1 → Q (some (.inl (-1))) τ) ∧ (σ.1 5 1 + 4 ≤ 80 → ∀ τ : zeS, zCI zGc τ → (∀ k', ¬ k' ∈ zGi → zeSm σ τ k') → τ.1 5 1 = σ.1 5 1 + 4 → Q (some (.inl (σ.1 5 1 + 4))) τ)
  | _ => False
theorem zc_sign (as : List zeV) (σ : zeS) (Q : Option zeV → zeS → Prop) (h : tS as σ Q) : (∃ k, as.head? = some (.inr (.inr (some k))) ∧ zeLy k zdL = some (.inl 11)) ∧ zeMet xM_X11_sign (1, 22) zdL as σ Q := by
  unfold tS at h
  split at h
  rotate_left
  · exact h.elim
  rename_i hv v
  obtain ⟨rfl, hC, hq1, hq2⟩ := h
  refine ⟨⟨4, rfl, zdL_4⟩, zeMet_rng fun hr => ?_⟩
  have hok : (zyOk zdL K1 && (zyGk zGc K1 [.inl 0, .inr (4, 13), .inr (5, 1)] && zSub K1)) = true := by decide +kernel
  rw [Bool.and_eq_true, Bool.and_eq_true] at hok
  have hg := zG51 hC
  refine zyG (xs := [v]) Y1 zdL_nd hok.1 rfl hok.2.1 rfl (fun x hx => hr x (by
    rcases List.mem_cons.mp hx with rfl | hx
    · exact List.mem_cons_of_mem _ List.mem_cons_self
    · cases hx)) hC (fun z hz r τ t1 t2 t3 t4 t5 => ?_)
  have hfr : ∀ k', ¬ k' ∈ zGi → zeSm σ τ k' := fun k' hk' => t2 k' fun hin => by
    obtain ⟨q, hq, rfl⟩ := List.mem_map.mp hin
    have := List.all_eq_true.mp hok.2.2 q hq
    exact hk' (by simpa using this)
  have e2 : zyS0 [.inl 0, .inr (4, 13), .inr (5, 1)] [v] σ 2 = σ.1 5 1 := rfl
  rcases List.mem_cons.mp hz with rfl | hz
  · obtain ⟨b1, b2⟩ := t3 2 (Int.ofNat 0, Int.ofNat 76) rfl
    rw [e2] at b1 b2
    have b1 : (0 : Int) ≤ σ.1 5 1 := b1
    have b2 : σ.1 5 1 ≤ (76 : Int) := b2
    have n1 : yN 163844 = 2 := by decide
    have n2 : yO 163844 = 4 := by decide
    have hη : (yη (zyS0 [.inl 0, .inr (4, 13), .inr (5, 1)] [v] σ) 163844).toInt = σ.1 5 1 + 4 := by
      rw [zyη (by rw [n1, n2, e2]; omega) (by rw [n1, n2, e2]; omega), n1, n2, e2]
    have hrr : r = (yη (zyS0 [.inl 0, .inr (4, 13), .inr (5, 1)] [v] σ) 163844).toInt := t4
    have hff : τ.1 5 1 = (yη (zyS0 [.inl 0, .inr (4, 13), .inr (5, 1)] [v] σ) 163844).toInt := z51_ok (a := .inr (.inr (.inr 163844))) (by decide +kernel) t5
    rw [hrr, hη]
    exact hq2 (by omega) τ t1 hfr (by rw [hff, hη])
  · rcases List.mem_cons.mp hz with rfl | hz
    · obtain ⟨b1, b2⟩ := t3 2 (Int.ofNat 77, Int.ofNat 80) rfl
      rw [e2] at b1 b2
      have b1 : (77 : Int) ≤ σ.1 5 1 := b1
      have n1 : yN 163840 = 2 := by decide
      have n2 : yO 163840 = 0 := by decide
      have hη : (yη (zyS0 [.inl 0, .inr (4, 13), .inr (5, 1)] [v] σ) 163840).toInt = σ.1 5 1 := by
        rw [zyη (by rw [n1, n2, e2]; omega) (by rw [n1, n2, e2]; omega), n1, n2, e2]
        omega
      have hrr : (-1 : Int) ≤ r ∧ r ≤ (-1 : Int) := t4
      have hff : τ.1 5 1 = (yη (zyS0 [.inl 0, .inr (4, 13), .inr (5, 1)] [v] σ) 163840).toInt := z51_ok (a := .inr (.inr (.inr 163840))) (by decide +kernel) t5
      have e : r = -1 := by omega
      rw [e]
      exact hq1 (by omega) τ t1 hfr (by rw [hff, hη])
    · cases hz

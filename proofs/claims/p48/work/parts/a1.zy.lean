/-! a contract over names, told of exact worlds -/
def zyV (σ0 : Nat → Int) : xV → zeV → Prop
  | .inl i, .inl x => i.1 ≤ x ∧ x ≤ i.2
  | .inr (.inl i), .inr (.inl x) => xInL i x
  | .inr (.inr (.inl o)), .inr (.inr o') => o' = o ∧ ∀ k, o = some k → k < 129
  | .inr (.inr (.inr j)), .inl x => x = (yη σ0 j).toInt
  | _, _ => False
theorem zyV_ok {σ0 : Nat → Int} {ad : Nat → Nat} {a : xV} {z : zeV} {v : Value} (h : zyV σ0 a z) (g : zeOk ad z v) : xOk (yη σ0) ad 129 a v := by
  unfold zyV at h
  split at h
  · obtain ⟨y, rfl, e⟩ := g
    exact ⟨y, rfl, by rw [← e] at h; exact h⟩
  · cases g
    exact ⟨_, rfl, h⟩
  · rename_i o o'
    obtain ⟨rfl, h2⟩ := h
    cases o' with
    | none => exact g
    | some k => exact ⟨h2 k rfl, g⟩
  · obtain ⟨y, rfl, e⟩ := g
    show Value.int y = .int _
    rw [Int32.toInt_inj.mp (e.trans h)]
  · exact h.elim
theorem zyV_of {σ0 : Nat → Int} {ad : Nat → Nat} {a : xV} {v : Value} (g : xOk (yη σ0) ad 129 a v) : ∃ z, zeOk ad z v ∧ zyV σ0 a z := by
  rcases a with i | i | o | j
  · obtain ⟨x, rfl, h⟩ := g
    exact ⟨.inl x.toInt, ⟨x, rfl, rfl⟩, h⟩
  · obtain ⟨x, rfl, h⟩ := g
    exact ⟨.inr (.inl x), rfl, h⟩
  · cases o with
    | none => exact ⟨.inr (.inr none), g, rfl, fun k h => by cases h⟩
    | some k => exact ⟨.inr (.inr (some k)), g.2, rfl, fun k' h => by cases h; exact g.1⟩
  · have g : v = .int (yη σ0 j) := g
    exact ⟨.inl (yη σ0 j).toInt, ⟨_, g, rfl⟩, rfl⟩
def zyF (σ0 : Nat → Int) : xV → zeS → Nat → Int → Prop
  | .inl i, τ, k, j => i.1 ≤ τ.1 k j ∧ τ.1 k j ≤ i.2
  | .inr (.inl i), τ, k, j => xInL i (τ.2.1 k j)
  | .inr (.inr (.inl o)), τ, k, j => τ.2.2 k j = o ∧ ∀ k', o = some k' → k' < 129
  | .inr (.inr (.inr n)), τ, k, j => τ.1 k j = (yη σ0 n).toInt
def zyC (σ0 : Nat → Int) : xE → zeS → Nat → Prop
  | .inl o, τ, k => ∀ (j : Nat) (a : xV), o.2[j]? = some a → zyF σ0 a τ k (j : Int)
  | .inr (_, n, d, ov), τ, k => ∀ i : Nat, i < n → zyF σ0 (xAt d ov i) τ k (i : Int)
def zyPl : xE → Nat ⊕ (Nat × Nat)
  | .inl o => .inl o.1
  | .inr (t, n, _, _) => .inr (t, n)
def zyK : xV → Nat
  | .inl _ => 0
  | .inr (.inl _) => 1
  | .inr (.inr (.inl _)) => 2
  | .inr (.inr (.inr _)) => 0
def zyT : Nat → Nat
  | 0 => 0
  | 1 => 0
  | 2 => 1
  | _ => 2
def zyTa : Nat → Nat
  | 0 => 0
  | 1 => 0
  | 2 => 1
  | 3 => 0
  | _ => 2
def zyKE : xE → Bool
  | .inl o => o.2.length == (xDt o.1).length && (o.2.zip (xDt o.1)).all (fun z => zyK z.1 == zyT z.2)
  | .inr (t, _, d, ov) => decide (t < 6) && (zyK d == zyTa t) && ov.all (fun q => zyK q.2 == zyTa t)
theorem zyAt {t : Nat} {d : xV} (hd : zyK d = t) : ∀ {ov : List (Nat × xV)} (i : Nat), ov.all (fun q => zyK q.2 == t) = true → zyK (xAt d ov i) = t
  | [], _, _ => hd
  | q :: r, i, h => by
    simp only [List.all_cons, Bool.and_eq_true] at h
    unfold xAt
    by_cases hq : (q.1 == i) = true
    · rw [hq, cond_true]; exact eq_of_beq h.1
    · rw [show (q.1 == i) = false by simpa using hq, cond_false]; exact zyAt hd i h.2
theorem xAll_of {α β : Type} {r : α → β → Prop} : ∀ {as : List α} {bs : List β}, as.length = bs.length → (∀ (i : Nat) (a : α), as[i]? = some a → ∃ b, bs[i]? = some b ∧ r a b) → xAll r as bs
  | [], [], _, _ => trivial
  | [], _ :: _, h, _ => by cases h
  | _ :: _, [], h, _ => by cases h
  | a :: as, b :: bs, h, g => by
    refine ⟨?_, xAll_of (by simpa using h) (fun i x hx => ?_)⟩
    · obtain ⟨y, h1, h2⟩ := g 0 a rfl
      cases h1; exact h2
    · obtain ⟨y, h1, h2⟩ := g (i + 1) x (by rw [List.getElem?_cons_succ]; exact hx)
      exact ⟨y, by rw [List.getElem?_cons_succ] at h1; exact h1, h2⟩
theorem zyKf {o : Nat × List xV} (h : zyKE (.inl o) = true) {j : Nat} {a : xV} {t : Nat} (ha : o.2[j]? = some a) (ht : (xDt o.1)[j]? = some t) : zyK a = zyT t := by
  simp only [zyKE, Bool.and_eq_true, List.all_eq_true] at h
  exact eq_of_beq (h.2 (a, t) (List.mem_of_getElem? (i := j) (by rw [List.getElem?_zip_eq_some]; exact ⟨ha, ht⟩)))
theorem zyT0 {t : Nat} (h : zyT t = 0) : t = 0 ∨ t = 1 := by
  match t, h with
  | 0, _ => exact Or.inl rfl
  | 1, _ => exact Or.inr rfl
  | 2, h => cases h
  | _ + 3, h => cases h
theorem zyT1 {t : Nat} (h : zyT t = 1) : t = 2 := by
  match t, h with
  | 0, h => cases h
  | 1, h => cases h
  | 2, _ => rfl
  | _ + 3, h => cases h
theorem zyT2 {t : Nat} (h : zyT t = 2) : ∃ u, t = u + 3 := by
  match t, h with
  | 0, h => cases h
  | 1, h => cases h
  | 2, h => cases h
  | u + 3, _ => exact ⟨u, rfl⟩
theorem zyF_fv {σ0 : Nat → Int} {a : xV} {t : Nat} (h : zyK a = zyT t) {σ : zeS} {k : Nat} {j : Int} (g : zyF σ0 a σ k j) : zyV σ0 a (zeFv σ k j t) := by
  rcases a with i | i | o | n
  · rcases zyT0 h.symm with rfl | rfl <;> exact g
  · rw [zyT1 h.symm]; exact g
  · obtain ⟨u, rfl⟩ := zyT2 h.symm
    exact g
  · rcases zyT0 h.symm with rfl | rfl <;> exact g
theorem zyC_in {σ0 : Nat → Int} {ad : Nat → Nat} {cy : Nat → ClassId} {σ : zeS} {k : Nat} : ∀ {xe : xE} {e : va_E}, zyKE xe = true → zyC σ0 xe σ k → zeCe ad cy σ k (zyPl xe) e → xEok (yη σ0) ad 129 cy xe e
  | .inl o, .inr o', hk, h, hc => by
    obtain ⟨h1, h2, h3⟩ := hc
    have hlen : o.2.length = (xDt o.1).length := by
      simp only [zyKE, Bool.and_eq_true] at hk
      exact eq_of_beq hk.1
    refine ⟨h1, xAll_of (hlen.trans h2.symm) (fun j a ha => ?_)⟩
    obtain ⟨t, ht⟩ : ∃ t, (xDt o.1)[j]? = some t := by
      have hj : j < o.2.length := (List.getElem?_eq_some_iff.mp ha).1
      exact ⟨_, List.getElem?_eq_getElem (by omega)⟩
    obtain ⟨v, g1, g2⟩ := h3 j t ht
    exact ⟨v, g1, zyV_ok (zyF_fv (zyKf hk ha ht) (h j a ha)) g2⟩
  | .inr (t, n, d, ov), .inl (cA, n', a), hk, h, hc => by
    obtain ⟨h1, h2, h3, h4, h5, h6⟩ := hc
    simp only [zyKE, Bool.and_eq_true] at hk
    have hK : ∀ i, zyK (xAt d ov i) = zyTa t := fun i => zyAt (eq_of_beq hk.1.2) i hk.2
    refine ⟨h1, h2, h3, fun e => ?_, fun e => ?_, fun e => ?_⟩
    · obtain ⟨f, e1, e2⟩ := h4 e
      refine ⟨f, e1, fun i hi => ?_⟩
      have hf := h i hi
      have hk' := hK i
      rw [e] at hk'
      generalize xAt d ov i = x at hf hk'
      rcases x with x | x | x | x
      · cases hk'
      · exact ⟨_, rfl, by rw [e2 i hi]; exact hf⟩
      · cases hk'
      · cases hk'
    · obtain ⟨f, e1, e2⟩ := h5 e
      refine ⟨f, e1, fun i hi => ?_⟩
      have hf := h i hi
      have hk' := hK i
      have et : zyTa t = 0 := by rcases e with rfl | rfl | rfl <;> rfl
      rw [et] at hk'
      generalize xAt d ov i = x at hf hk'
      rcases x with x | x | x | x
      · exact ⟨_, rfl, by unfold xIn; rw [e2 i hi]; exact hf⟩
      · cases hk'
      · cases hk'
      · show Value.int (f i) = .int _
        rw [Int32.toInt_inj.mp ((e2 i hi).trans hf)]
    · obtain ⟨f, e1, e2⟩ := h6 e
      refine ⟨f, e1, fun i hi => ?_⟩
      have hf := h i hi
      have hk' := hK i
      have et : zyTa t = 2 := by rcases e with rfl | rfl <;> rfl
      rw [et] at hk'
      generalize xAt d ov i = x at hf hk'
      rcases x with x | x | x | x
      · cases hk'
      · cases hk'
      · obtain ⟨g1, g2⟩ := hf
        rw [e2 i hi, g1]
        cases x with
        | none => exact rfl
        | some k' => exact ⟨g2 k' rfl, rfl⟩
      · cases hk'
  | .inl _, .inl _, _, _, hc => hc.elim
  | .inr _, .inr _, _, _, hc => hc.elim
def zyI (v : Option Value) : Int := match v with
  | some (.int y) => y.toInt
  | _ => 0
def zyJ (v : Option Value) : Int64 := match v with
  | some (.long y) => y
  | _ => 0
def zyR (v : Option xV) : Option Nat := match v with
  | some (.inr (.inr (.inl o))) => o
  | _ => none
theorem zyC_out {σ0 : Nat → Int} {ad : Nat → Nat} {cy : Nat → ClassId} (k : Nat) : ∀ {xe : xE} {e : va_E}, zyKE xe = true → xEok (yη σ0) ad 129 cy xe e → ∃ (f : Int → Int) (g : Int → Int64) (r : Int → Option Nat), ∀ τ : zeS, (∀ i, τ.1 k i = f i) → (∀ i, τ.2.1 k i = g i) → (∀ i, τ.2.2 k i = r i) → zeCe ad cy τ k (zyPl xe) e ∧ zyC σ0 xe τ k
  | .inl o, .inr o', hk, h => by
    obtain ⟨h1, h2⟩ := h
    have hlen : o.2.length = (xDt o.1).length := by
      simp only [zyKE, Bool.and_eq_true] at hk
      exact eq_of_beq hk.1
    have hlen2 := xAll_len h2
    refine ⟨fun i => zyI o'.2[i.toNat]?, fun i => zyJ o'.2[i.toNat]?, fun i => zyR o.2[i.toNat]?, fun τ t1 t2 t3 => ?_⟩
    dsimp only at t1 t2 t3
    have key : ∀ (j : Nat) (a : xV) (v : Value), o.2[j]? = some a → o'.2[j]? = some v → xOk (yη σ0) ad 129 a v → zyF σ0 a τ k (j : Int) ∧ ∀ t, zyK a = zyT t → zeOk ad (zeFv τ k (j : Int) t) v := by
      intro j a v ha hv hx
      have u1 : τ.1 k (j : Int) = zyI (some v) := by rw [t1, Int.toNat_natCast, hv]
      have u2 : τ.2.1 k (j : Int) = zyJ (some v) := by rw [t2, Int.toNat_natCast, hv]
      have u3 : τ.2.2 k (j : Int) = zyR (some a) := by rw [t3, Int.toNat_natCast, ha]
      rcases a with i | i | x | n
      · obtain ⟨y, rfl, g⟩ := hx
        refine ⟨?_, fun t ht => ?_⟩
        · show i.1 ≤ τ.1 k (j : Int) ∧ τ.1 k (j : Int) ≤ i.2
          rw [u1]; exact g
        · rcases zyT0 ht.symm with rfl | rfl <;> exact ⟨y, rfl, u1.symm⟩
      · obtain ⟨y, rfl, g⟩ := hx
        refine ⟨?_, fun t ht => ?_⟩
        · show xInL i (τ.2.1 k (j : Int))
          rw [u2]; exact g
        · rw [zyT1 ht.symm]
          show Value.long y = .long (τ.2.1 k (j : Int))
          rw [u2]; rfl
      · refine ⟨⟨u3, fun k' hk' => ?_⟩, fun t ht => ?_⟩
        · rw [hk'] at hx; exact hx.1
        · obtain ⟨u, rfl⟩ := zyT2 ht.symm
          show zeOk ad (.inr (.inr (τ.2.2 k (j : Int)))) v
          rw [u3]
          cases x with
          | none => exact hx
          | some k' => exact hx.2
      · have hx : v = .int (yη σ0 n) := hx
        subst hx
        refine ⟨u1, fun t ht => ?_⟩
        rcases zyT0 ht.symm with rfl | rfl <;> exact ⟨_, rfl, u1.symm⟩
    refine ⟨⟨h1, by show o'.2.length = (xDt o.1).length; omega, fun j t ht => ?_⟩, fun j a ha => ?_⟩
    · obtain ⟨a, ha⟩ : ∃ a, o.2[j]? = some a := by
        have hj : j < (xDt o.1).length := (List.getElem?_eq_some_iff.mp ht).1
        exact ⟨_, List.getElem?_eq_getElem (by omega)⟩
      obtain ⟨v, hv, hx⟩ := xAll_get h2 j a ha
      exact ⟨v, hv, (key j a v ha hv hx).2 t (zyKf hk ha ht)⟩
    · obtain ⟨v, hv, hx⟩ := xAll_get h2 j a ha
      exact (key j a v ha hv hx).1
  | .inr (t, n, d, ov), .inl (cA, n', a), hk, h => by
    obtain ⟨h1, h2, h3, h4, h5, h6⟩ := h
    simp only [zyKE, Bool.and_eq_true] at hk
    have hK : ∀ i, zyK (xAt d ov i) = zyTa t := fun i => zyAt (eq_of_beq hk.1.2) i hk.2
    have ht : t = 2 ∨ (t = 0 ∨ t = 1 ∨ t = 3) ∨ (t = 4 ∨ t = 5) := by omega
    rcases ht with e | e | e
    · obtain ⟨f, e1, e2⟩ := h4 e
      refine ⟨fun _ => 0, fun i => f i.toNat, fun _ => none, fun τ t1 t2 t3 => ?_⟩
      dsimp only at t1 t2 t3
      refine ⟨⟨h1, h2, h3, fun _ => ⟨f, e1, fun i hi => by rw [t2, Int.toNat_natCast]⟩, fun q => by omega, fun q => by omega⟩, fun i hi => ?_⟩
      have hx := e2 i hi
      have hk' := hK i
      rw [e] at hk'
      have u2 : τ.2.1 k (i : Int) = f i := by rw [t2, Int.toNat_natCast]
      generalize xAt d ov i = x at hx hk'
      rcases x with x | x | x | x
      · cases hk'
      · obtain ⟨y, g1, g2⟩ := hx
        cases g1
        show xInL x (τ.2.1 k (i : Int))
        rw [u2]; exact g2
      · cases hk'
      · cases hk'
    · obtain ⟨f, e1, e2⟩ := h5 e
      refine ⟨fun i => (f i.toNat).toInt, fun _ => 0, fun _ => none, fun τ t1 t2 t3 => ?_⟩
      dsimp only at t1 t2 t3
      refine ⟨⟨h1, h2, h3, fun q => by omega, fun _ => ⟨f, e1, fun i hi => by rw [t1, Int.toNat_natCast]⟩, fun q => by omega⟩, fun i hi => ?_⟩
      have hx := e2 i hi
      have hk' := hK i
      have et : zyTa t = 0 := by rcases e with rfl | rfl | rfl <;> rfl
      rw [et] at hk'
      have u1 : τ.1 k (i : Int) = (f i).toInt := by rw [t1, Int.toNat_natCast]
      generalize xAt d ov i = x at hx hk'
      rcases x with x | x | x | x
      · obtain ⟨y, g1, g2⟩ := hx
        cases g1
        show x.1 ≤ τ.1 k (i : Int) ∧ τ.1 k (i : Int) ≤ x.2
        rw [u1]; exact g2
      · cases hk'
      · cases hk'
      · have hx : Value.int (f i) = .int (yη σ0 x) := hx
        show τ.1 k (i : Int) = _
        rw [u1, Value.int.inj hx]
    · obtain ⟨f, e1, e2⟩ := h6 e
      have et : zyTa t = 2 := by rcases e with rfl | rfl <;> rfl
      have key : ∀ i, i < n → ∃ o, xAt d ov i = .inr (.inr (.inl o)) ∧ f i = o.map ad ∧ ∀ k', o = some k' → k' < 129 := fun i hi => by
        have hx := e2 i hi
        have hk' := hK i
        rw [et] at hk'
        generalize xAt d ov i = x at hx hk'
        rcases x with x | x | x | x
        · cases hk'
        · cases hk'
        · refine ⟨x, rfl, ?_⟩
          cases x with
          | none =>
            refine ⟨?_, fun k' h => by cases h⟩
            have hx : va_rf (f i) = .null := hx
            generalize f i = w at hx
            cases w with
            | none => rfl
            | some w => cases hx
          | some k' =>
            refine ⟨?_, fun k'' h => by cases h; exact hx.1⟩
            have hx : va_rf (f i) = .ref (ad k') := hx.2
            generalize f i = w at hx
            cases w with
            | none => cases hx
            | some w => exact congrArg some (Value.ref.inj hx)
        · cases hk'
      refine ⟨fun _ => 0, fun _ => 0, fun i => zyR (some (xAt d ov i.toNat)), fun τ t1 t2 t3 => ?_⟩
      dsimp only at t1 t2 t3
      refine ⟨⟨h1, h2, h3, fun q => by omega, fun q => by omega, fun _ => ⟨f, e1, fun i hi => ?_⟩⟩, fun i hi => ?_⟩
      · obtain ⟨o, g1, g2, g3⟩ := key i hi
        rw [t3, Int.toNat_natCast, g1, g2]; rfl
      · obtain ⟨o, g1, g2, g3⟩ := key i hi
        rw [g1]
        refine ⟨?_, g3⟩
        rw [t3, Int.toNat_natCast, g1]; rfl
  | .inl _, .inl _, _, h => h.elim
  | .inr _, .inr _, _, h => h.elim
theorem zyU {α : Type} : ∀ {hp : List (Nat × α)} {p q : Nat × α}, (hp.map (·.1)).Nodup → p ∈ hp → q ∈ hp → p.1 = q.1 → p = q
  | [], _, _, _, h, _, _ => absurd h List.not_mem_nil
  | w :: hp, p, q, hn, hp', hq, he => by
    rw [List.map_cons, List.nodup_cons] at hn
    rcases List.mem_cons.mp hp' with h1 | h1
    · rcases List.mem_cons.mp hq with h2 | h2
      · rw [h1, h2]
      · exact absurd (List.mem_map.mpr ⟨q, h2, by rw [← he, h1]⟩) hn.1
    · rcases List.mem_cons.mp hq with h2 | h2
      · exact absurd (List.mem_map.mpr ⟨p, h1, by rw [he, h2]⟩) hn.1
      · exact zyU hn.2 h1 h2 he
theorem zyWi {η : Nat → Int32} {ad : Nat → Nat} {cy : Nat → ClassId} {e0 : Nat → va_E} : ∀ {hp : xH}, (∀ q ∈ hp, q.1 < 129 ∧ xEok η ad 129 cy q.2 (e0 q.1)) → xWok η ad 129 cy hp (zsL ad e0 (hp.map (·.1)))
  | [], _ => trivial
  | q :: hp, h => ⟨⟨rfl, h q List.mem_cons_self⟩, zyWi (hp := hp) (fun z hz => h z (List.mem_cons_of_mem _ hz))⟩
theorem zyWo {η : Nat → Int32} {ad : Nat → Nat} {cy : Nat → ClassId} : ∀ {hp : xH} {ws : va_W}, (hp.map (·.1)).Nodup → xWok η ad 129 cy hp ws → ∃ e1 : Nat → va_E, ws = zsL ad e1 (hp.map (·.1)) ∧ ∀ q ∈ hp, xEok η ad 129 cy q.2 (e1 q.1)
  | [], [], _, _ => ⟨fun _ => .inr (0, []), rfl, fun q hq => absurd hq List.not_mem_nil⟩
  | [], _ :: _, _, h => h.elim
  | _ :: _, [], _, h => h.elim
  | q :: hp, w :: ws, hn, h => by
    rw [List.map_cons, List.nodup_cons] at hn
    obtain ⟨e1, h1, h2⟩ := zyWo hn.2 h.2
    have hne : ∀ z ∈ hp, ¬ z.1 = q.1 := fun z hz he => hn.1 (List.mem_map.mpr ⟨z, hz, he⟩)
    refine ⟨fun k => if k = q.1 then w.2 else e1 k, ?_, fun z hz => ?_⟩
    · show w :: ws = (ad q.1, if q.1 = q.1 then w.2 else e1 q.1) :: _
      rw [if_pos rfl, ← h.1.1, h1]
      congr 1
      refine List.map_congr_left fun k hk => ?_
      obtain ⟨z, hz, rfl⟩ := List.mem_map.mp hk
      dsimp only
      rw [if_neg (hne z hz)]
    · dsimp only
      rcases List.mem_cons.mp hz with rfl | hz
      · rw [if_pos rfl]; exact h.1.2.2
      · rw [if_neg (hne z hz)]; exact h2 z hz
def zyRt (σ0 : Nat → Int) : Option xV → Option zeV → Prop
  | none, none => True
  | some a, some z => zyV σ0 a z
  | none, some _ => False
  | some _, none => False
def zyOk (dom : zeD) (k : yCo2) : Bool := k.2.2.1 == 129 && decide ((k.2.1.map (·.1)).Nodup) && k.2.1.all (fun q => zyKE q.2 && decide (zeLy q.1 dom = some (zyPl q.2))) && k.2.2.2.1.all (fun z => decide (z.2.1.map (fun q => (q.1, zyPl q.2)) = k.2.1.map (fun q => (q.1, zyPl q.2))) && z.2.1.all (fun q => zyKE q.2))
set_option maxHeartbeats 1000000 in
theorem zyM {M : xM} {k : yCo2} (hk : yHolds M k) {dom : zeD} (hnd : zeNd dom = true) (hok : zyOk dom k = true) {rm : Nat × Nat} (hrm : k.2.2.2.2.1 = (rm.1, rm.2, 0, 0)) {as : List zeV} {σ : zeS} {Q : Option zeV → zeS → Prop} (σ0 : Nat → Int) (hE : yOkE σ0 k.2.2.2.2.2) (has : xAll (zyV σ0) k.1 as) (hh : ∀ q ∈ k.2.1, zyC σ0 q.2 σ q.1)
    (hQ : ∀ z ∈ k.2.2.2.1, ∀ (r : Option zeV) (τ : zeS), yOkE σ0 z.2.2 → zyRt σ0 z.1 r → (∀ q ∈ z.2.1, zyC σ0 q.2 τ q.1) → (∀ k', ¬ k' ∈ k.2.1.map (·.1) → zeSm σ τ k') → Q r τ) : zeMet M rm dom as σ Q := by
  simp only [zyOk, Bool.and_eq_true, beq_iff_eq, decide_eq_true_eq, List.all_eq_true] at hok
  obtain ⟨⟨⟨hN, hF⟩, hpl⟩, hpo⟩ := hok
  have hids : ∀ z ∈ k.2.2.2.1, z.2.1.map (·.1) = k.2.1.map (·.1) := fun z hz => by
    have e := congrArg (List.map (·.1)) (hpo z hz).1
    rw [List.map_map, List.map_map] at e
    exact e
  intro l D cy ad sz av ws hav hws
  obtain ⟨e0, rfl, hc⟩ := zsEx hnd hws
  have hdom : ∀ q ∈ k.2.1, (q.1, zyPl q.2) ∈ dom := fun q hq => zsLy (hpl q hq).2
  have hsub : ∀ i ∈ k.2.1.map (·.1), i ∈ zsI dom := fun i hi => by
    obtain ⟨q, h1, rfl⟩ := List.mem_map.mp hi
    exact List.mem_map.mpr ⟨_, hdom q h1, rfl⟩
  have hbd := hk.1
  simp only [yBd, Bool.and_eq_true, List.all_eq_true, decide_eq_true_eq] at hbd
  have hpre : xWok (yη σ0) ad k.2.2.1 cy k.2.1 (zsL ad e0 (k.2.1.map (·.1))) := by
    rw [hN]
    exact zyWi (fun q hq => ⟨by have := (hbd.2 q hq).1; rw [hN] at this; exact this, zyC_in (hpl q hq).1 (hh q hq) (hc _ (hdom q hq))⟩)
  have hav2 : xAll (xOk (yη σ0) ad k.2.2.1) k.1 av := by
    rw [hN]
    have key : ∀ {xs : List xV} {as : List zeV} {av : List Value}, xAll (zyV σ0) xs as → xAll (zeOk ad) as av → xAll (xOk (yη σ0) ad 129) xs av := by
      intro xs
      induction xs with
      | nil => intro as av h1 h2; match as, av, h1, h2 with
        | [], [], _, _ => exact trivial
        | [], _ :: _, _, h2 => exact h2.elim
        | _ :: _, _, h1, _ => exact h1.elim
      | cons x xs ih => intro as av h1 h2; match as, av, h1, h2 with
        | [], _, h1, _ => exact h1.elim
        | _ :: _, [], _, h2 => exact h2.elim
        | a :: as, v :: av, h1, h2 => exact ⟨zyV_ok h1.1 h2.1, ih h1.2 h2.2⟩
    exact key has hav
  have hM := hk.2 l D cy σ0 ad sz av _ hE hav2 hpre
  rw [hrm] at hM
  have hS := zsSub (G := zsI dom) (P := fun r e1 => ∃ z ∈ k.2.2.2.1, xRet (yη σ0) ad 129 z.1 r ∧ (∀ q ∈ z.2.1, xEok (yη σ0) ad 129 cy q.2 (e1 q.1)) ∧ yOkE σ0 z.2.2) hsub hF hM (fun a st o t hq => by
    obtain ⟨⟨z, r, ws', h1, h2, h3, h4, h5, h6, h7⟩, h8⟩ := hq
    rw [hN] at h3 h4
    obtain ⟨e1, rfl, hc1⟩ := zyWo (by rw [hids z h1]; exact hF) h4
    rw [hids z h1] at h5
    exact ⟨⟨r, e1, h2, h5, z, h1, h3, hc1, h7⟩, h8⟩)
  refine MetFree.mono hS (fun _ _ g => g) (fun _ _ _ _ _ g => g) (fun a st o t hp hq => ?_)
  obtain ⟨⟨⟨r, e1, h1, h2, h3, z, hz, h4, h5, h6⟩, h7⟩, h8⟩ := hq
  have hzF : (z.2.1.map (·.1)).Nodup := by rw [hids z hz]; exact hF
  have hch : ∀ k' : Nat, ∃ w : (Int → Int) × (Int → Int64) × (Int → Option Nat), ∀ q ∈ z.2.1, q.1 = k' → ∀ τ : zeS, (∀ i, τ.1 k' i = w.1 i) → (∀ i, τ.2.1 k' i = w.2.1 i) → (∀ i, τ.2.2 k' i = w.2.2 i) → zeCe ad cy τ k' (zyPl q.2) (e1 k') ∧ zyC σ0 q.2 τ k' := fun k' => by
    by_cases hk' : ∃ q ∈ z.2.1, q.1 = k'
    · obtain ⟨q, hq, rfl⟩ := hk'
      obtain ⟨f, g, r, hfg⟩ := zyC_out q.1 ((hpo z hz).2 q hq) (h5 q hq)
      refine ⟨(f, g, r), fun q' hq' he τ t1 t2 t3 => ?_⟩
      have := zyU hzF hq' hq he
      subst this
      exact hfg τ t1 t2 t3
    · exact ⟨(fun _ => 0, fun _ => 0, fun _ => none), fun q hq he => absurd ⟨q, hq, he⟩ hk'⟩
  obtain ⟨w, hw⟩ := Classical.axiomOfChoice hch
  generalize hτ : zmg (k.2.1.map (·.1)) σ (fun k' i => (w k').1 i, fun k' i => (w k').2.1 i, fun k' i => (w k').2.2 i) = τ
  have hcell : ∀ q ∈ z.2.1, zeCe ad cy τ q.1 (zyPl q.2) (e1 q.1) ∧ zyC σ0 q.2 τ q.1 := fun q hq => by
    have hin : q.1 ∈ k.2.1.map (·.1) := by rw [← hids z hz]; exact List.mem_map.mpr ⟨q, hq, rfl⟩
    refine hw q.1 q hq rfl τ (fun i => ?_) (fun i => ?_) (fun i => ?_)
    · rw [← hτ]; exact (zmg_p hin).1 i
    · rw [← hτ]; exact (zmg_p hin).2.1 i
    · rw [← hτ]; exact (zmg_p hin).2.2 i
  have hout : ∀ k', ¬ k' ∈ k.2.1.map (·.1) → zeSm σ τ k' := fun k' hk' => by rw [← hτ]; exact zmg_n hk'
  have hret : ∃ zr, zeRt ad zr r ∧ zyRt σ0 z.1 zr := by
    generalize z.1 = zo at h4
    cases zo with
    | none => cases r with
      | none => exact ⟨none, trivial, trivial⟩
      | some v => exact h4.elim
    | some a => cases r with
      | none => exact h4.elim
      | some v =>
        obtain ⟨zr, g1, g2⟩ := zyV_of h4
        exact ⟨some zr, g1, g2⟩
  obtain ⟨zr, hr1, hr2⟩ := hret
  refine ⟨⟨⟨r, zr, τ, _, h1, hr1, zsOf (fun p hp => ?_), h2, h3, hQ z hz zr τ h6 hr2 (fun q hq => (hcell q hq).2) hout⟩, h7⟩, h8⟩
  by_cases hkF : p.1 ∈ k.2.1.map (·.1)
  · rw [zsE_p hkF]
    rw [← hids z hz] at hkF
    obtain ⟨q, hq, hqp⟩ := List.mem_map.mp hkF
    have hmem : (q.1, zyPl q.2) ∈ z.2.1.map (fun q => (q.1, zyPl q.2)) := List.mem_map.mpr ⟨q, hq, rfl⟩
    rw [(hpo z hz).1] at hmem
    obtain ⟨q0, hq0, he⟩ := List.mem_map.mp hmem
    have e1' : q0.1 = q.1 := (Prod.mk.inj he).1
    have e2' : zyPl q0.2 = zyPl q.2 := (Prod.mk.inj he).2
    have hpd := zsU hnd (hdom q0 hq0) hp (e1'.trans hqp)
    have e3 : p.2 = zyPl q.2 := by rw [← hpd]; exact e2'
    rw [e3, ← hqp]
    exact (hcell q hq).1
  · rw [zsE_n hkF]
    exact zeCe_sm (hout p.1 hkF) (hc p hp)

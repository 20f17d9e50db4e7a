/-! a contract over some cells of a world, told over the whole of it -/
theorem xSS_narrow {ad : Nat → Nat} {A B : Nat → Prop} {U : State} (hBA : ∀ q, B q → A q) (h : xSS ad A U) : xSS ad B U := by
  obtain ⟨⟨v1, f1, a1, b1⟩, ⟨v2, f2, a2, b2⟩, v3, f3, a3, b3⟩ := h
  exact ⟨⟨v1, f1, a1, xSg_moved (Vm.Alike.refl U.vm) (fun _ _ _ => rfl) hBA b1⟩, ⟨v2, f2, a2, xSg_moved (Vm.Alike.refl U.vm) (fun _ _ _ => rfl) hBA b2⟩, v3, f3, a3, xSg_moved (Vm.Alike.refl U.vm) (fun _ _ _ => rfl) hBA b3⟩
abbrev zsL (ad : Nat → Nat) (e : Nat → va_E) (F : List Nat) : va_W := F.map (fun k => (ad k, e k))
theorem zsMem {ad : Nat → Nat} {e : Nat → va_E} {F : List Nat} {q : Nat × va_E} : q ∈ zsL ad e F ↔ ∃ k ∈ F, q = (ad k, e k) := by
  constructor
  · intro h
    obtain ⟨k, h1, h2⟩ := List.mem_map.mp h
    exact ⟨k, h1, h2.symm⟩
  · rintro ⟨k, h1, rfl⟩
    exact List.mem_map.mpr ⟨k, h1, rfl⟩
theorem zsA {ad : Nat → Nat} {e : Nat → va_E} {F : List Nat} {sz q : Nat} : va_A (zsL ad e F) sz q ↔ (∃ k ∈ F, q = ad k) ∨ sz ≤ q := by
  unfold va_A
  refine or_congr ⟨fun h => ?_, fun h => ?_⟩ Iff.rfl
  · obtain ⟨k, x, hk⟩ := h
    obtain ⟨i, h1, h2⟩ := zsMem.mp (List.mem_of_getElem? hk)
    exact ⟨i, h1, congrArg Prod.fst h2⟩
  · obtain ⟨k, h1, rfl⟩ := h
    obtain ⟨i, hi⟩ := List.getElem?_of_mem (zsMem.mpr ⟨k, h1, rfl⟩ : (ad k, e k) ∈ zsL ad e F)
    exact ⟨i, e k, hi⟩
theorem zsInj {ad : Nat → Nat} {e : Nat → va_E} {A : Nat → Prop} : ∀ {F : List Nat}, va_D A (zsL ad e F) → ∀ {j k : Nat}, j ∈ F → k ∈ F → ad j = ad k → j = k := by
  intro F h j k hj hk hjk
  obtain ⟨a, ha⟩ := List.getElem?_of_mem hj
  obtain ⟨b, hb⟩ := List.getElem?_of_mem hk
  have e1 : (zsL ad e F)[a]? = some (ad j, e j) := by rw [List.getElem?_map, ha]; rfl
  have e2 : (zsL ad e F)[b]? = some (ad k, e k) := by rw [List.getElem?_map, hb]; rfl
  have hab := h.1 a b _ _ e1 e2 hjk
  subst hab
  rw [ha] at hb
  exact Option.some.inj hb
theorem zsD {ad : Nat → Nat} {e e' : Nat → va_E} {A B : Nat → Prop} {F : List Nat} (h : va_D A (zsL ad e F)) (hB : ∀ k ∈ F, B (ad k)) : va_D B (zsL ad e' F) := by
  have h1 := (xD_mem.mp h).1
  refine xD_mem.mpr ⟨?_, fun q hq => ?_⟩
  · have e1 : (zsL ad e' F).map (·.1) = (zsL ad e F).map (·.1) := by simp [zsL]
    rw [e1]; exact h1
  · obtain ⟨k, h2, rfl⟩ := zsMem.mp hq
    exact hB k h2
theorem zsDsub {ad : Nat → Nat} {e : Nat → va_E} {A B : Nat → Prop} {F G : List Nat} (h : va_D A (zsL ad e G)) (hF : ∀ k ∈ F, k ∈ G) (hn : F.Nodup) (hB : ∀ k ∈ F, B (ad k)) : va_D B (zsL ad e F) := by
  refine xD_mem.mpr ⟨?_, fun q hq => ?_⟩
  · have e1 : (zsL ad e F).map (·.1) = F.map ad := by simp [zsL]
    rw [e1]
    refine List.pairwise_map.mpr ?_
    refine List.Pairwise.imp_of_mem (fun hj hk hne hjk => hne (zsInj h (hF _ hj) (hF _ hk) hjk)) hn
  · obtain ⟨k, h2, rfl⟩ := zsMem.mp hq
    exact hB k h2
noncomputable def zsE (F : List Nat) (e1 e0 : Nat → va_E) (k : Nat) : va_E := @ite va_E (k ∈ F) (Classical.propDecidable _) (e1 k) (e0 k)
theorem zsE_p {F : List Nat} {e1 e0 : Nat → va_E} {k : Nat} (h : k ∈ F) : zsE F e1 e0 k = e1 k := if_pos h
theorem zsE_n {F : List Nat} {e1 e0 : Nat → va_E} {k : Nat} (h : ¬ k ∈ F) : zsE F e1 e0 k = e0 k := if_neg h
theorem zsSub {l : Launch} {y : MethodName} {wd : List Cond} {rm : Room} {D : va_G} {cy : Nat → ClassId} {ad : Nat → Nat} {sz : Nat} {av : List Value} {F G : List Nat} {e0 : Nat → va_E} {Qc : Array Value → State → Outcome → State → Prop} {P : Option Value → (Nat → va_E) → Prop} (hF : ∀ k ∈ F, k ∈ G) (hn : F.Nodup)
    (h : Met l y wd rm (xPc D cy ad av (zsL ad e0 F) sz) Qc 0 0 (va_A (zsL ad e0 F) sz))
    (hQ : ∀ a st o t, Qc a st o t → (∃ r e1, o = .returned r ∧ va_P D vwCl (zsL ad e1 F) t.heap ∧ P r e1) ∧ va_F (va_A (zsL ad e0 F) sz) st t) :
    Met l y wd rm (xPc D cy ad av (zsL ad e0 G) sz) (fun _ st o t => (∃ r e1, o = .returned r ∧ va_P D vwCl (zsL ad (zsE F e1 e0) G) t.heap ∧ va_D (va_A (zsL ad e0 G) sz) (zsL ad (zsE F e1 e0) G) ∧ P r e1) ∧ va_F (va_A (zsL ad e0 G) sz) st t) 0 0 (va_A (zsL ad e0 G) sz) := by
  have hsub : ∀ q, va_A (zsL ad e0 F) sz q → va_A (zsL ad e0 G) sz q := fun q z => by
    rcases zsA.mp z with ⟨k, h1, h2⟩ | h1
    · exact zsA.mpr (Or.inl ⟨k, hF k h1, h2⟩)
    · exact zsA.mpr (Or.inr h1)
  unfold Met at h ⊢
  refine MetFree.mono h ?_ (fun _ _ _ _ _ g => g) ?_
  · rintro a U ⟨ha, hsz, hP, hK, hD, hS⟩
    refine ⟨ha, hsz, xP_mem.mpr fun q hq => ?_, hK, zsDsub hD hF hn (fun _ _ => trivial), xSS_narrow hsub hS⟩
    obtain ⟨k, h1, rfl⟩ := zsMem.mp hq
    exact xP_mem.mp hP _ (zsMem.mpr ⟨k, hF k h1, rfl⟩)
  · rintro a st o t ⟨ha, hsz, hP, hK, hD, hS⟩ ⟨hq, L, hL, hLf⟩
    obtain ⟨⟨r, e1, rfl, hP1, hp⟩, hFr⟩ := hQ _ _ _ _ hq
    refine ⟨⟨⟨r, e1, rfl, xP_mem.mpr fun q hq => ?_, zsD hD (fun k hk => zsA.mpr (Or.inl ⟨k, hk, rfl⟩)), hp⟩, hFr.1, fun q h1 h2 => hFr.2 q h1 (fun z => h2 (hsub q z))⟩, L, hL, fun q hq => hsub _ (hLf q hq)⟩
    obtain ⟨k, hk, rfl⟩ := zsMem.mp hq
    by_cases hkF : k ∈ F
    · rw [zsE_p hkF]
      exact xP_mem.mp hP1 _ (zsMem.mpr ⟨k, hkF, rfl⟩)
    · rw [zsE_n hkF]
      have h0 := xP_mem.mp hP _ (zsMem.mpr ⟨k, hk, rfl⟩)
      have hlt : ad k < st.heap.size := h0.lt
      refine h0.kept (hFr.2 (ad k) hlt fun z => ?_)
      rcases zsA.mp z with ⟨j, h1, h2⟩ | h1
      · exact hkF (by rw [zsInj hD hk (hF j h1) h2]; exact h1)
      · rw [← hsz] at h1
        exact absurd hlt (Nat.not_lt.mpr h1)
/-- a plan's cells, as a function of their ids -/
abbrev zsI (dom : zeD) : List Nat := dom.map (·.1)
theorem zsEx {ad : Nat → Nat} {cy : Nat → ClassId} {σ : zeS} : ∀ {dom : zeD} {ws : va_W}, zeNd dom = true → zeW ad cy σ dom ws → ∃ e0 : Nat → va_E, ws = zsL ad e0 (zsI dom) ∧ ∀ p ∈ dom, zeCe ad cy σ p.1 p.2 (e0 p.1)
  | [], [], _, _ => ⟨fun _ => .inr (0, []), rfl, fun p hp => absurd hp List.not_mem_nil⟩
  | [], _ :: _, _, h => h.elim
  | _ :: _, [], _, h => h.elim
  | p :: dom, w :: ws, hn, h => by
    simp only [zeNd, Bool.and_eq_true, List.all_eq_true] at hn
    obtain ⟨e0, h1, h2⟩ := zsEx hn.2 h.2
    have hne : ∀ q ∈ dom, ¬ q.1 = p.1 := fun q hq => by simpa using hn.1 q hq
    refine ⟨fun k => if k = p.1 then w.2 else e0 k, ?_, fun q hq => ?_⟩
    · show w :: ws = (ad p.1, if p.1 = p.1 then w.2 else e0 p.1) :: _
      rw [if_pos rfl, ← h.1.1, h1]
      congr 1
      refine List.map_congr_left fun k hk => ?_
      obtain ⟨q, hq, rfl⟩ := List.mem_map.mp hk
      dsimp only
      rw [if_neg (hne q hq)]
    · dsimp only
      rcases List.mem_cons.mp hq with rfl | hq
      · rw [if_pos rfl]; exact h.1.2
      · rw [if_neg (hne q hq)]; exact h2 q hq
theorem zsOf {ad : Nat → Nat} {cy : Nat → ClassId} {σ : zeS} {e0 : Nat → va_E} : ∀ {dom : zeD}, (∀ p ∈ dom, zeCe ad cy σ p.1 p.2 (e0 p.1)) → zeW ad cy σ dom (zsL ad e0 (zsI dom))
  | [], _ => trivial
  | p :: dom, h => ⟨⟨rfl, h p List.mem_cons_self⟩, zsOf (dom := dom) (fun q hq => h q (List.mem_cons_of_mem _ hq))⟩
theorem zsNd : ∀ {dom : zeD}, zeNd dom = true → (zsI dom).Nodup
  | [], _ => List.nodup_nil
  | p :: dom, h => by
    simp only [zeNd, Bool.and_eq_true, List.all_eq_true] at h
    refine List.nodup_cons.mpr ⟨fun z => ?_, zsNd h.2⟩
    obtain ⟨q, h1, h2⟩ := List.mem_map.mp z
    have := h.1 q h1
    rw [h2] at this
    simp at this
theorem zsU : ∀ {dom : zeD} {p q : Nat × (Nat ⊕ (Nat × Nat))}, zeNd dom = true → p ∈ dom → q ∈ dom → p.1 = q.1 → p = q
  | [], _, _, _, h, _, _ => absurd h List.not_mem_nil
  | w :: dom, p, q, hn, hp, hq, he => by
    simp only [zeNd, Bool.and_eq_true, List.all_eq_true] at hn
    have hne : ∀ z ∈ dom, ¬ z.1 = w.1 := fun z hz => by simpa using hn.1 z hz
    rcases List.mem_cons.mp hp with h1 | h1
    · rcases List.mem_cons.mp hq with h2 | h2
      · rw [h1, h2]
      · exact absurd (by rw [← h1]; exact he.symm) (hne q h2)
    · rcases List.mem_cons.mp hq with h2 | h2
      · exact absurd (by rw [← h2]; exact he) (hne p h1)
      · exact zsU hn.2 h1 h2 he
theorem zsLy {k : Nat} {L : Nat ⊕ (Nat × Nat)} : ∀ {dom : zeD}, zeLy k dom = some L → (k, L) ∈ dom
  | [], h => by cases h
  | p :: dom, h => by
    unfold zeLy at h
    by_cases hq : (p.1 == k) = true
    · rw [hq, cond_true] at h
      cases h
      have e : p.1 = k := by simpa using hq
      rw [← e]
      exact List.mem_cons_self
    · rw [show (p.1 == k) = false by simpa using hq, cond_false] at h
      exact List.mem_cons_of_mem _ (zsLy h)
/-- the cells of F told by τ, the others by σ -/
noncomputable def zmg (F : List Nat) (σ τ : zeS) : zeS := (fun k i => @ite Int (k ∈ F) (Classical.propDecidable _) (τ.1 k i) (σ.1 k i), fun k i => @ite Int64 (k ∈ F) (Classical.propDecidable _) (τ.2.1 k i) (σ.2.1 k i), fun k i => @ite (Option Nat) (k ∈ F) (Classical.propDecidable _) (τ.2.2 k i) (σ.2.2 k i))
theorem zmg_p {F : List Nat} {σ τ : zeS} {k : Nat} (h : k ∈ F) : zeSm τ (zmg F σ τ) k := ⟨fun _ => if_pos h, fun _ => if_pos h, fun _ => if_pos h⟩
theorem zmg_n {F : List Nat} {σ τ : zeS} {k : Nat} (h : ¬ k ∈ F) : zeSm σ (zmg F σ τ) k := ⟨fun _ => if_neg h, fun _ => if_neg h, fun _ => if_neg h⟩
/-- a contract over a part of the plan -/
theorem zsM {M : xM} {rm : Nat × Nat} {dom dom' : zeD} {as : List zeV} {σ : zeS} {Q : Option zeV → zeS → Prop} (hn : zeNd dom = true) (hn' : zeNd dom' = true) (hs : ∀ p ∈ dom, p ∈ dom') (h : zeMet M rm dom as σ (fun r τ => Q r (zmg (zsI dom) σ τ))) : zeMet M rm dom' as σ Q := by
  intro l D cy ad sz av ws hav hws
  obtain ⟨e0, rfl, hc⟩ := zsEx hn' hws
  have hF : ∀ k ∈ zsI dom, k ∈ zsI dom' := fun k hk => by
    obtain ⟨p, h1, rfl⟩ := List.mem_map.mp hk
    exact List.mem_map.mpr ⟨p, hs p h1, rfl⟩
  have hM := h l D cy ad sz av (zsL ad e0 (zsI dom)) hav (zsOf (fun p hp => hc p (hs p hp)))
  have hS := zsSub (G := zsI dom') (P := fun r e1 => ∃ z τ, zeRt ad z r ∧ (∀ p ∈ dom, zeCe ad cy τ p.1 p.2 (e1 p.1)) ∧ Q z (zmg (zsI dom) σ τ)) hF (zsNd hn) hM (fun a st o t hq => by
    obtain ⟨⟨r, z, τ, ws', h1, h2, h3, h4, h5, h6⟩, h7⟩ := hq
    obtain ⟨e1, rfl, hc1⟩ := zsEx hn h3
    exact ⟨⟨r, e1, h1, h4, z, τ, h2, hc1, h6⟩, h7⟩)
  refine MetFree.mono hS (fun _ _ g => g) (fun _ _ _ _ _ g => g) (fun a st o t hp hq => ?_)
  obtain ⟨⟨⟨r, e1, h1, h2, h3, z, τ, h4, h5, h6⟩, h7⟩, h8⟩ := hq
  refine ⟨⟨⟨r, z, zmg (zsI dom) σ τ, _, h1, h4, zsOf (fun p hp => ?_), h2, h3, h6⟩, h7⟩, h8⟩
  by_cases hk : p.1 ∈ zsI dom
  · rw [zsE_p hk]
    obtain ⟨p', g1, g2⟩ := List.mem_map.mp hk
    have e : p' = p := zsU hn' (hs p' g1) hp g2
    rw [← e]
    exact zeCe_sm (zmg_p (by rw [e]; exact hk)) (h5 p' g1)
  · rw [zsE_n hk]
    exact zeCe_sm (zmg_n hk) (hc p hp)

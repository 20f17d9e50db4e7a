/-! a method's contract out of its exact walk -/
def zeRr (ret : Option FieldType) (Qz : Option zeV → zeS → Prop) : Option zeV → zeS → Prop := fun r σ => match ret, r with
  | none, none => Qz none σ
  | some .int, some (.inl x) => Qz (some (.inl x)) σ
  | some .boolean, some (.inl x) => (x = 0 ∨ x = 1) ∧ Qz (some (.inl x)) σ
  | some .long, some (.inr (.inl x)) => Qz (some (.inr (.inl x))) σ
  | some (.object _), some (.inr (.inr x)) => Qz (some (.inr (.inr x))) σ
  | _, _ => False
def zeArgs : Nat → List zeV → zeLs
  | _, [] => []
  | i, a :: as => (i, a) :: zeArgs (if zeCat a = 2 then i + 2 else i + 1) as
theorem zeArgs_ok {ad : Nat → Nat} : ∀ {as : List zeV} {vs : List Value} (i : Nat), xAll (zeOk ad) as vs → xAll (zeLk ad) (zeArgs i as) (lv_args i vs)
  | [], [], _, _ => trivial
  | a :: as, v :: vs, i, g => by
    refine ⟨⟨rfl, g.1⟩, ?_⟩
    rw [zeOk_cat g.1]
    exact zeArgs_ok _ g.2
  | [], _ :: _, _, g => g.elim
  | _ :: _, [], _, g => g.elim
theorem zeSl_len {ad : Nat → Nat} : ∀ {as : List zeV} {vs : List Value}, xAll (zeOk ad) as vs → (lg_sl vs).length = zeSum as
  | [], [], _ => rfl
  | a :: as, v :: vs, g => by
    have ih := zeSl_len g.2
    have e := zeOk_cat g.1
    unfold lg_sl at ih ⊢
    rw [List.flatMap_cons, List.length_append, ih]
    show _ = zeCat a + zeSum as
    rw [← e]
    rcases lv_cat v with h | h
    · rw [if_neg (by omega), h]; rfl
    · rw [if_pos h, h]; rfl
  | [], _ :: _, g => g.elim
  | _ :: _, [], g => g.elim
def zeSt (code : List zeEn) (cs : List zeC) (dom : zeD) (G : zeG) (R : Option zeV → zeS → Prop) : Prop := ∀ (n : Nat) (cuts : List (Nat × List Nat)) (pc : Nat) (ls : zeLs) (st : List zeV) (σ : zeS), zeWp code cs dom cuts G R n (zeSk pc code) ls st σ → G pc ls st σ
set_option maxHeartbeats 4000000 in
theorem zeMet_of {M : xM} {Mi : xMi} {rm : Nat × Nat} {dom : zeD} {cs : List zeC} {code : List zeEn} (hM : xMp M Mi) (hcode : zeTb Mi M.2.2.1 Mi.1 = some code) (hcq : zeCq code = true) (hnd : zeNd dom = true) (hcs : ∀ q ∈ cs, zeTok M.1.cls Mi rm dom q) {as : List zeV} {σ : zeS} {Qz : Option zeV → zeS → Prop} (hmx : zeSum as ≤ M.2.2.1)
    (h : ∀ G : zeG, zeSt code cs dom G (zeRr M.2.2.2 Qz) → (∀ js pc ls st σ, G pc (zePj js ls) st σ → G pc ls st σ) → G 0 (zeArgs 0 as) [] σ) : zeMet M rm dom as σ Qz := by
  intro l D cy ad sz av ws hav hws
  refine xOfW (cc := M.2.1) (maxL := M.2.2.1) (ret := M.2.2.2) hM.1 rfl ?_
  intro p e s m args below meth c s₁ B hml hv
  obtain ⟨rfl, hsz, hP, hK, hD0, hSS⟩ := hv
  subst hsz
  have hx := B.exec
  have hb := B.bytes
  have hr := B.returns
  have hts := atoms_spec (ws := xWd M) B.pre
  have hown : s.vm.findClass M.1.cls = some m.cls := findClass_of_methodNamed B.named
  have hlocks := B.notSynchronized
  have hD := hD0.self (sz := s.heap.size)
  have hA : ∀ q : Nat, s.heap.size ≤ q → va_A ws s.heap.size q := fun q h => Or.inr h
  have hl := lv_entry av (n := M.2.2.1) (by rw [zeSl_len hav]; exact hmx)
  rw [lg_entry_eq]
  have X : zeX p (headSpec (xWd M) (xRm (rm.1, rm.2, 0, 0))).room s m av.toArray c M.2.1 D cy (va_A ws s.heap.size) M.1.cls (xWd M) ad M.2.2.1 Mi dom rm :=
    ⟨⟨hx, hb, hml, hts, fun w h => List.mem_cons_of_mem _ h, hown, hK, hA, hSS⟩, hM.2, hnd, Nat.le_refl _, Nat.le_refl _⟩
  have hret : zeRetOk p l e (headSpec (xWd M) (xRm (rm.1, rm.2, 0, 0))).room s m av.toArray below meth c (MQ below (zeQc Qz D cy ad dom ws s.heap.size) av.toArray s 0 0 (va_A ws s.heap.size)) M.2.1 D cy (va_A ws s.heap.size) ad dom (zeRr M.2.2.2 Qz) := by
    intro ins z v τ lsC H locs pc hio hdg hz hzv hR
    obtain ⟨ws1, hw1, hP1, hD1, hS1⟩ := hR
    have post : Qz z τ → ∀ t : State, t.heap = H → s.WarmedH t.vm → zeQc Qz D cy ad dom ws s.heap.size av.toArray s (.returned v) t := fun hq t ht _ => ⟨⟨v, z, τ, ws1, rfl, hzv, hw1, by rw [ht]; exact hP1, hD1, hq⟩, hS1.F ht⟩
    have hf : ∀ q ∈ locs, va_A ws s.heap.size q.base := hS1.2.2
    unfold zeRr at hz
    rcases hio with ⟨e1, rfl⟩ | ⟨a, rfl, e1⟩
    · cases v with
      | some v => exact hzv.elim
      | none =>
        rcases xRk_eq e1 (by omega) with ⟨q, -⟩ | ⟨q, -⟩ | ⟨q, -⟩ | ⟨-, rfl⟩
        · cases q
        · cases q
        · cases q
        · split at hz
          · rename_i hrt _
            exact W.vret hx hb (hr.trans hrt) (post hz) hf hdg
          · rename_i hh; cases hh
          · rename_i hh; cases hh
          · rename_i hh; cases hh
          · rename_i hh; cases hh
          · exact hz.elim
    · cases v with
      | none => exact hzv.elim
      | some v =>
        have hzv : zeOk ad a v := hzv
        split at hz
        · rename_i hh; cases hh
        · rename_i x hrt hh
          cases hh
          obtain ⟨y, rfl, gy⟩ := hzv
          rcases xRk_eq (k := 0) e1 (by decide) with ⟨-, rfl⟩ | ⟨q, -⟩ | ⟨q, -⟩ | ⟨q, -⟩
          · exact W.iret hx hb (hr.trans hrt) (post hz) hf hdg
          · cases q
          · cases q
          · cases q
        · rename_i x hrt hh
          cases hh
          obtain ⟨y, rfl, gy⟩ := hzv
          rcases xRk_eq (k := 0) e1 (by decide) with ⟨-, rfl⟩ | ⟨q, -⟩ | ⟨q, -⟩ | ⟨q, -⟩
          · refine W.zret hx hb (hr.trans hrt) ?_ (post hz.2) hf hdg
            rcases x01 (x := y) (by have := hz.1; omega) (by have := hz.1; omega) with rfl | rfl <;> rfl
          · cases q
          · cases q
          · cases q
        · rename_i x hrt hh
          cases hh
          have hv : v = .long x := hzv
          subst hv
          rcases xRk_eq (k := 1) e1 (by decide) with ⟨q, -⟩ | ⟨-, rfl⟩ | ⟨q, -⟩ | ⟨q, -⟩
          · cases q
          · exact W.lret hx hb (hr.trans hrt) (post hz) hf hdg
          · cases q
          · cases q
        · rename_i C x hrt hh
          cases hh
          rcases xRk_eq (k := 2) e1 (by decide) with ⟨q, -⟩ | ⟨q, -⟩ | ⟨-, rfl⟩ | ⟨q, -⟩
          · cases q
          · cases q
          · refine W.aret hx hb (hr.trans hrt) (Or.inl ⟨C, rfl⟩) ?_ (post hz) hf hdg
            cases x with
            | none => exact Or.inl hzv
            | some k => exact Or.inr ⟨_, hzv⟩
          · cases q
        · exact hz.elim
  refine h (zeGd p l e (headSpec (xWd M) (xRm (rm.1, rm.2, 0, 0))).room s m av.toArray below meth c (MQ below (zeQc Qz D cy ad dom ws s.heap.size) av.toArray s 0 0 (va_A ws s.heap.size)) D cy (va_A ws s.heap.size) ad M.2.2.1 dom) (fun n cuts pc ls st σ' hw => ?_) (fun js pc ls st σ' hw => zeGd_pj js hw) _ _ [] s.heap [] hl (zeArgs_ok 0 hav) trivial ⟨ws, hws, hP, hD, va_S.rf⟩
  obtain ⟨s1, s2, s3⟩ := zeSk_ok (t := pc) hcq
  obtain ⟨q', r', e1, e2⟩ := zeWp_ok X hcs hret hcode hcq cuts n _ ls st σ' s1 s2 hw
  rw [← s3 _ _ e1]
  exact e2
theorem zeMet_mono {M : xM} {rm : Nat × Nat} {dom : zeD} {as : List zeV} {σ : zeS} {Q Q' : Option zeV → zeS → Prop} (h : zeMet M rm dom as σ Q) (hQ : ∀ r τ, Q r τ → Q' r τ) : zeMet M rm dom as σ Q' := by
  intro l D cy ad sz av ws hav hws
  refine MetFree.mono (h l D cy ad sz av ws hav hws) (fun _ _ g => g) (fun _ _ _ _ _ g => g) (fun a st o t hp hq => ⟨⟨?_, hq.1.2⟩, hq.2⟩)
  obtain ⟨r, z, σ', ws', h1, h2, h3, h4, h5, h6⟩ := hq.1.1
  exact ⟨r, z, σ', ws', h1, h2, h3, h4, h5, hQ _ _ h6⟩

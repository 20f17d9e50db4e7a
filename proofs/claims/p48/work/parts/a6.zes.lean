/-! the walk of the law: the script beside the plan -/
def zsAl : Instr → Bool
  | .arraylength => true
  | _ => false
def zsIl : Instr → Bool
  | .iaload => true
  | _ => false
def zsT1 : List zeV → Bool
  | .inr (.inr (some 0)) :: _ => true
  | _ => false
def zsT2 : List zeV → Bool
  | .inl _ :: .inr (.inr (some 0)) :: _ => true
  | _ => false
def zsS2 (L : Nat) (f : Nat → Int32) (S : List zeV → Prop) : List zeV → Prop
  | .inl i :: _ :: st => (0 ≤ i ∧ i < (L : Int)) ∧ S (.inl (f i.toNat).toInt :: st)
  | _ => False
def zeDos (L : Nat) (f : Nat → Int32) (cs : List zeC) (dom : zeD) (ins : Instr) (ls : zeLs) (st : List zeV) (σ : zeS) (S : zeLs → List zeV → zeS → Prop) (J : Int → zeLs → List zeV → zeS → Prop) (R : Option zeV → zeS → Prop) : Prop := if (zsAl ins && zsT1 st) = true then S ls (.inl (L : Int) :: st.tail) σ else if (zsIl ins && zsT2 st) = true then zsS2 L f (fun st => S ls st σ) st else zeDo cs dom ins ls st σ S J R
theorem zsAl_eq {ins : Instr} (h : zsAl ins = true) : ins = .arraylength := by
  unfold zsAl at h
  split at h
  · rfl
  · cases h
theorem zsIl_eq {ins : Instr} (h : zsIl ins = true) : ins = .iaload := by
  unfold zsIl at h
  split at h
  · rfl
  · cases h
theorem zeN_al {M : xMi} {nL pc : Nat} {ins : Instr} (h : zeN M nL pc ins = some .arraylength) : ins = .arraylength := by
  unfold zeN at h
  split at h
  all_goals first
    | rfl
    | (cases h; done)
    | (unfold zeNk at h; split at h <;> cases h; done)
    | (unfold zeNl at h; split at h <;> cases h; done)
    | (simp only [Bool.cond_eq_ite] at h; split at h <;> cases h; done)
    | (split at h <;> cases h; done)
    | (split at h <;> (try (split at h)) <;> (try simp only [Bool.cond_eq_ite] at h) <;> (try (split at h)) <;> cases h; done)
theorem zeN_il {M : xMi} {nL pc : Nat} {ins : Instr} (h : zeN M nL pc ins = some .iaload) : ins = .iaload := by
  unfold zeN at h
  split at h
  all_goals first
    | rfl
    | (cases h; done)
    | (unfold zeNk at h; split at h <;> cases h; done)
    | (unfold zeNl at h; split at h <;> cases h; done)
    | (simp only [Bool.cond_eq_ite] at h; split at h <;> cases h; done)
    | (split at h <;> cases h; done)
    | (split at h <;> (try (split at h)) <;> (try simp only [Bool.cond_eq_ite] at h) <;> (try (split at h)) <;> cases h; done)
section ZES
variable {p : Program} {l : Launch} {e : Env} {R : Room} {s : State} {m : MethodId} {args : Array Value} {below : List Frame} {meth : Method} {c : Code} {Q : State → Prop}
variable {cc : ByteArray} {D : va_G} {cy : Nat → ClassId} {A : Nat → Prop} {own : String} {Ts : List Cond} {ad : Nat → Nat} {nL : Nat} {M : xMi} {dom : zeD} {rm : Nat × Nat} {cs0 ss0 : Nat}
theorem zeDos_ok (X : zeXc p R s m args c cc D cy A own Ts ad nL M dom rm cs0 ss0) {L : Nat} {f : Nat → Int32} (hX : va_X (ad 0) L f s s.heap) (hbl : ad 0 < s.heap.size) (hbA : ¬ A (ad 0)) (hL : L < 2147483648) {cs : List zeC} (hcs : ∀ q ∈ cs, zeTok own M rm dom q) {Rz : Option zeV → zeS → Prop} (hret : zeRetOkc p l e R s m args below meth c Q cc D cy A ad dom Rz cs0 ss0) {ins ni : Instr} {pc len : Nat} (hdg : decode cc pc = .ok (ins, len)) (hlen : xLen ins = 0 ∨ xLen ins = len) (hn : zeN M nL pc ins = some ni) {ls : zeLs} {st : List zeV} {σ : zeS} {S : zeLs → List zeV → zeS → Prop} {J : Int → zeLs → List zeV → zeS → Prop} (h : zeDos L f cs dom ni ls st σ S J Rz) (kS : ∀ ls st σ, S ls st σ → zeGdc p l e R s m args below meth c Q D cy A ad nL dom cs0 ss0 (pc + len) ls st σ) (kJ : ∀ (t : Nat) ls st σ, J (t : Int) ls st σ → zeGdc p l e R s m args below meth c Q D cy A ad nL dom cs0 ss0 t ls st σ) : zeGdc p l e R s m args below meth c Q D cy A ad nL dom cs0 ss0 pc ls st σ := by
  unfold zeDos at h
  by_cases h1 : (zsAl ni && zsT1 st) = true
  · rw [if_pos h1] at h
    rw [Bool.and_eq_true] at h1
    have e := zsAl_eq h1.1
    subst e
    have e := zeN_al hn
    subst e
    have h2 := h1.2
    unfold zsT1 at h2
    split at h2
    rotate_left
    · cases h2
    rename_i st'
    obtain ⟨hx, hb, -⟩ := X.1
    intro lsC lv stC H locs hl hla hs hR
    match stC, hs with
    | [], hs => exact hs.elim
    | v :: stC, hs =>
      have hv : v = .ref (ad 0) := hs.1
      subst hv
      obtain ⟨ws, hw, hP, hD, hS⟩ := hR
      obtain rfl := xl_of hlen (by simp [xLen])
      exact va_slen hx hb hX hbl hbA hS hdg (kS _ _ _ h lsC lv _ H locs hl hla ⟨⟨_, rfl, by rw [Int32.toInt_ofNat_of_lt (by omega)]⟩, hs.2⟩ ⟨ws, hw, hP, hD, hS⟩)
  · rw [if_neg h1] at h
    by_cases h3 : (zsIl ni && zsT2 st) = true
    · rw [if_pos h3] at h
      rw [Bool.and_eq_true] at h3
      have e := zsIl_eq h3.1
      subst e
      have e := zeN_il hn
      subst e
      have h4 := h3.2
      unfold zsT2 at h4
      split at h4
      rotate_left
      · cases h4
      rename_i i st'
      obtain ⟨⟨g1, g2⟩, g3⟩ := h
      obtain ⟨hx, hb, -⟩ := X.1
      intro lsC lv stC H locs hl hla hs hR
      match stC, hs with
      | [], hs => exact hs.elim
      | [_], hs => exact hs.2.elim
      | w :: v :: stC, hs =>
        have hv : v = .ref (ad 0) := hs.2.1
        subst hv
        obtain ⟨y, rfl, hy⟩ := hs.1
        obtain ⟨ws, hw, hP, hD, hS⟩ := hR
        obtain rfl := xl_of hlen (by simp [xLen])
        have hix := zeIx (n := L) (by rw [hy]; exact g1) (by rw [hy]; exact g2)
        refine va_sld hx hb hX hbl hbA hS hix.1 hdg (kS _ _ _ g3 lsC lv _ H locs hl hla ⟨⟨_, rfl, ?_⟩, hs.2.2⟩ ⟨ws, hw, hP, hD, hS⟩)
        have e : y.toNatClampNeg = i.toNat := by
          have := hix.2.1
          omega
        rw [e]
    · rw [if_neg h3] at h
      exact zeDo_okc X hcs hret hdg hlen hn h kS kJ
def zeWs (L : Nat) (f : Nat → Int32) (code : List zeEn) (cs : List zeC) (dom : zeD) (cuts : List (Nat × List Nat)) (G H : zeG) (R : Option zeV → zeS → Prop) : Nat → List zeEn → zeLs → List zeV → zeS → Prop
  | _, [], _, _, _ => False
  | 0, q :: _, ls, st, σ => G q.1 ls st σ
  | n + 1, q :: nxt, ls, st, σ => zeDos L f cs dom q.2.1 ls st σ
    (fun ls st σ => match zeCt cuts (q.1 + q.2.2) with
      | some js => H (q.1 + q.2.2) (zePj js ls) st σ
      | none => zeWs L f code cs dom cuts G H R n nxt ls st σ)
    (fun t ls st σ => match zeCt cuts t.toNat with
      | some js => H t.toNat (zePj js ls) st σ
      | none => zeWs L f code cs dom cuts G H R n (zeSk t.toNat code) ls st σ) R
theorem zeWs_ok (X : zeXc p R s m args c cc D cy A own Ts ad nL M dom rm cs0 ss0) {L : Nat} {f : Nat → Int32} (hX : va_X (ad 0) L f s s.heap) (hbl : ad 0 < s.heap.size) (hbA : ¬ A (ad 0)) (hL : L < 2147483648) {cs : List zeC} (hcs : ∀ q ∈ cs, zeTok own M rm dom q) {Rz : Option zeV → zeS → Prop} (hret : zeRetOkc p l e R s m args below meth c Q cc D cy A ad dom Rz cs0 ss0) {code : List zeEn} (hcode : zeTb M nL M.1 = some code) (hcq : zeCq code = true) (cuts : List (Nat × List Nat)) : ∀ (n : Nat) (cur : List zeEn) (ls : zeLs) (st : List zeV) (σ : zeS), zeCq cur = true → (∀ q ∈ cur, q ∈ code) → zeWs L f code cs dom cuts (zeGdc p l e R s m args below meth c Q D cy A ad nL dom cs0 ss0) (zeGdc p l e R s m args below meth c Q D cy A ad nL dom cs0 ss0) Rz n cur ls st σ → ∃ q r, cur = q :: r ∧ zeGdc p l e R s m args below meth c Q D cy A ad nL dom cs0 ss0 q.1 ls st σ
  | n, [], ls, st, σ, _, _, h => by cases n <;> exact h.elim
  | 0, q :: r, ls, st, σ, _, _, h => ⟨q, r, rfl, h⟩
  | n + 1, q :: nxt, ls, st, σ, hc, hm, h => by
    refine ⟨q, nxt, rfl, ?_⟩
    obtain ⟨ins, fa, g1, g2⟩ := zeTb_ok hcode q (hm q List.mem_cons_self)
    obtain ⟨d1, d2, -⟩ := X.2.1.1 _ g1
    refine zeDos_ok X hX hbl hbA hL hcs hret d1 d2 g2 h (fun ls st σ h => ?_) (fun t ls st σ h => ?_)
    · split at h
      · exact zeGd_pjc _ h
      · obtain ⟨q', r', e1, e2⟩ := zeWs_ok X hX hbl hbA hL hcs hret hcode hcq cuts n nxt ls st σ (by
          cases nxt with
          | nil => rfl
          | cons b r => simp only [zeCq, Bool.and_eq_true] at hc; exact hc.2) (fun z hz => hm z (List.mem_cons_of_mem _ hz)) h
        subst e1
        simp only [zeCq, Bool.and_eq_true, beq_iff_eq] at hc
        dsimp only
        rw [hc.1]
        exact e2
    · rw [Int.toNat_natCast] at h
      split at h
      · exact zeGd_pjc _ h
      · obtain ⟨s1, s2, s3⟩ := zeSk_ok (t := t) hcq
        obtain ⟨q', r', e1, e2⟩ := zeWs_ok X hX hbl hbA hL hcs hret hcode hcq cuts n _ ls st σ s1 s2 h
        rw [← s3 _ _ e1]
        exact e2
def zeSs (L : Nat) (f : Nat → Int32) (code : List zeEn) (cs : List zeC) (dom : zeD) (G H : zeG) (R : Option zeV → zeS → Prop) : Prop := ∀ (n : Nat) (cuts : List (Nat × List Nat)) (pc : Nat) (ls : zeLs) (st : List zeV) (σ : zeS), zeWs L f code cs dom cuts G H R n (zeSk pc code) ls st σ → G pc ls st σ
theorem zeSs_of (X : zeXc p R s m args c cc D cy A own Ts ad nL M dom rm cs0 ss0) {L : Nat} {f : Nat → Int32} (hX : va_X (ad 0) L f s s.heap) (hbl : ad 0 < s.heap.size) (hbA : ¬ A (ad 0)) (hL : L < 2147483648) {cs : List zeC} (hcs : ∀ q ∈ cs, zeTok own M rm dom q) {Rz : Option zeV → zeS → Prop} (hret : zeRetOkc p l e R s m args below meth c Q cc D cy A ad dom Rz cs0 ss0) {code : List zeEn} (hcode : zeTb M nL M.1 = some code) (hcq : zeCq code = true) : zeSs L f code cs dom (zeGdc p l e R s m args below meth c Q D cy A ad nL dom cs0 ss0) (zeGdc p l e R s m args below meth c Q D cy A ad nL dom cs0 ss0) Rz := fun n cuts pc ls st σ h => by
  obtain ⟨s1, s2, s3⟩ := zeSk_ok (t := pc) hcq
  obtain ⟨q', r', e1, e2⟩ := zeWs_ok X hX hbl hbA hL hcs hret hcode hcq cuts n _ ls st σ s1 s2 h
  rw [← s3 _ _ e1]
  exact e2
end ZES

/-! the same walk, which tells the places that it was bidden to rest at (H) from those where it had to (G) -/
def zeWq (code : List zeEn) (cs : List zeC) (dom : zeD) (cuts : List (Nat × List Nat)) (G H : zeG) (R : Option zeV → zeS → Prop) : Nat → List zeEn → zeLs → List zeV → zeS → Prop
  | _, [], _, _, _ => False
  | 0, q :: _, ls, st, σ => G q.1 ls st σ
  | n + 1, q :: nxt, ls, st, σ => zeDo cs dom q.2.1 ls st σ
    (fun ls st σ => match zeCt cuts (q.1 + q.2.2) with
      | some js => H (q.1 + q.2.2) (zePj js ls) st σ
      | none => zeWq code cs dom cuts G H R n nxt ls st σ)
    (fun t ls st σ => match zeCt cuts t.toNat with
      | some js => H t.toNat (zePj js ls) st σ
      | none => zeWq code cs dom cuts G H R n (zeSk t.toNat code) ls st σ) R
theorem zeWq_eq (code : List zeEn) (cs : List zeC) (dom : zeD) (cuts : List (Nat × List Nat)) (G : zeG) (R : Option zeV → zeS → Prop) : ∀ (n : Nat) (cur : List zeEn), zeWq code cs dom cuts G G R n cur = zeWp code cs dom cuts G R n cur
  | n, [] => by cases n <;> rfl
  | 0, q :: r => rfl
  | n + 1, q :: r => by
    funext ls st σ
    have e1 := zeWq_eq code cs dom cuts G R n r
    have e2 : ∀ t, zeWq code cs dom cuts G G R n (zeSk t code) = zeWp code cs dom cuts G R n (zeSk t code) := fun t => zeWq_eq code cs dom cuts G R n _
    unfold zeWq zeWp
    simp only [e1, e2]
    rfl
def zeSq (code : List zeEn) (cs : List zeC) (dom : zeD) (G H : zeG) (R : Option zeV → zeS → Prop) : Prop := ∀ (n : Nat) (cuts : List (Nat × List Nat)) (pc : Nat) (ls : zeLs) (st : List zeV) (σ : zeS), zeWq code cs dom cuts G H R n (zeSk pc code) ls st σ → G pc ls st σ
theorem zWd (code : List zeEn) (cs : List zeC) (dom : zeD) (cuts : List (Nat × List Nat)) (G H : zeG) (R : Option zeV → zeS → Prop) (n : Nat) (q : zeEn) (nxt : List zeEn) (ls : zeLs) (st : List zeV) (σ : zeS) : zeWq code cs dom cuts G H R (n + 1) (q :: nxt) ls st σ = zeDo cs dom q.2.1 ls st σ
    (fun ls st σ => match zeCt cuts (q.1 + q.2.2) with
      | some js => H (q.1 + q.2.2) (zePj js ls) st σ
      | none => zeWq code cs dom cuts G H R n nxt ls st σ)
    (fun t ls st σ => match zeCt cuts t.toNat with
      | some js => H t.toNat (zePj js ls) st σ
      | none => zeWq code cs dom cuts G H R n (zeSk t.toNat code) ls st σ) R := rfl
theorem zWd0 (code : List zeEn) (cs : List zeC) (dom : zeD) (cuts : List (Nat × List Nat)) (G H : zeG) (R : Option zeV → zeS → Prop) (q : zeEn) (nxt : List zeEn) (ls : zeLs) (st : List zeV) (σ : zeS) : zeWq code cs dom cuts G H R 0 (q :: nxt) ls st σ = G q.1 ls st σ := rfl
theorem zMq {M : xM} {Mi : xMi} {rm : Nat × Nat} {cs : List zeC} {code : List zeEn} {ret : Option FieldType} (hM : xMp M Mi) (hcode : zeTb Mi M.2.2.1 Mi.1 = some code ∧ zeCq code = true) (hr : M.2.2.2 = ret) (hcs : ∀ q ∈ cs, zeTok M.1.cls Mi rm zdM q) {as : List zeV} {σ : zeS} {Qz : Option zeV → zeS → Prop} (hmx : zeSum as ≤ M.2.2.1)
    (h : ∀ G H : zeG, zeSq code cs zdM G H (zeRr ret Qz) → (∀ pc ls st σ, G pc ls st σ → H pc ls st σ) → G 0 (zeArgs 0 as) [] σ) : zeMet M rm zdM as σ Qz :=
  zMt hM hcode hr hcs hmx (fun G step _ => h G G (fun n cuts pc ls st σ hw => step n cuts pc ls st σ (by rw [zeWq_eq] at hw; exact hw)) (fun _ _ _ _ z => z))

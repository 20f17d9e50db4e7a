/-! the law's cases whose answers are put aside, in one form -/
abbrev zLoc (i : Int) : zeLs := [(0, .inr (.inr (some 0))), (1, .inr (.inr (some 4))), (2, .inr (.inr (some 98))), (3, .inr (.inr (some 127))), (4, .inl i)]
def zArg : Nat → Nat → Nat → List zeEn
  | _, _, 0 => []
  | p, j, n + 1 => (p, .aload 0, 1) :: (p + 1, .iload 4, 2) :: (p + 3, .bipush (j : Int), 1) :: (p + 4, .iadd, 1) :: (p + 5, .iaload, 1) :: zArg (p + 6) (j + 1) n
def zArv (f : Nat → Int32) (i : Int) : Nat → Nat → List zeV → List zeV
  | _, 0, st => st
  | j, n + 1, st => zArv f i (j + 1) n (.inl (f (i + (j : Int)).toNat).toInt :: st)
def zAv (f : Nat → Int32) (i : Int) : Nat → Nat → List zeV
  | _, 0 => []
  | j, n + 1 => .inl (f (i + (j : Int)).toNat).toInt :: zAv f i (j + 1) n
theorem zPop_arv {f : Nat → Int32} {i : Int} : ∀ (n j m : Nat) (st acc : List zeV), zePop (m + n) (zArv f i j n st) acc = zePop m st (zAv f i j n ++ acc)
  | 0, _, _, _, _ => rfl
  | n + 1, j, m, st, acc => by
    have ih := zPop_arv (f := f) (i := i) n (j + 1) (m + 1) (.inl (f (i + (j : Int)).toNat).toInt :: st) acc
    rw [show m + (n + 1) = m + 1 + n by omega]
    exact ih
theorem zPop_av {f : Nat → Int32} {i : Int} {n j : Nat} {v : zeV} : zePop (n + 1) (zArv f i j n [v]) [] = some (v :: zAv f i j n, []) := by
  rw [Nat.add_comm n 1, zPop_arv n j 1 [v] [], List.append_nil]
  rfl
theorem zInts_av {f : Nat → Int32} {i : Int} : ∀ (n j : Nat), zInts (zAv f i j n)
  | 0, _ => trivial
  | n + 1, j => zInts_av n (j + 1)
theorem zAv_len {f : Nat → Int32} {i : Int} : ∀ (n j : Nat), (zAv f i j n).length = n
  | 0, _ => rfl
  | n + 1, j => by
    show (zAv f i (j + 1) n).length + 1 = n + 1
    rw [zAv_len]
section ZCA
variable {L : Nat} {f : Nat → Int32} {code : List zeEn} {cs : List zeC} {dom : zeD} {cuts : List (Nat × List Nat)} {G H : zeG} {R : Option zeV → zeS → Prop} {ls : zeLs} {st : List zeV} {σ : zeS} {n p len : Nat} {nxt : List zeEn} {ins : Instr}
variable {S : zeLs → List zeV → zeS → Prop} {J : Int → zeLs → List zeV → zeS → Prop}
theorem zs_step (hc : zeCt cuts (p + len) = none) (h : ∀ J, zeDos L f cs dom ins ls st σ (fun ls st σ => zeWs L f code cs dom cuts G H R n nxt ls st σ) J R) : zeWs L f code cs dom cuts G H R (n + 1) ((p, ins, len) :: nxt) ls st σ := by
  rw [zWs1]
  dsimp only
  rw [hc]
  exact h _
theorem zd_al {k : Nat} {v : zeV} (h : zeLg k ls = some v) (hk : zeKd v = 2) (g : S ls (v :: st) σ) : zeDos L f cs dom (.aload k) ls st σ S J R := by
  simp only [zeDos, zsAl, zsIl, Bool.false_and, Bool.false_eq_true, if_false, ite_false, zeDo, h]
  exact ⟨hk, g⟩
theorem zd_il {k : Nat} {v : zeV} (h : zeLg k ls = some v) (hk : zeKd v = 0) (g : S ls (v :: st) σ) : zeDos L f cs dom (.iload k) ls st σ S J R := by
  simp only [zeDos, zsAl, zsIl, Bool.false_and, Bool.false_eq_true, if_false, ite_false, zeDo, h]
  exact ⟨hk, g⟩
theorem zd_bi {k : Int} (g : S ls (.inl k :: st) σ) : zeDos L f cs dom (.bipush k) ls st σ S J R := by
  simp only [zeDos, zsAl, zsIl, Bool.false_and, Bool.false_eq_true, if_false, ite_false, zeDo]
  exact g
theorem zd_ad {a b : Int} (g : S ls (.inl (zw (a + b)) :: st) σ) : zeDos L f cs dom .iadd ls (.inl b :: .inl a :: st) σ S J R := by
  simp only [zeDos, zsAl, zsIl, Bool.false_and, Bool.false_eq_true, if_false, ite_false, zeDo, zeBF]
  exact g
theorem zd_sl {x : Int} (h0 : 0 ≤ x) (h1 : x < (L : Int)) (g : S ls (.inl (f x.toNat).toInt :: st) σ) : zeDos L f cs dom .iaload ls (.inl x :: .inr (.inr (some 0)) :: st) σ S J R := by
  simp only [zeDos, zsAl, zsIl, zsT1, zsT2, zsS2, Bool.false_and, Bool.true_and, Bool.false_eq_true, if_false, ite_false, if_true, ite_true]
  exact ⟨⟨h0, h1⟩, g⟩
theorem zd_po {a : zeV} (h : zeCat a = 1) (g : S ls st σ) : zeDos L f cs dom .pop ls (a :: st) σ S J R := by
  simp only [zeDos, zsAl, zsIl, Bool.false_and, Bool.false_eq_true, if_false, ite_false, zeDo]
  exact ⟨h, g⟩
theorem zd_iv {k c : Nat} {T : zeT} {as st' : List zeV} (h : zeCs k cs = some (c, T)) (hp : zePop c st [] = some (as, st')) (hs : zeSum st' ≤ 8) (g : T as σ (fun r σ' => match r with
      | some v => S ls (v :: st') σ'
      | none => S ls st' σ')) : zeDos L f cs dom (.invokevirtual k) ls st σ S J R := by
  simp only [zeDos, zsAl, zsIl, Bool.false_and, Bool.false_eq_true, if_false, ite_false, zeDo, zeCall, h, hp]
  exact ⟨hs, g⟩
theorem zs_goto {t : Int} {js : List Nat} (hc : zeCt cuts t.toNat = some js) (g : H t.toNat (zePj js ls) st σ) : zeWs L f code cs dom cuts G H R (n + 1) ((p, .goto t, len) :: nxt) ls st σ := by
  rw [zWs1]
  simp only [zeDos, zsAl, zsIl, Bool.false_and, Bool.false_eq_true, if_false, ite_false, zeDo]
  rw [hc]
  exact g
theorem zs_arg {i : Int} {j : Nat} (hc : ∀ x, p < x → x ≤ p + 6 → zeCt cuts x = none) (h0 : 0 ≤ i) (hj : i + (j : Int) < (L : Int)) (hL : L ≤ 3072) (h : zeWs L f code cs dom cuts G H R n nxt (zLoc i) (.inl (f (i + (j : Int)).toNat).toInt :: st) σ) : zeWs L f code cs dom cuts G H R (n + 5) ((p, .aload 0, 1) :: (p + 1, .iload 4, 2) :: (p + 3, .bipush (j : Int), 1) :: (p + 4, .iadd, 1) :: (p + 5, .iaload, 1) :: nxt) (zLoc i) st σ := by
  have hz : zw (i + (j : Int)) = i + (j : Int) := zw_id (by omega) (by omega)
  refine zs_step (hc _ (by omega) (by omega)) fun _ => zd_al (v := .inr (.inr (some 0))) rfl rfl ?_
  refine zs_step (hc _ (by omega) (by omega)) fun _ => zd_il (v := .inl i) rfl rfl ?_
  refine zs_step (hc _ (by omega) (by omega)) fun _ => zd_bi ?_
  refine zs_step (hc _ (by omega) (by omega)) fun _ => zd_ad ?_
  rw [hz]
  exact zs_step (hc _ (by omega) (by omega)) fun _ => zd_sl (by omega) hj h
theorem zs_args {i : Int} (h0 : 0 ≤ i) (hL : L ≤ 3072) : ∀ (n p j m : Nat) (nxt : List zeEn) (st : List zeV) (σ : zeS), (∀ x, p < x → x ≤ p + 6 * n → zeCt cuts x = none) → i + (j : Int) + (n : Int) ≤ (L : Int) → zeWs L f code cs dom cuts G H R m nxt (zLoc i) (zArv f i j n st) σ → zeWs L f code cs dom cuts G H R (m + 5 * n) (zArg p j n ++ nxt) (zLoc i) st σ
  | 0, _, _, _, _, _, _, _, _, h => h
  | n + 1, p, j, m, nxt, st, σ, hc, hj, h => by
    have ih := zs_args h0 hL n (p + 6) (j + 1) m nxt (.inl (f (i + (j : Int)).toNat).toInt :: st) σ (fun x x1 x2 => hc x (by omega) (by omega)) (by omega) h
    rw [show m + 5 * (n + 1) = m + 5 * n + 5 by omega]
    exact zs_arg (nxt := zArg (p + 6) (j + 1) n ++ nxt) (fun x x1 x2 => hc x x1 (by omega)) h0 (by omega) hL ih
end ZCA
/-- a case: the class is called, its answer goes; the reference is called, its answer goes -/
def zPc (E p l1 l2 n : Nat) (rest : List zeEn) : List zeEn := (p, .aload 1, 1) :: (zArg (p + 1) 1 n ++ ((p + 1 + 6 * n, .invokevirtual l1, 3) :: (p + 4 + 6 * n, .pop, 1) :: (p + 5 + 6 * n, .aload 2, 1) :: (zArg (p + 6 + 6 * n) 1 n ++ ((p + 6 + 12 * n, .invokevirtual l2, 3) :: (p + 9 + 12 * n, .pop, 1) :: (p + 10 + 12 * n, .goto (E : Int), 3) :: rest))))
theorem zCaseP {E L n pc l1 l2 : Nat} {f : Nat → Int32} {code rest : List zeEn} {G H : zeG} {R : Option zeV → zeS → Prop} {P1 P2 : zeS → zeS → Prop} {i : Int} {σ : zeS} (step : zeSs L f code [(l1, n + 1, tC n P1), (l2, n + 1, tM n P2)] zdL G H R) (hsk : zeSk pc code = zPc E pc l1 l2 n rest) (hne : (l1 == l2) = false) (hE : pc + 12 * n + 11 < E) (hn : n ≤ 5) (hL : L ≤ 3072) (hi0 : 0 ≤ i) (hi : i + 6 ≤ (L : Int)) (hI : zLI σ)
    (hP : ∀ τ τ' : zeS, zCI zGc τ → (∀ k', ¬ k' ∈ zGi → zeSm σ τ k') → P1 σ τ → zGI τ' → (∀ k', k' < 98 ∨ 126 < k' → zeSm τ τ' k') → P2 τ τ' → zLI τ') (k : ∀ τ, zLI τ → H E (zLoc i) [] τ) : G pc (zLoc i) [] σ := by
  have hc : ∀ x, x < E → zeCt [(E, [0, 1, 2, 3, 4])] x = none := fun x hx => by
    show (bif E == x then some [0, 1, 2, 3, 4] else none) = none
    rw [show (E == x) = false by simp; omega, cond_false]
  have hcE : zeCt [(E, [0, 1, 2, 3, 4])] (E : Int).toNat = some [0, 1, 2, 3, 4] := by
    rw [Int.toNat_natCast]
    show (bif E == E then some [0, 1, 2, 3, 4] else none) = _
    rw [beq_self_eq_true, cond_true]
  have h1 : zeCs l1 [(l1, n + 1, tC n P1), (l2, n + 1, tM n P2)] = some (n + 1, tC n P1) := by
    show (bif l1 == l1 then some (n + 1, tC n P1) else _) = _
    rw [beq_self_eq_true, cond_true]
  have h2 : zeCs l2 [(l1, n + 1, tC n P1), (l2, n + 1, tM n P2)] = some (n + 1, tM n P2) := by
    show (bif l1 == l2 then some (n + 1, tC n P1) else (bif l2 == l2 then some (n + 1, tM n P2) else none)) = _
    rw [hne, cond_false, beq_self_eq_true, cond_true]
  refine step (0 + 1 + 1 + 1 + 5 * n + 1 + 1 + 1 + 5 * n + 1) [(E, [0, 1, 2, 3, 4])] pc (zLoc i) [] σ ?_
  rw [hsk]
  unfold zPc
  refine zs_step (hc _ (by omega)) fun _ => zd_al (v := .inr (.inr (some 4))) rfl rfl ?_
  refine zs_args hi0 hL n _ 1 _ _ _ _ (fun x _ x2 => hc x (by omega)) (by omega) ?_
  refine zs_step (hc _ (by omega)) fun _ => zd_iv h1 zPop_av (by show 0 ≤ 8; omega) ?_
  refine ⟨⟨rfl, zInts_av n 1, zAv_len n 1⟩, hI.1, fun r τ a b c => ?_⟩
  refine zs_step (hc _ (by omega)) fun _ => zd_po rfl ?_
  refine zs_step (hc _ (by omega)) fun _ => zd_al (v := .inr (.inr (some 98))) rfl rfl ?_
  refine zs_args hi0 hL n _ 1 _ _ _ _ (fun x _ x2 => hc x (by omega)) (by omega) ?_
  refine zs_step (hc _ (by omega)) fun _ => zd_iv h2 zPop_av (by show 0 ≤ 8; omega) ?_
  refine ⟨⟨rfl, zInts_av n 1, zAv_len n 1⟩, zG_c b hI.2.1, fun r' τ' a' b' c' => ?_⟩
  refine zs_step (hc _ (by omega)) fun _ => zd_po rfl ?_
  refine zs_goto hcE ?_
  rw [Int.toNat_natCast]
  exact k τ' (hP τ τ' a b c a' b' c')

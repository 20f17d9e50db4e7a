/-! the law's start: from its first instructions, walked by the program, to the exact walk -/
noncomputable def xRunB (base : xRec) (M : xMi) (cons : List xCd) (ts : List xT) (sc : Option (Nat × List xV)) (fin : Bool) (rm : Nat × Nat × Nat × Nat) (nL : Nat) (chk : Option xV → xH → Nat → Nat → Nat → Bool) (n : Nat) : xRec := Nat.rec base (fun _ ih => xStep M cons ts sc fin rm nL chk ih) n
section XRB
variable {p : Program} {l : Launch} {e : Env} {R : Room} {s : State} {m : MethodId} {args : Array Value} {below : List Frame} {meth : Method} {c : Code} {Q : State → Prop}
variable {cc : ByteArray} {D : va_G} {cy : Nat → ClassId} {η : Nat → Int32} {A : Nat → Prop} {own : String} {Ts : List Cond} {ad0 : Nat → Nat} {nx0 nL : Nat}
variable {M : xMi} {cons : List xCd} {ts : List xT} {sc : Option (Nat × List xV)} {fin : Bool} {rm : Nat × Nat × Nat × Nat} {chk : Option xV → xH → Nat → Nat → Nat → Bool} {base : xRec}
/-- the walk with another end than its own -/
theorem xRunB_ok (X : xCx p R s m args meth c cc D cy η A own Ts ad0 nx0 nL M cons ts sc fin rm) (hret : xRetOk p l e R s m args below meth c Q cc D cy η A ad0 nx0 chk) (hbase : xIH p l e R s m args below meth c Q D cy η A ad0 nx0 nL M base) : ∀ n : Nat, xIH p l e R s m args below meth c Q D cy η A ad0 nx0 nL M (xRunB base M cons ts sc fin rm nL chk n)
  | 0 => hbase
  | n + 1 => fun pc cur ls st hp nx cs ss hcur h => by
    have h : xStep M cons ts sc fin rm nL chk (xRunB base M cons ts sc fin rm nL chk n) pc cur ls st hp nx cs ss = true := h
    cases cur with
    | nil => cases h
    | cons q nxt =>
      have h : (q.1 == pc && xFast (xRunB base M cons ts sc fin rm nL chk n) (xDo M cons ts sc fin rm nL chk (xRunB base M cons ts sc fin rm nL chk n) pc q.2.1 q.2.2.1 nxt ls st hp nx cs ss) nL q.2.2.2 pc q.2.2.1 nxt ls st hp nx cs ss) = true := h
      rw [Bool.and_eq_true, beq_iff_eq] at h
      obtain ⟨rfl, h⟩ := h
      obtain ⟨h1, h2, h3⟩ := X.2.1.1 q (hcur q List.mem_cons_self)
      exact xFast_ok X (xRunB_ok X hret hbase n) h3 (fun z hz => hcur z (List.mem_cons_of_mem _ hz)) h1 h2 (fun hh => xDo_ok X (xRunB_ok X hret hbase n) hret (fun z hz => hcur z (List.mem_cons_of_mem _ hz)) h1 h2 hh) h
end XRB
theorem xTok_nil {η : Nat → Int32} : xTok η [] := fun _ h => absurd h List.not_mem_nil
def zlE : xE → xE → Bool
  | .inl o, .inl o' => o.1 == o'.1 && zyQL [] o.2 o'.2
  | .inr (_, n, d, ov), .inr (_, n', d', ov') => n == n' && ((decide (d = d') && decide (ov = ov')) || (ov'.isEmpty && (zyLe1 [] d d' && ov.all (fun q => zyLe1 [] q.2 d'))))
  | _, _ => false
theorem zlEn : yOkE (fun _ => 0) [] := fun _ _ h => by simp at h
theorem zlAt {d d' : xV} {ov : List (Nat × xV)} (hd : zyLe1 [] d d' = true) (ho : ov.all (fun q => zyLe1 [] q.2 d') = true) (i : Nat) : zyLe1 [] (xAt d ov i) d' = true := by
  induction ov with
  | nil => exact hd
  | cons q r ih =>
    rw [List.all_cons, Bool.and_eq_true] at ho
    unfold xAt
    by_cases hq : (q.1 == i) = true
    · rw [hq, cond_true]; exact ho.1
    · rw [show (q.1 == i) = false by simpa using hq, cond_false]; exact ih ho.2
theorem zlE_ok {τ : zeS} {k : Nat} : ∀ {e g : xE}, zlE e g = true → zyC (fun _ => 0) e τ k → zyC (fun _ => 0) g τ k
  | .inl o, .inl o', h, he => by
    simp only [zlE, Bool.and_eq_true] at h
    intro j a ha
    have := zyQL_ok zlEn (s := 0) h.2 (fun j g hj => by rw [Nat.zero_add]; exact he j g hj) j a ha
    rw [Nat.zero_add] at this
    exact this
  | .inr (t, n, d, ov), .inr (t', n', d', ov'), h, he => by
    simp only [zlE, Bool.and_eq_true, Bool.or_eq_true, decide_eq_true_eq, beq_iff_eq, List.isEmpty_iff] at h
    obtain ⟨h1, h2⟩ := h
    subst h1
    intro i hi
    rcases h2 with ⟨h2, h3⟩ | ⟨h2, h3, h4⟩
    · subst h2; subst h3
      exact he i hi
    · subst h2
      exact zyLe1_ok zlEn (zlAt h3 h4 i) (he i hi)
  | .inl _, .inr _, h, _ => by simp [zlE] at h
  | .inr _, .inl _, h, _ => by simp [zlE] at h
theorem lpW_pl : lpW.map (fun q => (q.1, zyPl q.2)) = zdL := by decide +kernel
theorem lpW_k : lpW.all (fun q => zyKE q.2) = true := by decide +kernel
theorem lpW_nd : (lpW.map (·.1)).Nodup := by decide +kernel
theorem lpW_G : zGc.all (fun q => match xGet q.1 lpW with
  | some e => zlE e q.2
  | none => false) = true := by decide +kernel
theorem lpW_i : lpW.map (·.1) = zsI zdL := by decide +kernel
theorem lp_in {ad : Nat → Nat} {cy : Nat → ClassId} {wc : va_W} (h : xWok (yη (fun _ => 0)) ad 129 cy lpW wc) : ∃ σ : zeS, zeW ad cy σ zdL wc ∧ ∀ q ∈ lpW, zyC (fun _ => 0) q.2 σ q.1 := by
  obtain ⟨e1, rfl, hc1⟩ := zyWo lpW_nd h
  have hch : ∀ k' : Nat, ∃ w : (Int → Int) × (Int → Int64) × (Int → Option Nat), ∀ q ∈ lpW, q.1 = k' → ∀ τ : zeS, (∀ i, τ.1 k' i = w.1 i) → (∀ i, τ.2.1 k' i = w.2.1 i) → (∀ i, τ.2.2 k' i = w.2.2 i) → zeCe ad cy τ k' (zyPl q.2) (e1 k') ∧ zyC (fun _ => 0) q.2 τ k' := fun k' => by
    by_cases hk' : ∃ q ∈ lpW, q.1 = k'
    · obtain ⟨q, hq, rfl⟩ := hk'
      obtain ⟨f, g, r, hfg⟩ := zyC_out q.1 (List.all_eq_true.mp lpW_k q hq) (hc1 q hq)
      refine ⟨(f, g, r), fun q' hq' he τ t1 t2 t3 => ?_⟩
      have := zyU lpW_nd hq' hq he
      subst this
      exact hfg τ t1 t2 t3
    · exact ⟨(fun _ => 0, fun _ => 0, fun _ => none), fun q hq he => absurd ⟨q, hq, he⟩ hk'⟩
  obtain ⟨w, hw⟩ := Classical.axiomOfChoice hch
  obtain ⟨σ, hσ⟩ : ∃ σ : zeS, σ = (fun k i => (w k).1 i, fun k i => (w k).2.1 i, fun k i => (w k).2.2 i) := ⟨_, rfl⟩
  have hcell : ∀ q ∈ lpW, zeCe ad cy σ q.1 (zyPl q.2) (e1 q.1) ∧ zyC (fun _ => 0) q.2 σ q.1 := fun q hq => hw q.1 q hq rfl σ (fun i => by rw [hσ]) (fun i => by rw [hσ]) (fun i => by rw [hσ])
  refine ⟨σ, ?_, fun q hq => (hcell q hq).2⟩
  rw [lpW_i]
  refine zsOf fun p hp => ?_
  rw [← lpW_pl] at hp
  obtain ⟨q, hq, rfl⟩ := List.mem_map.mp hp
  exact (hcell q hq).1
theorem zyFr {σ : zeS} {k : Nat} {j : Int} {o : Nat} (h : zyF (fun _ => 0) (zr o) σ k j) : σ.2.2 k j = some o := h.1
theorem zyFz {σ : zeS} {k : Nat} {j : Int} (h : zyF (fun _ => 0) z0 σ k j) : σ.1 k j = 0 := by
  obtain ⟨h1, h2⟩ := h
  exact Int.le_antisymm h2 h1
theorem zyFi {σ : zeS} {k : Nat} {j a b : Int} (h : zyF (fun _ => 0) (zi a b) σ k j) : a ≤ σ.1 k j ∧ σ.1 k j ≤ b := h
theorem zyFa {σ : zeS} {k n : Nat} (h : zyC (fun _ => 0) (.inr (1, n, z0, [])) σ k) (i : Int) (h1 : 0 ≤ i) (h2 : i < (n : Int)) : σ.1 k i = 0 := by
  have g := zyFz (h i.toNat (by omega))
  rw [Int.toNat_of_nonneg h1] at g
  exact g
theorem zyFb {σ : zeS} {k n : Nat} (h : zyC (fun _ => 0) (.inr (0, n, z0, [])) σ k) (i : Int) (h1 : 0 ≤ i) (h2 : i < (n : Int)) : σ.1 k i = 0 := by
  have g := zyFz (h i.toNat (by omega))
  rw [Int.toNat_of_nonneg h1] at g
  exact g
set_option maxHeartbeats 4000000 in
theorem lp_GI {σ : zeS} (hc : ∀ q ∈ lpW, zyC (fun _ => 0) q.2 σ q.1) : zGI σ := by
  have h98 : ∀ (j : Nat) (a : xV), ([(zr 99), (zi (Int.ofNat 1) (Int.ofNat 1)), (zi (Int.ofNat 1) (Int.ofNat 1)), (zr 100), z0, (zi (Int.negSucc 0) (Int.negSucc 0)), z0, (zr 101), z0, (zr 102), (zr 103), (zr 104), z0, (zr 105), z0, z0, zn, z0, z0, z0, z0, (zr 106), (zr 107), z0, z0, z0, z0, z0, (zr 108), (zr 109), (zr 110), z0, (zr 111), (zr 112), (zr 113), (zr 114), (zr 115), (zr 116), z0, (zr 117), (zr 118), (zr 119), (zr 120), (zr 121), (zr 122), z0, (zr 123), (zr 124), (zr 125), (zr 126)])[j]? = some a → zyF (fun _ => 0) a σ 98 (j : Int) := hc _ (List.mem_of_getElem? (i := 92) rfl : ((98, wI71) : Nat × xE) ∈ lpW)
  have r99 : ∀ i : Int, 0 ≤ i → i < 36 → σ.1 99 i = 0 := zyFa (n := 36) (hc _ (List.mem_of_getElem? (i := 93) rfl : ((99, wI4) : Nat × xE) ∈ lpW))
  have r100 : ∀ i : Int, 0 ≤ i → i < 24 → σ.1 100 i = 0 := zyFa (n := 24) (hc _ (List.mem_of_getElem? (i := 94) rfl : ((100, wI19) : Nat × xE) ∈ lpW))
  have r102 : ∀ i : Int, 0 ≤ i → i < 20 → σ.1 102 i = 0 := zyFa (n := 20) (hc _ (List.mem_of_getElem? (i := 96) rfl : ((102, wI73) : Nat × xE) ∈ lpW))
  have r123 : ∀ i : Int, 0 ≤ i → i < 334 → σ.1 123 i = 0 := zyFa (n := 334) (hc _ (List.mem_of_getElem? (i := 117) rfl : ((123, wI80) : Nat × xE) ∈ lpW))
  have r104 : ∀ i : Int, 0 ≤ i → i < 80 → σ.1 104 i = 0 := zyFb (n := 80) (hc _ (List.mem_of_getElem? (i := 98) rfl : ((104, wI75) : Nat × xE) ∈ lpW))
  have e4 : σ.1 98 4 = 0 := zyFz (h98 4 _ rfl)
  have e6 : σ.1 98 6 = 0 := zyFz (h98 6 _ rfl)
  have e8 : σ.1 98 8 = 0 := zyFz (h98 8 _ rfl)
  have e12 : σ.1 98 12 = 0 := zyFz (h98 12 _ rfl)
  have e14 : σ.1 98 14 = 0 := zyFz (h98 14 _ rfl)
  have e23 : σ.1 98 23 = 0 := zyFz (h98 23 _ rfl)
  have e1 : (1 : Int) ≤ σ.1 98 1 ∧ σ.1 98 1 ≤ (1 : Int) := zyFi (h98 1 _ rfl)
  have e2 : (1 : Int) ≤ σ.1 98 2 ∧ σ.1 98 2 ≤ (1 : Int) := zyFi (h98 2 _ rfl)
  have e5 : (-1 : Int) ≤ σ.1 98 5 ∧ σ.1 98 5 ≤ (-1 : Int) := zyFi (h98 5 _ rfl)
  have hRf : zRf σ := ⟨⟨zyFr (h98 0 _ rfl), zyFr (h98 3 _ rfl), zyFr (h98 7 _ rfl), zyFr (h98 9 _ rfl), zyFr (h98 10 _ rfl)⟩, ⟨zyFr (h98 11 _ rfl), zyFr (h98 13 _ rfl), zyFr (h98 21 _ rfl), zyFr (h98 22 _ rfl), zyFr (h98 28 _ rfl)⟩, ⟨zyFr (h98 29 _ rfl), zyFr (h98 30 _ rfl), zyFr (h98 32 _ rfl), zyFr (h98 33 _ rfl), zyFr (h98 34 _ rfl)⟩, ⟨zyFr (h98 35 _ rfl), zyFr (h98 36 _ rfl), zyFr (h98 37 _ rfl), zyFr (h98 39 _ rfl), zyFr (h98 40 _ rfl)⟩, ⟨zyFr (h98 41 _ rfl), zyFr (h98 42 _ rfl), zyFr (h98 43 _ rfl), zyFr (h98 44 _ rfl), zyFr (h98 46 _ rfl)⟩, zyFr (h98 47 _ rfl), zyFr (h98 48 _ rfl), zyFr (h98 49 _ rfl)⟩
  have hFg : zFg σ := ⟨by omega, by omega, fun i h1 h2 => by rw [r100 i h1 (by omega)]; omega⟩
  have hYd : zYd σ := fun i h1 h2 => by rw [r99 i h1 (by omega)]; omega
  have hWl : zWl σ := fun i h1 h2 => by rw [r102 (5 * i + 1) (by omega) (by omega), r102 (5 * i + 2) (by omega) (by omega), r102 (5 * i + 3) (by omega) (by omega), r102 (5 * i + 4) (by omega) (by omega)]; omega
  have hKp : zKp σ := fun i h1 h2 => ⟨by rw [r123 (167 * i) (by omega) (by omega)]; omega, by rw [r123 (167 * i + 1) (by omega) (by omega)]; omega, by rw [r123 (167 * i + 2) (by omega) (by omega)]; omega, fun x g1 g2 => by rw [r123 (167 * i + 3 + x) (by omega) (by omega)]; omega, fun x g1 g2 => by rw [r123 (167 * i + 27 + (5 * x + 1)) (by omega) (by omega), r123 (167 * i + 27 + (5 * x + 2)) (by omega) (by omega), r123 (167 * i + 27 + (5 * x + 3)) (by omega) (by omega), r123 (167 * i + 27 + (5 * x + 4)) (by omega) (by omega)]; omega⟩
  have hTz : zTz σ := fun i h1 h2 => by rw [r104 i h1 (by omega)]; omega
  exact ⟨hRf, by omega, by omega, by omega, by omega, hFg, hYd, hWl, hKp, hTz, by omega, by omega, by omega, by omega, by omega, by omega, by omega, by omega, by omega, by omega, by omega⟩
theorem lp_CI {σ : zeS} (hc : ∀ q ∈ lpW, zyC (fun _ => 0) q.2 σ q.1) : zCI zGc σ := fun q hq => by
  have h := List.all_eq_true.mp lpW_G q hq
  split at h
  · rename_i e he
    exact zlE_ok h (hc _ (xGet_mem he))
  · cases h
theorem lp_LI {σ : zeS} (hc : ∀ q ∈ lpW, zyC (fun _ => 0) q.2 σ q.1) : zLI σ := by
  have h5 : ∀ (j : Nat) (a : xV), ([(zr 6), z0])[j]? = some a → zyF (fun _ => 0) a σ 5 (j : Int) := hc _ (List.mem_of_getElem? (i := 1) rfl : ((5, wI1) : Nat × xE) ∈ lpW)
  have h98 : ∀ (j : Nat) (a : xV), ([(zr 99), (zi (Int.ofNat 1) (Int.ofNat 1)), (zi (Int.ofNat 1) (Int.ofNat 1)), (zr 100), z0, (zi (Int.negSucc 0) (Int.negSucc 0)), z0, (zr 101), z0, (zr 102), (zr 103), (zr 104), z0, (zr 105), z0, z0, zn, z0, z0, z0, z0, (zr 106), (zr 107), z0, z0, z0, z0, z0, (zr 108), (zr 109), (zr 110), z0, (zr 111), (zr 112), (zr 113), (zr 114), (zr 115), (zr 116), z0, (zr 117), (zr 118), (zr 119), (zr 120), (zr 121), (zr 122), z0, (zr 123), (zr 124), (zr 125), (zr 126)])[j]? = some a → zyF (fun _ => 0) a σ 98 (j : Int) := hc _ (List.mem_of_getElem? (i := 92) rfl : ((98, wI71) : Nat × xE) ∈ lpW)
  have a : σ.1 5 1 = 0 := zyFz (h5 1 _ rfl)
  have b : σ.1 98 12 = 0 := zyFz (h98 12 _ rfl)
  exact ⟨lp_CI hc, lp_GI hc, by omega, fun i i0 i1 => by omega⟩
abbrev zlS (i : Int) : zeLs := [(0, .inr (.inr (some 0))), (1, .inr (.inr (some 4))), (2, .inr (.inr (some 98))), (3, .inr (.inr (some 127))), (4, .inl i)]
noncomputable def lpLs : List (Nat × xV) := [(4, z0), (3, zr 127), (2, zr 98), (1, zr 4), (0, zr 0)]
def lpLz : zeLs := [(4, .inl 0), (3, .inr (.inr (some 127))), (2, .inr (.inr (some 98))), (1, .inr (.inr (some 4))), (0, .inr (.inr (some 0)))]
theorem lpPj : zePj [0, 1, 2, 3, 4] lpLz = zlS 0 := rfl
theorem lp_z {η : Nat → Int32} {ad : Nat → Nat} {N : Nat} {v : Value} (h : xOk η ad N z0 v) : zeOk ad (.inl 0) v := by
  obtain ⟨x, rfl, h1, h2⟩ := h
  exact ⟨x, rfl, Int.le_antisymm h2 h1⟩
theorem lp_r {η : Nat → Int32} {ad : Nat → Nat} {N k : Nat} {v : Value} (h : xOk η ad N (zr k) v) : zeOk ad (.inr (.inr (some k))) v := h.2
theorem lp_ls {η : Nat → Int32} {ad : Nat → Nat} {N : Nat} {lv : List (Nat × Value)} (h : xAll (xLok η ad N) [(4, z0), (3, zr 127), (2, zr 98), (1, zr 4), (0, zr 0)] lv) : xAll (zeLk ad) lpLz lv := by
  match lv, h with
  | [], h => exact h.elim
  | [_], h => exact h.2.elim
  | [_, _], h => exact h.2.2.elim
  | [_, _, _], h => exact h.2.2.2.elim
  | [_, _, _, _], h => exact h.2.2.2.2.elim
  | _ :: _ :: _ :: _ :: _ :: _ :: _, h => exact h.2.2.2.2.2.elim
  | [a4, a3, a2, a1, a0], h =>
    obtain ⟨⟨p4, q4⟩, ⟨p3, q3⟩, ⟨p2, q2⟩, ⟨p1, q1⟩, ⟨p0, q0⟩, -⟩ := h
    exact ⟨⟨p4, lp_z q4⟩, ⟨p3, lp_r q3⟩, ⟨p2, lp_r q2⟩, ⟨p1, lp_r q1⟩, ⟨p0, lp_r q0⟩, trivial⟩
noncomputable def lpB : xRec := fun pc _ ls st hp nx cs ss => pc == 23 && decide (ls = lpLs) && st.isEmpty && nx == 128 && cs == 124 && ss == 23011 && (match xTakeAll lpW hp with
  | some _ => true
  | none => false)
abbrev lpRm : Nat × Nat × Nat × Nat := (2048, 84000, 601024, 7293034)
theorem lp_run : xRunB lpB xI_lp lpC [] none false lpRm 8 (fun _ _ _ _ _ => false) 13 0 xI_lp.1 [(0, .inr (.inr (.inl (some 0))))] [] [] 4 0 0 = true := by decide +kernel
def lpAd (b a1 a2 a3 : Nat) : Nat → Nat
  | 0 => b
  | 1 => a1
  | 2 => a2
  | _ => a3
set_option maxHeartbeats 4000000 in
theorem lp_walk {p : Program} {e : Env} {s : State} {m : MethodId} {below : List Frame} {meth : Method} {c : Code} (l : Launch) {b L : Nat} {xs : Nat → Int32} (C0 : lw_At p s m meth c b L xs) (K : ∀ (D : va_G) (cy : Nat → ClassId) (ad : Nat → Nat) (σ : zeS), xKK D cy s → xSS ad (fun q => s.heap.size ≤ q) s → ad 0 = b → zLI σ → zeGdc p l e room_1 s m #[Value.ref b] below meth c (lw_Z below #[Value.ref b] s) D cy (fun q => s.heap.size ≤ q) ad 8 zdL 124 23011 23 (zlS 0) [] σ) : W p l e room_1 s m #[Value.ref b] below meth c s.heap [] 0 0 (lw_Z below #[Value.ref b] s) (entryFrame m ([Value.ref b] : List Value).toArray 8) := by
  obtain ⟨hx, hb, hr, hml, hown, hts, hX, hbl, hlocks, hg⟩ := C0
  obtain ⟨D, cy, hK⟩ := xKK_law hts
  obtain ⟨a1, a2, a3, hSS⟩ := xSS_law hts hg
  have hl := lv_entry ([.ref b]) (n := 8) (Nat.le_of_ble_eq_true rfl)
  rw [lg_entry_eq]
  have X : xCx p room_1 s m #[Value.ref b] meth c code D cy (yη (fun _ => 0)) (fun q => s.heap.size ≤ q) R_law lw_tbl (lpAd b a1 a2 a3) 4 8 xI_lp lpC [] none false lpRm :=
    ⟨⟨hx, hb, hml, hts, fun w h => xBigL h, hown, hK, fun q h => h, fun ad had => hSS ad (had 1 (by decide)) (had 2 (by decide)) (had 3 (by decide))⟩, xK_lp, lpC_ok, xTok_nil, (fun z hz => by cases hz), (fun h => by cases h), by decide, by decide, by decide, by decide⟩
  refine xRunB_ok (below := below) (l := l) (e := e) (Q := lw_Z below #[Value.ref b] s) (chk := fun _ _ _ _ _ => false) X ?_ ?_ 13 0 xI_lp.1 _ _ _ _ _ _ (fun _ h => h) lp_run (lpAd b a1 a2 a3) _ _ [] s.heap [] (fun _ _ => rfl) (Nat.le_refl _) hl ⟨⟨rfl, by decide, rfl⟩, trivial⟩ trivial ⟨[], trivial, fun k q h => by simp at h, ⟨fun i j p q h => by simp at h, fun k q h => by simp at h⟩, va_S.rf⟩
  · intro ins o v hp nx cs ss ad' lsC H locs pc hrk hio hdg hchk
    exact Bool.noConfusion (show false = true from hchk)
  · intro pc cur ls st hp nx cs ss hcur h ad' lsC lv stC H locs had hnx hl' hla hs hR
    simp only [lpB, Bool.and_eq_true, beq_iff_eq, decide_eq_true_eq] at h
    obtain ⟨⟨⟨⟨⟨⟨h1, h2⟩, h3⟩, h4⟩, h5⟩, h6⟩, h7⟩ := h
    split at h7
    rotate_left
    · cases h7
    rename_i rest htk
    obtain ⟨ws1, hw1, hP1, hD1, hS1⟩ := hR
    obtain ⟨wc, wr, hperm, hwc, hwr⟩ := xTakeAll_ok hw1 htk
    have hP2 : va_P D vwCl wc H := xP_mem.mpr fun q hq => xP_mem.mp (xP_perm hP1 hperm) q (List.mem_append_left _ hq)
    have hD2 : va_D (fun q => s.heap.size ≤ q) wc := by
      have := xD_mem.mp (xD_perm hD1 hperm)
      rw [List.map_append] at this
      exact xD_mem.mpr ⟨(List.nodup_append.mp this.1).1, fun q hq => this.2 q (List.mem_append_left _ hq)⟩
    have hst : stC = [] := by
      cases st with
      | cons a r => simp at h3
      | nil =>
        cases stC with
        | nil => rfl
        | cons v r => exact hs.elim
    have hwc' : xWok (yη (fun _ => 0)) ad' 129 cy lpW wc := xWok_moved (by omega) (fun _ _ => rfl) hwc
    obtain ⟨σ, hσ, hc⟩ := lp_in hwc'
    subst h1; subst h5; subst h6; subst hst; subst h2
    have key : zeGdc p l e room_1 s m #[Value.ref b] below meth c (lw_Z below #[Value.ref b] s) D cy (fun q => s.heap.size ≤ q) ad' 8 zdL 124 23011 23 lpLz [] σ := zeGd_pjc [0, 1, 2, 3, 4] (by
      rw [lpPj]
      exact K D cy ad' σ hK (hSS ad' (had 1 (by decide)) (had 2 (by decide)) (had 3 (by decide))) (had 0 (by decide)) (lp_LI hc))
    exact key lsC lv [] H locs hl' (lp_ls hla) trivial ⟨wc, hσ, hP2, hD2, hS1⟩

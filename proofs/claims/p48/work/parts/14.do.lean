/-! each instruction; the whole walk; a method's contract out of it -/
section XDO
variable {p : Program} {l : Launch} {e : Env} {R : Room} {s : State} {m : MethodId} {args : Array Value} {below : List Frame} {meth : Method} {c : Code} {Q : State → Prop}
variable {cc : ByteArray} {D : va_G} {cy : Nat → ClassId} {η : Nat → Int32} {A : Nat → Prop} {own : String} {Ts : List Cond} {ad0 : Nat → Nat} {nx0 nL : Nat}
variable {M : xMi} {cons : List xCd} {ts : List xT} {sc : Option (Nat × List xV)} {fin : Bool} {rm : Nat × Nat × Nat × Nat} {chk : Option xV → xH → Nat → Nat → Nat → Bool} {rec : xRec}
theorem xLd_len {ins : Instr} {z : Nat × Nat} (h : xLd ins = some z) : True := trivial
set_option maxHeartbeats 8000000 in
theorem xDo_ok (X : xCx p R s m args meth c cc D cy η A own Ts ad0 nx0 nL M cons ts sc fin rm) (I : xIH p l e R s m args below meth c Q D cy η A ad0 nx0 nL M rec) (hret : xRetOk p l e R s m args below meth c Q cc D cy η A ad0 nx0 chk) {ins : Instr} {pc len : Nat} {nxt : List xEn} (hn : ∀ q ∈ nxt, q ∈ M.1) (hdg : decode cc pc = .ok (ins, len)) (hlen : xLen ins = 0 ∨ xLen ins = len) {ls : List (Nat × xV)} {st : List xV} {hp : xH} {nx cs ss : Nat} (h : xDo M cons ts sc fin rm nL chk rec pc ins len nxt ls st hp nx cs ss = true) : xGood p l e R s m args below meth c Q D cy η A ad0 nx0 nL pc ls st hp nx cs ss := by
  have X0 := X
  obtain ⟨⟨hx, hb, hml, hts, hbig, hown, hK, hA, hSS⟩, hM, hC, ht, hsc, hfin, hR1, hR2, hR3, hR4⟩ := X
  have word : ∀ {w : Cond}, w ∈ xBig → w.before args s = true := fun h => hts _ (hbig _ h)
  unfold xDo at h
  split at h
  · -- goto
    obtain rfl := xl_of hlen (by simp [xLen])
    intro ad lsC lv stC H locs had hnx hl hla hs hR
    split at h
    · rename_i t htg
      exact lv_goto hx hb hdg (xTgt_ok htg) (I _ _ _ _ _ _ _ _ xSeek_in h ad lsC lv stC H locs had hnx hl hla hs hR)
    · cases h
  · -- if_icmp
    obtain rfl := xl_of hlen (by simp [xLen])
    intro ad lsC lv stC H locs had hnx hl hla hs hR
    split at h
    · rename_i b a st' t htg
      simp only [Bool.and_eq_true] at h
      obtain ⟨⟨h1, h2⟩, h3⟩ := h
      obtain ⟨w, v, tC, rfl, gb, ga, gt⟩ := xSt2 hs
      obtain ⟨x, rfl⟩ := xIsI_ok h1 ga
      obtain ⟨y, rfl⟩ := xIsI_ok h2 gb
      refine xIcmp_W hx hb hdg (xTgt_ok htg) (fun hy => ?_) (fun hy => ?_)
      · split at h3
        · exact I _ _ _ _ _ _ _ _ xSeek_in h3 ad lsC lv _ H locs had hnx hl hla gt hR
        · rename_i hc
          exact absurd ((xCmpW_ok ht hc ga gb).mp hy) (by decide)
        · rw [Bool.and_eq_true] at h3
          exact I _ _ _ _ _ _ _ _ xSeek_in h3.1 ad lsC lv _ H locs had hnx hl hla gt hR
      · split at h3
        · rename_i hc
          exact absurd ((xCmpW_ok ht hc ga gb).mpr rfl) hy
        · exact I _ _ _ _ _ _ _ _ hn h3 ad lsC lv _ H locs had hnx hl hla gt hR
        · rw [Bool.and_eq_true] at h3
          exact I _ _ _ _ _ _ _ _ hn h3.2 ad lsC lv _ H locs had hnx hl hla gt hR
    · cases h
  · -- ifCond
    obtain rfl := xl_of hlen (by simp [xLen])
    intro ad lsC lv stC H locs had hnx hl hla hs hR
    split at h
    · rename_i a st' t htg
      simp only [Bool.and_eq_true] at h
      obtain ⟨h1, h3⟩ := h
      obtain ⟨v, tC, rfl, ga, gt⟩ := xSt1 hs
      obtain ⟨x, rfl⟩ := xIsI_ok h1 ga
      have g0 : xOk η ad nx (.inl (Int.ofNat 0, Int.ofNat 0)) (.int 0) := ⟨0, rfl, Int.le_refl _, Int.le_refl _⟩
      refine xIf_W hx hb hdg (xTgt_ok htg) (fun hy => ?_) (fun hy => ?_)
      · split at h3
        · exact I _ _ _ _ _ _ _ _ xSeek_in h3 ad lsC lv _ H locs had hnx hl hla gt hR
        · rename_i hc
          exact absurd ((xCmpW_ok ht hc ga g0).mp hy) (by decide)
        · rw [Bool.and_eq_true] at h3
          exact I _ _ _ _ _ _ _ _ xSeek_in h3.1 ad lsC lv _ H locs had hnx hl hla gt hR
      · split at h3
        · rename_i hc
          exact absurd ((xCmpW_ok ht hc ga g0).mpr rfl) hy
        · exact I _ _ _ _ _ _ _ _ hn h3 ad lsC lv _ H locs had hnx hl hla gt hR
        · rw [Bool.and_eq_true] at h3
          exact I _ _ _ _ _ _ _ _ hn h3.2 ad lsC lv _ H locs had hnx hl hla gt hR
    · cases h
  · -- ifnull
    obtain rfl := xl_of hlen (by simp [xLen])
    intro ad lsC lv stC H locs had hnx hl hla hs hR
    split at h
    · rename_i st' t htg
      obtain ⟨v, tC, rfl, ga, gt⟩ := xSt1 hs
      cases ga
      exact lv_ifnullN hx hb hdg (xTgt_ok htg) (I _ _ _ _ _ _ _ _ xSeek_in h ad lsC lv _ H locs had hnx hl hla gt hR)
    · obtain ⟨v, tC, rfl, ga, gt⟩ := xSt1 hs
      obtain ⟨-, rfl⟩ := ga
      exact lv_ifnull hx hb hdg (I _ _ _ _ _ _ _ _ hn h ad lsC lv _ H locs had hnx hl hla gt hR)
    · cases h
  · -- ifnonnull
    obtain rfl := xl_of hlen (by simp [xLen])
    intro ad lsC lv stC H locs had hnx hl hla hs hR
    split at h
    · rename_i st' t htg
      obtain ⟨v, tC, rfl, ga, gt⟩ := xSt1 hs
      obtain ⟨-, rfl⟩ := ga
      exact lv_ifnonnull hx hb hdg (xTgt_ok htg) (I _ _ _ _ _ _ _ _ xSeek_in h ad lsC lv _ H locs had hnx hl hla gt hR)
    · obtain ⟨v, tC, rfl, ga, gt⟩ := xSt1 hs
      cases ga
      exact lv_ifnonnullN hx hb hdg (I _ _ _ _ _ _ _ _ hn h ad lsC lv _ H locs had hnx hl hla gt hR)
    · cases h
  · -- tableswitch
    intro ad lsC lv stC H locs had hnx hl hla hs hR
    split at h
    · rename_i i st'
      obtain ⟨v, tC, rfl, ga, gt⟩ := xSt1 hs
      obtain ⟨x, rfl, gx⟩ := ga
      rename_i dflt lo hi offs _
      obtain ⟨gx1, gx2⟩ := gx
      by_cases hz : (decide (i.2 < lo) || decide (hi < i.1)) = true
      · rw [hz, cond_true] at h
        simp only [Bool.or_eq_true, decide_eq_true_eq] at hz
        split at h
        · rename_i t htg
          exact lv_tableOut hx hb hdg (by omega) (xTgt_ok htg) (I _ _ _ _ _ _ _ _ xSeek_in h ad lsC lv _ H locs had hnx hl hla gt hR)
        · cases h
      · rw [show (decide (i.2 < lo) || decide (hi < i.1)) = false by simpa using hz, cond_false] at h
        simp only [Bool.or_eq_true, decide_eq_true_eq, not_or] at hz
        rw [Bool.and_eq_true] at h
        obtain ⟨hk, h⟩ := h
        have e1 := xZI hk ⟨gx1, gx2⟩
        have hk2 : i.1 = i.2 := by simpa [xK] using hk
        split at h
        · rename_i off hoff
          split at h
          · rename_i t htg
            exact lv_tableIn hx hb hdg (by omega) (by omega) (by rw [e1]; exact hoff) (xTgt_ok htg) (I _ _ _ _ _ _ _ _ xSeek_in h ad lsC lv _ H locs had hnx hl hla gt hR)
          · cases h
        · cases h
    · cases h
  · -- iinc
    obtain rfl := xl_of hlen (by simp [xLen])
    intro ad lsC lv stC H locs had hnx hl hla hs hR
    split at h
    · rename_i a ha
      simp only [Bool.and_eq_true, decide_eq_true_eq] at h
      obtain ⟨⟨h1, h2⟩, h3⟩ := h
      obtain ⟨k, v, e1, e2⟩ := xLg_ok hla ha
      obtain ⟨x, rfl, gx⟩ := e2
      have hr := xInR_ok h1
      rename_i n _ _
      refine lv_iinc hx hb hdg hl e1 rfl h2 rfl (fun ls' hl' => I _ _ _ _ _ _ _ _ hn h3 ad ls' _ _ H locs had hnx hl' (xS1_ok hla ⟨_, rfl, xAdd_ok gx ?_⟩) hs hR)
      rw [Int32.toInt_ofInt, xbm hr.1 hr.2]
      exact ⟨Int.le_refl _, Int.le_refl _⟩
    · cases h
  · -- getfield
    obtain rfl := xl_of hlen (by simp [xLen])
    intro ad lsC lv stC H locs had hnx hl hla hs hR
    split at h
    · rename_i k st' f hf
      split at h
      · rename_i o ho
        rw [Bool.and_eq_true, beq_iff_eq] at h
        obtain ⟨h1, h2⟩ := h
        split at h2
        · rename_i a ha
          obtain ⟨v, tC, rfl, ga, gt⟩ := xSt1 hs
          obtain ⟨-, rfl⟩ := ga
          have hq := hM.2.1 _ (xAs_ok hf)
          exact xGetf_W (avs := o.2) hx hb hts hbig hown hK hR hq (by rw [ho, ← h1]) ha hdg (fun v hv => I _ _ _ _ _ _ _ _ hn h2 ad lsC lv _ H locs had hnx hl hla ⟨hv, gt⟩ hR)
        · cases h2
      · cases h
    · cases h
  · -- putfield
    obtain rfl := xl_of hlen (by simp [xLen])
    intro ad lsC lv stC H locs had hnx hl hla hs hR
    split at h
    · rename_i a k st' f hf
      split at h
      · rename_i o hp' ho
        simp only [Bool.and_eq_true, Bool.or_eq_true, beq_iff_eq, decide_eq_true_eq, Bool.not_eq_true'] at h
        obtain ⟨⟨⟨⟨h1, h2⟩, h3⟩, h4⟩, h5⟩ := h
        obtain ⟨v, w, tC, rfl, ga, gk, gt⟩ := xSt2 hs
        obtain ⟨-, rfl⟩ := gk
        have hq := hM.2.1 _ (xAs_ok hf)
        obtain ⟨o1, o2⟩ := o
        dsimp only at h1 h4 h5
        subst h1
        exact xPutf_W (avs := o2) hx hb hts hbig hown hK hR hq (fun z => hfin (h2.elim (fun z' => by rw [z] at z'; cases z') id)) ho ga h3 h4 hdg (fun H1 locs1 hR' => I _ _ _ _ _ _ _ _ hn h5 ad lsC lv _ H1 locs1 had hnx hl hla gt hR')
      · cases h
    · cases h
  · -- arraylength
    obtain rfl := xl_of hlen (by simp [xLen])
    intro ad lsC lv stC H locs had hnx hl hla hs hR
    split at h
    · rename_i k st'
      obtain ⟨v, tC, rfl, ga, gt⟩ := xSt1 hs
      obtain ⟨-, rfl⟩ := ga
      split at h
      · rename_i t n d ov hg
        simp only [Bool.and_eq_true, decide_eq_true_eq] at h
        exact xAlen_W hx hb hK hR hg h.1 hdg (fun v hv => I _ _ _ _ _ _ _ _ hn h.2 ad lsC lv _ H locs had hnx hl hla ⟨hv, gt⟩ hR)
      · cases h
      · cases hscz : sc with
        | none => rw [hscz] at h; cases h
        | some z =>
          rw [hscz] at h
          simp only [Bool.and_eq_true, beq_iff_eq, decide_eq_true_eq] at h
          obtain ⟨⟨h1, h2⟩, h3⟩ := h
          obtain ⟨z1, L, xs, z2, z3, z4, z5, z6⟩ := hsc z hscz
          have hk : ad k = ad0 z.1 := by rw [← h1]; exact had _ z1
          obtain ⟨ws, hw, hP, hD, hS⟩ := hR
          rw [hk]
          refine va_slen (A := A) hx hb z2 z3 z4 hS hdg (I _ _ _ _ _ _ _ _ hn h3 ad lsC lv _ H locs had hnx hl hla ⟨⟨_, rfl, ?_⟩, gt⟩ ⟨ws, hw, hP, hD, hS⟩)
          rw [← z5, Int32.toInt_ofNat', xbm (by omega) (by omega)]
          exact ⟨Int.le_refl _, Int.le_refl _⟩
    · cases h
  · -- aastore
    obtain rfl := xl_of hlen (by simp [xLen])
    intro ad lsC lv stC H locs had hnx hl hla hs hR
    split at h
    · rename_i k2 i k st'
      split at h
      · rename_i t n d ov hp' htk
        split at h
        · rename_i o ho
          simp only [Bool.and_eq_true, Bool.or_eq_true, beq_iff_eq, decide_eq_true_eq] at h
          obtain ⟨⟨⟨⟨h1, h2⟩, h3⟩, h4⟩, h5⟩ := h
          obtain ⟨v, w, tC, rfl, g2, gi, g⟩ := xSt2 hs
          obtain ⟨u, tC, rfl, gk, gt⟩ := xSt1 g
          obtain ⟨hk2, rfl⟩ := g2
          obtain ⟨-, rfl⟩ := gk
          obtain ⟨x, rfl, gx⟩ := gi
          exact xAastq_W (avs := o.2) (ci := o.1) hx hb hK hR htk ho h1 hk2 h3 h4 (xZI h2 gx) hdg (fun H1 locs1 hR' => I _ _ _ _ _ _ _ _ hn h5 ad lsC lv _ H1 locs1 had hnx hl hla gt hR')
        · cases h
      · cases h
    · cases h
  · -- new
    obtain rfl := xl_of hlen (by simp [xLen])
    intro ad lsC lv stC H locs had hnx hl hla hs hR
    split at h
    · rename_i ci hci
      simp only [Bool.and_eq_true, decide_eq_true_eq] at h
      obtain ⟨⟨h1, h2⟩, h3⟩ := h
      have hq := hM.2.2.2.1 _ (xAs_ok hci)
      exact xNew_W hx hb hts hbig hown hK hA hR hq.1 ⟨by omega, by show ss + (xDt ci).length ≤ R.slots; omega⟩ hq.2 hdg (fun ad' H1 had' hR' => I _ _ _ _ _ _ _ _ hn h3 ad' lsC lv _ H1 locs (fun k hk => (had' k (by omega)).trans (had k hk)) (by omega) hl (xLs_moved (Nat.le_succ nx) had' hla) ⟨⟨Nat.lt_succ_self nx, rfl⟩, xAll_moved (Nat.le_succ nx) had' hs⟩ hR')
    · cases h
  · -- newarray
    obtain rfl := xl_of hlen (by simp [xLen])
    intro ad lsC lv stC H locs had hnx hl hla hs hR
    split at h
    · rename_i n st' td htd
      simp only [Bool.and_eq_true, decide_eq_true_eq] at h
      obtain ⟨⟨⟨⟨⟨h1, h2⟩, h3⟩, h4⟩, h5⟩, h6⟩ := h
      obtain ⟨v, tC, rfl, ga, gt⟩ := xSt1 hs
      obtain ⟨x, rfl, gx⟩ := ga
      exact xNewa_W hx hb hts hbig hK hA hR htd h2 h3 (xZI h1 gx) ⟨by omega, by omega⟩ hdg (fun ad' H1 had' hR' => I _ _ _ _ _ _ _ _ hn h6 ad' lsC lv _ H1 locs (fun k hk => (had' k (by omega)).trans (had k hk)) (by omega) hl (xLs_moved (Nat.le_succ nx) had' hla) ⟨⟨Nat.lt_succ_self nx, rfl⟩, xAll_moved (Nat.le_succ nx) had' gt⟩ hR')
    · cases h
  · -- anewarray
    obtain rfl := xl_of hlen (by simp [xLen])
    intro ad lsC lv stC H locs had hnx hl hla hs hR
    split at h
    · rename_i n st' t hta
      simp only [Bool.and_eq_true, decide_eq_true_eq] at h
      obtain ⟨⟨⟨⟨⟨h1, h2⟩, h3⟩, h4⟩, h5⟩, h6⟩ := h
      obtain ⟨v, tC, rfl, ga, gt⟩ := xSt1 hs
      obtain ⟨x, rfl, gx⟩ := ga
      exact xNewq_W hx hb hts hbig hown hK hA hR (hM.2.2.2.2.1 _ (xAs_ok hta)) h2 h3 (xZI h1 gx) ⟨by omega, by omega⟩ hdg (fun ad' H1 had' hR' => I _ _ _ _ _ _ _ _ hn h6 ad' lsC lv _ H1 locs (fun k hk => (had' k (by omega)).trans (had k hk)) (by omega) hl (xLs_moved (Nat.le_succ nx) had' hla) ⟨⟨Nat.lt_succ_self nx, rfl⟩, xAll_moved (Nat.le_succ nx) had' gt⟩ hR')
    · cases h
  · -- ldc
    obtain rfl := xl_of hlen (by simp [xLen])
    intro ad lsC lv stC H locs had hnx hl hla hs hR
    split at h
    · rename_i a ha
      rcases hM.2.2.1 _ (xAs_ok ha) with ⟨n, e1, e2, e3, e4⟩ | ⟨n, e1, -, -⟩ | ⟨_, e1, -⟩
      · cases e1
        exact lv_ldc hx hb hown (word e4) hdg (I _ _ _ _ _ _ _ _ hn h ad lsC lv _ H locs had hnx hl hla ⟨⟨_, rfl, by rw [Int32.toInt_ofInt, xbm e2 e3]; exact ⟨Int.le_refl _, Int.le_refl _⟩⟩, hs⟩ hR)
      · cases e1
      · cases e1
    · rename_i k ha
      rcases hM.2.2.1 _ (xAs_ok ha) with ⟨n, e1, -, -, -⟩ | ⟨n, e1, -, -⟩ | ⟨k', e1, e2⟩
      · cases e1
      · cases e1
      · cases e1
        rw [Bool.and_eq_true, decide_eq_true_eq] at h
        obtain ⟨⟨v1, f1, a1, b1⟩, ⟨v2, f2, a2, b2⟩, v3, f3, a3, b3⟩ := hSS ad had
        dsimp only at e2
        rcases e2 with ⟨e3, e4, e5⟩ | ⟨e3, e4, e5⟩ | ⟨e3, e4, e5⟩
        · subst e3; subst e4; subst e5
          exact va_ldcS hx hb hown a1 hdg (I _ _ _ _ _ _ _ _ hn h.2 ad lsC lv _ H locs had hnx hl hla ⟨⟨h.1, rfl⟩, hs⟩ hR)
        · subst e3; subst e4; subst e5
          exact va_ldcS hx hb hown a2 hdg (I _ _ _ _ _ _ _ _ hn h.2 ad lsC lv _ H locs had hnx hl hla ⟨⟨h.1, rfl⟩, hs⟩ hR)
        · subst e3; subst e4; subst e5
          exact va_ldcS hx hb hown a3 hdg (I _ _ _ _ _ _ _ _ hn h.2 ad lsC lv _ H locs had hnx hl hla ⟨⟨h.1, rfl⟩, hs⟩ hR)
    · cases h
  · -- ldc_w
    obtain rfl := xl_of hlen (by simp [xLen])
    intro ad lsC lv stC H locs had hnx hl hla hs hR
    split at h
    · rename_i a ha
      rcases hM.2.2.1 _ (xAs_ok ha) with ⟨n, e1, e2, e3, e4⟩ | ⟨n, e1, -, -⟩ | ⟨_, e1, -⟩
      · cases e1
        exact lv_ldcw hx hb hown (word e4) hdg (I _ _ _ _ _ _ _ _ hn h ad lsC lv _ H locs had hnx hl hla ⟨⟨_, rfl, by rw [Int32.toInt_ofInt, xbm e2 e3]; exact ⟨Int.le_refl _, Int.le_refl _⟩⟩, hs⟩ hR)
      · cases e1
      · cases e1
    · rename_i k ha
      rcases hM.2.2.1 _ (xAs_ok ha) with ⟨n, e1, -, -, -⟩ | ⟨n, e1, -, -⟩ | ⟨k', e1, e2⟩
      · cases e1
      · cases e1
      · cases e1
        rw [Bool.and_eq_true, decide_eq_true_eq] at h
        obtain ⟨⟨v1, f1, a1, b1⟩, ⟨v2, f2, a2, b2⟩, v3, f3, a3, b3⟩ := hSS ad had
        dsimp only at e2
        rcases e2 with ⟨e3, e4, e5⟩ | ⟨e3, e4, e5⟩ | ⟨e3, e4, e5⟩
        · subst e3; subst e4; subst e5
          exact xLdcSw hx hb hown a1 hdg (I _ _ _ _ _ _ _ _ hn h.2 ad lsC lv _ H locs had hnx hl hla ⟨⟨h.1, rfl⟩, hs⟩ hR)
        · subst e3; subst e4; subst e5
          exact xLdcSw hx hb hown a2 hdg (I _ _ _ _ _ _ _ _ hn h.2 ad lsC lv _ H locs had hnx hl hla ⟨⟨h.1, rfl⟩, hs⟩ hR)
        · subst e3; subst e4; subst e5
          exact xLdcSw hx hb hown a3 hdg (I _ _ _ _ _ _ _ _ hn h.2 ad lsC lv _ H locs had hnx hl hla ⟨⟨h.1, rfl⟩, hs⟩ hR)
    · cases h
  · -- ldc2_w
    obtain rfl := xl_of hlen (by simp [xLen])
    intro ad lsC lv stC H locs had hnx hl hla hs hR
    split at h
    · rename_i a ha
      rcases hM.2.2.1 _ (xAs_ok ha) with ⟨n, e1, -, -, -⟩ | ⟨n, e1, e2, e4⟩ | ⟨_, e1, -⟩
      · cases e1
      · cases e1
        exact lv_ldc2 hx hb hown (word e4) hdg (I _ _ _ _ _ _ _ _ hn h ad lsC lv _ H locs had hnx hl hla ⟨⟨_, rfl, xInL_of (by rw [e2]; exact ⟨Int.le_refl _, Int.le_refl _⟩)⟩, hs⟩ hR)
      · cases e1
    · cases h
  · obtain rfl := xl_of hlen (by simp [xLen])
    split at h
    · rename_i k hk
      exact xStC_ok X0 I (xAs_ok hk) hn hdg h
    · exact xInv_ok X0 I (Or.inl rfl) hn hdg h
  · obtain rfl := xl_of hlen (by simp [xLen])
    split at h
    · rename_i k hk
      exact xSp_ok X0 I (xAs_ok hk) hn hdg h
    · exact xInv_ok X0 I (Or.inr (Or.inl rfl)) hn hdg h
  · obtain rfl := xl_of hlen (by simp [xLen])
    split at h
    · rename_i k hk
      intro ad lsC lv stC H locs had hnx hl hla hs hR
      rw [Bool.and_eq_true, beq_iff_eq] at h
      obtain ⟨rfl, h⟩ := h
      split at h
      · simp only [Bool.and_eq_true, decide_eq_true_eq] at h
        obtain ⟨⟨h1, h2⟩, h3⟩ := h
        obtain ⟨v, tC, rfl, ga, gt⟩ := xSt1 hs
        obtain ⟨-, rfl⟩ := ga
        obtain ⟨w1, w2, w3⟩ := (hM.2.2.2.2.2 _ (xAs_ok hk)).1 rfl
        have h2' := xSumR (B := R.locals) (k := 12) (by omega) gt
        refine W.objInit hx hb hown (word w1) (word w2) (word w3) rfl (by rw [hml]; exact hl.1) rfl hdg (by omega) ?_ (I _ _ _ _ _ _ _ _ hn h3 ad lsC lv _ H locs had hnx hl hla gt hR)
        show 2 * 0 + (tC.map fun v => v.category).sum + 12 ≤ R.locals
        omega
      · cases h
    · exact xInv_ok X0 I (Or.inr (Or.inr rfl)) hn hdg h
  · -- the rest
    by_cases hrk : xRk ins < 9
    · rw [decide_eq_true hrk, cond_true] at h
      intro ad lsC lv stC H locs had hnx hl hla hs hR
      have hl1 : len = 1 := by
        unfold xRk at hrk
        split at hrk <;> first | exact xl_of hlen (by simp [xLen]) | exact absurd hrk (by decide)
      subst hl1
      split at h
      · rw [Bool.and_eq_true, beq_iff_eq] at h
        match stC, hs with
        | [], _ => exact hret ins none none hp nx cs ss ad lsC H locs pc hrk (Or.inl ⟨h.1, rfl⟩) hdg h.2 had hnx trivial hR
      · rename_i a
        rw [Bool.and_eq_true, beq_iff_eq] at h
        match stC, hs with
        | [v], hs => exact hret ins (some a) (some v) hp nx cs ss ad lsC H locs pc hrk (Or.inr ⟨a, rfl, h.1⟩) hdg h.2 had hnx hs.1 hR
      · cases h
    · rw [decide_eq_false hrk, cond_false] at h
      intro ad lsC lv stC H locs had hnx hl hla hs hR
      split at h
      · rename_i z hz
        split at h
        · rename_i a ha
          rw [Bool.and_eq_true, beq_iff_eq] at h
          obtain ⟨k, v, e1, e2⟩ := xLg_ok hla ha
          have hk := xKd_ok e2
          rw [h.1] at hk
          exact xLd_W hx hb hz hdg hlen (lv_at hl k e1) hk (I _ _ _ _ _ _ _ _ hn h.2 ad lsC lv _ H locs had hnx hl hla ⟨e2, hs⟩ hR)
        · cases h
      · split at h
        · rename_i st' hst
          exact xPure_ok ht hx hb hdg hlen hst hs (fun sC' hs' => I _ _ _ _ _ _ _ _ hn h ad lsC lv _ H locs had hnx hl hla hs' hR)
        · split at h
          · rename_i z hz
            split at h
            · rename_i a st'
              simp only [Bool.and_eq_true, beq_iff_eq, decide_eq_true_eq] at h
              obtain ⟨⟨h1, h2⟩, h3⟩ := h
              obtain ⟨v, tC, rfl, ga, gt⟩ := xSt1 hs
              exact xSd_W hx hb (by rw [hz, h1]) hdg hlen ga hl hla h2 (fun ls' lv' hl' hla' => I _ _ _ _ _ _ _ _ hn h3 ad ls' lv' _ H locs had hnx hl' hla' gt hR)
            · cases h
          · split at h
            · rename_i i k st' _
              obtain ⟨v, w, tC, rfl, gi, gk, gt⟩ := xSt2 hs
              obtain ⟨x, rfl, gx⟩ := gi
              obtain ⟨-, rfl⟩ := gk
              split at h
              · rename_i t n d ov hg
                rw [Bool.and_eq_true] at h
                obtain ⟨h1, h2⟩ := h
                split at h2
                · rename_i r hr
                  have hl1 : len = 1 := by
                    unfold xAld at h1
                    split at h1 <;> first | exact xl_of hlen (by simp [xLen]) | cases h1
                  subst hl1
                  exact xAld_W hx hb hK hR hg h1 hr gx hdg (fun v hv => I _ _ _ _ _ _ _ _ hn h2 ad lsC lv _ H locs had hnx hl hla ⟨hv, gt⟩ hR)
                · cases h2
              · cases h
              · unfold xSl at h
                rw [Bool.and_eq_true, decide_eq_true_eq] at h
                obtain ⟨hins, h⟩ := h
                cases hscz : sc with
                | none => rw [hscz] at h; cases h
                | some z =>
                  rw [hscz] at h
                  simp only [Bool.and_eq_true, beq_iff_eq, decide_eq_true_eq] at h
                  obtain ⟨⟨⟨h1, h2⟩, h3⟩, h4⟩ := h
                  split at h4
                  · rename_i r hr
                    subst hins
                    obtain rfl := xl_of hlen (by simp [xLen])
                    obtain ⟨z1, L, xs, z2, z3, z4, z5, z6⟩ := hsc z hscz
                    have hk : ad k = ad0 z.1 := by rw [← h1]; exact had _ z1
                    obtain ⟨ws, hw, hP, hD, hS⟩ := hR
                    have ex := xZI h2 gx
                    have hlt : i.1.toNat < L := by rw [← z5]; exact (List.getElem?_eq_some_iff.mp hr).1
                    obtain ⟨v1, v2, v3⟩ := xin_ok (x := x) (n := L) (by omega) (by omega)
                    rw [hk]
                    refine va_sld (A := A) hx hb z2 z3 z4 hS v1 hdg (I _ _ _ _ _ _ _ _ hn h4 ad lsC lv _ H locs had hnx hl hla ⟨?_, gt⟩ ⟨ws, hw, hP, hD, hS⟩)
                    rw [v2, ex]
                    exact z6 _ _ hr ad nx
                  · cases h4
            · rename_i a i k st' _
              obtain ⟨v, w, tC, rfl, ga, gi, g⟩ := xSt2 hs
              obtain ⟨u, tC, rfl, gk, gt⟩ := xSt1 g
              obtain ⟨x, rfl, gx⟩ := gi
              obtain ⟨-, rfl⟩ := gk
              split at h
              · rename_i t n d ov hp' htk
                simp only [Bool.and_eq_true, decide_eq_true_eq] at h
                obtain ⟨⟨⟨⟨⟨h1, h2⟩, h3⟩, h4⟩, h5⟩, h6⟩ := h
                have hl1 : len = 1 := by
                  unfold xAst at h1
                  split at h1 <;> first | exact xl_of hlen (by simp [xLen]) | cases h1
                subst hl1
                exact xAst_W hx hb hK hR htk h1 h3 h4 (xZI h2 gx) ga h5 hdg (fun H1 locs1 hR' => I _ _ _ _ _ _ _ _ hn h6 ad lsC lv _ H1 locs1 had hnx hl hla gt hR')
              · cases h
            · cases h
theorem xFast_ok (X : xCx p R s m args meth c cc D cy η A own Ts ad0 nx0 nL M cons ts sc fin rm) (I : xIH p l e R s m args below meth c Q D cy η A ad0 nx0 nL M rec) {ins : Instr} {fa : xFa} (hfa : xFaB M.2.1 ins fa = true) {pc len : Nat} {nxt : List xEn} (hn : ∀ q ∈ nxt, q ∈ M.1) (hdg : decode cc pc = .ok (ins, len)) (hlen : xLen ins = 0 ∨ xLen ins = len) {ls : List (Nat × xV)} {st : List xV} {hp : xH} {nx cs ss : Nat} {slow : Bool} (hslow : slow = true → xGood p l e R s m args below meth c Q D cy η A ad0 nx0 nL pc ls st hp nx cs ss) (h : xFast rec slow nL fa pc len nxt ls st hp nx cs ss = true) : xGood p l e R s m args below meth c Q D cy η A ad0 nx0 nL pc ls st hp nx cs ss := by
  obtain ⟨⟨hx, hb, hml, hts, hbig, hown, hK, hA, hSS⟩, hM, hC, ht, hsc, hfin, hR1, hR2, hR3, hR4⟩ := X
  unfold xFast at h
  split at h
  · rename_i z
    have hz : xLd ins = some z := of_decide_eq_true hfa
    intro ad lsC lv stC H locs had hnx hl hla hs hR
    split at h
    · rename_i a ha
      rw [Bool.and_eq_true, beq_iff_eq] at h
      obtain ⟨k, v, e1, e2⟩ := xLg_ok hla ha
      have hk := xKd_ok e2
      rw [h.1] at hk
      exact xLd_W hx hb hz hdg hlen (lv_at hl k e1) hk (I _ _ _ _ _ _ _ _ hn h.2 ad lsC lv _ H locs had hnx hl hla ⟨e2, hs⟩ hR)
    · cases h
  · rename_i v
    have hv : xPv ins = some v := of_decide_eq_true hfa
    intro ad lsC lv stC H locs had hnx hl hla hs hR
    exact xPure_ok ht hx hb hdg hlen (xPv_ok hv ts st) hs (fun sC' hs' => I _ _ _ _ _ _ _ _ hn h ad lsC lv _ H locs had hnx hl hla hs' hR)
  · rename_i z
    have hz : xSd ins = some z := of_decide_eq_true hfa
    intro ad lsC lv stC H locs had hnx hl hla hs hR
    split at h
    · rename_i a st'
      simp only [Bool.and_eq_true, beq_iff_eq, decide_eq_true_eq] at h
      obtain ⟨⟨h1, h2⟩, h3⟩ := h
      obtain ⟨v, tC, rfl, ga, gt⟩ := xSt1 hs
      exact xSd_W hx hb (by rw [hz, h1]) hdg hlen ga hl hla h2 (fun ls' lv' hl' hla' => I _ _ _ _ _ _ _ _ hn h3 ad ls' lv' _ H locs had hnx hl' hla' gt hR)
    · cases h
  · rename_i q
    obtain ⟨q1, q2, q3⟩ := q
    split at h
    · rename_i b a st' hq
      dsimp only at hq
      subst hq
      have hi : ins = .iadd := of_decide_eq_true hfa
      subst hi
      intro ad lsC lv stC H locs had hnx hl hla hs hR
      obtain rfl := xl_of hlen (by simp [xLen])
      obtain ⟨w, v, tC, rfl, gb, ga, gt⟩ := xSt2 hs
      obtain ⟨x, rfl, gx⟩ := ga
      obtain ⟨y, rfl, gy⟩ := gb
      exact lv_iadd hx hb hdg (I _ _ _ _ _ _ _ _ hn h ad lsC lv _ H locs had hnx hl hla ⟨⟨_, rfl, xAdd_ok gx gy⟩, gt⟩ hR)
    · rename_i k st' hq
      dsimp only at hq
      subst hq
      simp only [xFaB] at hfa
      split at hfa
      · rename_i i
        split at hfa
        · rename_i f hf
          rw [Bool.and_eq_true, beq_iff_eq, beq_iff_eq] at hfa
          obtain rfl := xl_of hlen (by simp [xLen])
          intro ad lsC lv stC H locs had hnx hl hla hs hR
          split at h
          · rename_i o ho
            rw [Bool.and_eq_true, beq_iff_eq] at h
            obtain ⟨h1, h2⟩ := h
            split at h2
            · rename_i a ha
              obtain ⟨v, tC, rfl, ga, gt⟩ := xSt1 hs
              obtain ⟨-, rfl⟩ := ga
              have hq := hM.2.1 _ (xAs_ok hf)
              dsimp only at h1 ha
              exact xGetf_W (q := (i, f)) (avs := o.2) hx hb hts hbig hown hK hR hq (by rw [ho]; show some (Sum.inl o) = some (Sum.inl (f.1, o.2)); rw [hfa.1, ← h1]) (by show o.2[f.2.1]? = some a; rw [hfa.2]; exact ha) hdg (fun v hv => I _ _ _ _ _ _ _ _ hn h2 ad lsC lv _ H locs had hnx hl hla ⟨hv, gt⟩ hR)
            · cases h2
          · cases h
        · cases hfa
      · cases hfa
    · rename_i i k st' hq
      dsimp only at hq
      subst hq
      have hal : xAld ins q2 = true := hfa
      split at h
      · rename_i t n d ov hg
        rw [Bool.and_eq_true, beq_iff_eq] at h
        obtain ⟨h1, h2⟩ := h
        dsimp only at h1
        subst h1
        split at h2
        · rename_i r hr
          intro ad lsC lv stC H locs had hnx hl hla hs hR
          obtain ⟨v, w, tC, rfl, gi, gk, gt⟩ := xSt2 hs
          obtain ⟨x, rfl, gx⟩ := gi
          obtain ⟨-, rfl⟩ := gk
          have hl1 : len = 1 := by
            unfold xAld at hal
            split at hal <;> first | exact xl_of hlen (by simp [xLen]) | cases hal
          subst hl1
          exact xAld_W hx hb hK hR hg hal hr gx hdg (fun v hv => I _ _ _ _ _ _ _ _ hn h2 ad lsC lv _ H locs had hnx hl hla ⟨hv, gt⟩ hR)
        · cases h2
      · exact hslow h
    · exact hslow h
  · exact hslow h
theorem xRun_ok (X : xCx p R s m args meth c cc D cy η A own Ts ad0 nx0 nL M cons ts sc fin rm) (hret : xRetOk p l e R s m args below meth c Q cc D cy η A ad0 nx0 chk) : ∀ n : Nat, xIH p l e R s m args below meth c Q D cy η A ad0 nx0 nL M (xRun M cons ts sc fin rm nL chk n)
  | 0 => fun _ _ _ _ _ _ _ _ _ h => by cases h
  | n + 1 => fun pc cur ls st hp nx cs ss hcur h => by
    have h : xStep M cons ts sc fin rm nL chk (xRun M cons ts sc fin rm nL chk n) pc cur ls st hp nx cs ss = true := h
    cases cur with
    | nil => cases h
    | cons q nxt =>
      have h : (q.1 == pc && xFast (xRun M cons ts sc fin rm nL chk n) (xDo M cons ts sc fin rm nL chk (xRun M cons ts sc fin rm nL chk n) pc q.2.1 q.2.2.1 nxt ls st hp nx cs ss) nL q.2.2.2 pc q.2.2.1 nxt ls st hp nx cs ss) = true := h
      rw [Bool.and_eq_true, beq_iff_eq] at h
      obtain ⟨rfl, h⟩ := h
      obtain ⟨h1, h2, h3⟩ := X.2.1.1 q (hcur q List.mem_cons_self)
      exact xFast_ok X (xRun_ok X hret n) h3 (fun z hz => hcur z (List.mem_cons_of_mem _ hz)) h1 h2 (fun hh => xDo_ok X (xRun_ok X hret n) hret (fun z hz => hcur z (List.mem_cons_of_mem _ hz)) h1 h2 hh) h
end XDO

/-! String.indexOf(int) of a text of one byte a sign -/
def RJ1 : String := "java/lang/StringLatin1"
abbrev cJ0_indexOf_0f7a4 : ByteArray := prog_25_method_79_code
def yJ0_indexOf_0f7a4 : MethodName := ⟨RJ0, "indexOf", "(I)I"⟩
abbrev cJ0_indexOf_7cf53 : ByteArray := prog_25_method_80_code
def yJ0_indexOf_7cf53 : MethodName := ⟨RJ0, "indexOf", "(II)I"⟩
abbrev cJ0_isLatin1_aae02 : ByteArray := prog_25_method_154_code
def yJ0_isLatin1_aae02 : MethodName := ⟨RJ0, "isLatin1", "()Z"⟩
abbrev cJ1_canEncode_9a6ad : ByteArray := prog_26_method_4_code
def yJ1_canEncode_9a6ad : MethodName := ⟨RJ1, "canEncode", "(I)Z"⟩
abbrev cJ1_indexOf_4cfef : ByteArray := prog_26_method_22_code
def yJ1_indexOf_4cfef : MethodName := ⟨RJ1, "indexOf", "([BIII)I"⟩
abbrev cJ1_indexOfChar_4cfef : ByteArray := prog_26_method_23_code
def yJ1_indexOfChar_4cfef : MethodName := ⟨RJ1, "indexOfChar", "([BIII)I"⟩
theorem xwV {Ts : List Cond} (hbig : ∀ w ∈ xBig, w ∈ Ts) {own C : String} {i : Nat} {y : MethodName} {ws : List Cond} (h1 : Cond.methodLink own i y ∈ xBig) (h2 : Cond.instanceMethod y ∈ xBig) (h3 : Cond.selects C y y ∈ xBig) (h4 : Cond.initialized C ∈ xBig) (h5 : ∀ w ∈ ws, w ∈ xBig) : GoodIn Ts (wsV own i C y ws) := xGoodIn hbig (fun w hw => by
  unfold wsV at hw
  rcases List.mem_append.mp hw with h | h
  · rcases List.mem_cons.mp h with rfl | h
    · exact h1
    rcases List.mem_cons.mp h with rfl | h
    · exact h2
    rcases List.mem_cons.mp h with rfl | h
    · exact h3
    rcases List.mem_cons.mp h with rfl | h
    · exact h4
    · cases h
  · exact h5 w h)
theorem xwS {Ts : List Cond} (hbig : ∀ w ∈ xBig, w ∈ Ts) {own : String} {i : Nat} {y : MethodName} {ws : List Cond} (h1 : Cond.methodLink own i y ∈ xBig) (h2 : Cond.static y ∈ xBig) (h3 : Cond.initialized y.cls ∈ xBig) (h5 : ∀ w ∈ ws, w ∈ xBig) : GoodIn Ts (va_wsS own i y ws) := xGoodIn hbig (fun w hw => by
  unfold va_wsS at hw
  rcases List.mem_append.mp hw with h | h
  · rcases List.mem_cons.mp h with rfl | h
    · exact h1
    rcases List.mem_cons.mp h with rfl | h
    · exact h2
    rcases List.mem_cons.mp h with rfl | h
    · exact h3
    · cases h
  · exact h5 w h)
theorem xWs_big {y : MethodName} {cc : ByteArray} {n : Nat} {r : Option FieldType} (h : Cond.code y cc n r ∈ xBig) : ∀ w ∈ xWs y cc n r, w ∈ xBig := fun w hw => (List.mem_cons.mp hw).elim (fun e => by rw [e]; exact h) id
/-- the first place from k on, of m places -/
def xIx (f : Nat → Int32) (b : Int32) : Nat → Nat → Int32
  | 0, _ => -1
  | m + 1, k => if f k = b then Int32.ofNat k else xIx f b m (k + 1)
theorem xIx_in (f : Nat → Int32) (b : Int32) : ∀ (m k : Nat), k + m < 1000 → xIx f b m k = -1 ∨ ∃ j : Nat, j < k + m ∧ xIx f b m k = Int32.ofNat j
  | 0, _, _ => Or.inl rfl
  | m + 1, k, h => by
    unfold xIx
    by_cases hf : f k = b
    · rw [if_pos hf]
      exact Or.inr ⟨k, by omega, rfl⟩
    · rw [if_neg hf]
      rcases xIx_in f b m (k + 1) (by omega) with e | ⟨j, h1, h2⟩
      · exact Or.inl e
      · exact Or.inr ⟨j, by omega, h2⟩
def xIxC (f : Nat → Int32) (n : Nat) (ch : Int32) : Int32 := if ch < 0 ∨ 255 < ch then -1 else xIx f ch.toInt8.toInt32 n 0
theorem xOfN {k : Nat} (h : k < 1000) : (Int32.ofNat k).toInt = k := by
  have : ∀ j : Fin 1000, (Int32.ofNat j.val).toInt = (j.val : Int) := by decide +kernel
  exact this ⟨k, h⟩
theorem xIxC_in (f : Nat → Int32) {n : Nat} (hn : n < 100) (ch : Int32) : -1 ≤ (xIxC f n ch).toInt ∧ (xIxC f n ch).toInt < n := by
  have e1 : (-1 : Int32).toInt = -1 := by decide
  unfold xIxC
  by_cases h : ch < 0 ∨ 255 < ch
  · rw [if_pos h, e1]; omega
  · rw [if_neg h]
    rcases xIx_in f ch.toInt8.toInt32 n 0 (by omega) with e | ⟨j, h1, h2⟩
    · rw [e, e1]; omega
    · rw [h2, xOfN (by omega)]; omega
theorem xMath_words : Cond.static Lib.Math.max.name ∈ xBig ∧ Cond.initialized "java/lang/Math" ∈ xBig ∧ Cond.code Lib.Math.max.name Lib.Math.max.code 2 (some .int) ∈ xBig ∧ Cond.static Lib.Math.min.name ∈ xBig ∧ Cond.code Lib.Math.min.name Lib.Math.min.code 2 (some .int) ∈ xBig :=
  ⟨xHas_ok (i := 168) (by decide +kernel), xHas_ok (i := 99) (by decide +kernel), xHas_ok (i := 169) (by decide +kernel), xHas_ok (i := 206) (by decide +kernel), xHas_ok (i := 207) (by decide +kernel)⟩
theorem xIdx_words : (Cond.methodLink RJ0 633 yJ0_indexOf_7cf53 ∈ xBig ∧ Cond.instanceMethod yJ0_indexOf_7cf53 ∈ xBig ∧ Cond.selects RJ0 yJ0_indexOf_7cf53 yJ0_indexOf_7cf53 ∈ xBig ∧ Cond.code yJ0_indexOf_7cf53 cJ0_indexOf_7cf53 3 (some .int) ∈ xBig) ∧ (Cond.methodLink RJ0 492 yJ0_isLatin1_aae02 ∈ xBig ∧ Cond.instanceMethod yJ0_isLatin1_aae02 ∈ xBig ∧ Cond.selects RJ0 yJ0_isLatin1_aae02 yJ0_isLatin1_aae02 ∈ xBig ∧ Cond.code yJ0_isLatin1_aae02 cJ0_isLatin1_aae02 1 (some .boolean) ∈ xBig) ∧ (Cond.methodLink RJ0 637 yJ1_indexOf_4cfef ∈ xBig ∧ Cond.static yJ1_indexOf_4cfef ∈ xBig ∧ Cond.initialized RJ1 ∈ xBig ∧ Cond.code yJ1_indexOf_4cfef cJ1_indexOf_4cfef 4 (some .int) ∈ xBig) ∧ (Cond.methodLink RJ1 88 yJ1_canEncode_9a6ad ∈ xBig ∧ Cond.static yJ1_canEncode_9a6ad ∈ xBig ∧ Cond.code yJ1_canEncode_9a6ad cJ1_canEncode_9a6ad 1 (some .boolean) ∈ xBig) ∧ (Cond.methodLink RJ1 95 yJ1_indexOfChar_4cfef ∈ xBig ∧ Cond.static yJ1_indexOfChar_4cfef ∈ xBig ∧ Cond.code yJ1_indexOfChar_4cfef cJ1_indexOfChar_4cfef 6 (some .int) ∈ xBig) ∧ Cond.methodLink RJ1 92 Lib.Math.max.name ∈ xBig ∧ Cond.methodLink RJ1 38 Lib.Math.min.name ∈ xBig ∧ Cond.methodLink RJ0 505 yJ0_length_8abf5 ∈ xBig ∧ Cond.code yJ0_indexOf_0f7a4 cJ0_indexOf_0f7a4 2 (some .int) ∈ xBig ∧ Cond.instanceMethod yJ0_indexOf_0f7a4 ∈ xBig ∧ Cond.selects RJ0 yJ0_indexOf_0f7a4 yJ0_indexOf_0f7a4 ∈ xBig :=
  ⟨⟨xHas_ok (i := 647) (by decide +kernel), xHas_ok (i := 648) (by decide +kernel), xHas_ok (i := 649) (by decide +kernel), xHas_ok (i := 650) (by decide +kernel)⟩, ⟨xHas_ok (i := 651) (by decide +kernel), xHas_ok (i := 652) (by decide +kernel), xHas_ok (i := 653) (by decide +kernel), xHas_ok (i := 654) (by decide +kernel)⟩, ⟨xHas_ok (i := 665) (by decide +kernel), xHas_ok (i := 666) (by decide +kernel), xHas_ok (i := 111) (by decide +kernel), xHas_ok (i := 667) (by decide +kernel)⟩, ⟨xHas_ok (i := 668) (by decide +kernel), xHas_ok (i := 669) (by decide +kernel), xHas_ok (i := 670) (by decide +kernel)⟩, ⟨xHas_ok (i := 673) (by decide +kernel), xHas_ok (i := 674) (by decide +kernel), xHas_ok (i := 675) (by decide +kernel)⟩, xHas_ok (i := 671) (by decide +kernel), xHas_ok (i := 672) (by decide +kernel), xHas_ok (i := 657) (by decide +kernel), xHas_ok (i := 646) (by decide +kernel), xHas_ok (i := 644) (by decide +kernel), xHas_ok (i := 645) (by decide +kernel)⟩
set_option maxHeartbeats 4000000 in
theorem xLatin (l : Launch) (sA vA n : Nat) (f : Nat → Int32) (A : Nat → Prop) : Met l yJ0_isLatin1_aae02 (xWs yJ0_isLatin1_aae02 cJ0_isLatin1_aae02 1 (some .boolean)) ({ frames := 0, cells := 0, slots := 0, locals := 0 }) (va_Pc [.ref sA] (fun U => xSg sA vA n f A U)) (QcRead 1) 0 0 (fun _ => False) := by
  refine Met.ofW (cc := cJ0_isLatin1_aae02) (maxL := 1) (ret := some .boolean) (by decide) rfl ?_
  intro p e s m args below meth c s₁ B hml hv
  obtain ⟨rfl, h1, h2, h3, h4, h5⟩ := hv
  have hx := B.exec
  have hb := B.bytes
  have hr := B.returns
  have hts := atoms_spec (ws := xWs yJ0_isLatin1_aae02 cJ0_isLatin1_aae02 1 (some .boolean)) B.pre
  have hown : s.vm.findClass RJ0 = some m.cls := findClass_of_methodNamed B.named
  have hlocks := B.notSynchronized
  have word : ∀ {w : Cond}, w ∈ xBig → w.before ([Value.ref sA]).toArray s = true := fun h => hts _ (List.mem_cons_of_mem _ h)
  obtain ⟨w1, w2, w3, w4, w5, w6, w7, w8, -⟩ := xStr_words
  have hS : va_S A s.heap s.heap [] := va_S.rf
  have hl := lv_entry ([.ref sA]) (n := 1) (Nat.le_of_ble_eq_true rfl)
  rw [lg_entry_eq]
  generalize (lg_sl ([.ref sA]) ++ List.replicate (1 - (lg_sl ([.ref sA])).length) Slot.unset).toArray = ls at hl ⊢
  have hl : lv_has ls 1 [(0, .ref sA)] := hl
  refine va_gets hx hb h5 hS hown (word w1) (fun _ h => h) (show decode cJ0_isLatin1_aae02 0 = .ok (.getstatic 38, 3) by decide +kernel) ?_
  refine lv_if_eq hx hb (show decode cJ0_isLatin1_aae02 3 = .ok (.ifCond .eq 14, 3) by decide +kernel) (tgt := 17) (by decide) (fun h => absurd h (by decide)) (fun _ => ?_)
  refine lv_aload_n hx hb (show decode cJ0_isLatin1_aae02 6 = .ok (.aload_n 0, 1) by decide +kernel) rfl (lv_at hl 0 rfl) ?_
  refine vk_getf hx hb h2 hS hown (word w2) (fun _ h => h) (show decode cJ0_isLatin1_aae02 7 = .ok (.getfield 15, 3) by decide +kernel) ?_
  refine lv_if_ne hx hb (show decode cJ0_isLatin1_aae02 10 = .ok (.ifCond .ne 7, 3) by decide +kernel) (tgt := 17) (by decide) (fun h => absurd rfl h) (fun _ => ?_)
  refine lv_iconst (v := 1) hx hb (show decode cJ0_isLatin1_aae02 13 = .ok (.iconst 1, 1) by decide +kernel) (by decide) ?_
  refine lv_goto hx hb (show decode cJ0_isLatin1_aae02 14 = .ok (.goto 4, 3) by decide +kernel) (tgt := 18) (by decide) ?_
  exact W.zret hx hb hr rfl (fun t ht _ => ⟨rfl, ht⟩) (fun _ h => by cases h) (show decode cJ0_isLatin1_aae02 18 = .ok (.ireturn, 1) by decide +kernel)
def xCan (ch : Int32) : Int32 := if ch < 0 ∨ 255 < ch then 0 else 1
set_option maxHeartbeats 4000000 in
theorem xCanEnc (l : Launch) (ch : Int32) : Met l yJ1_canEncode_9a6ad (xWs yJ1_canEncode_9a6ad cJ1_canEncode_9a6ad 1 (some .boolean)) ({ frames := 0, cells := 0, slots := 0, locals := 0 }) (va_Pc [.int ch] (fun _ => True)) (QcRead (xCan ch)) 0 0 (fun _ => False) := by
  refine Met.ofW (cc := cJ1_canEncode_9a6ad) (maxL := 1) (ret := some .boolean) (by decide) rfl ?_
  intro p e s m args below meth c s₁ B hml hv
  obtain ⟨rfl, -⟩ := hv
  have hx := B.exec
  have hb := B.bytes
  have hr := B.returns
  have hlocks := B.notSynchronized
  have hl := lv_entry ([.int ch]) (n := 1) (Nat.le_of_ble_eq_true rfl)
  rw [lg_entry_eq]
  generalize (lg_sl ([.int ch]) ++ List.replicate (1 - (lg_sl ([.int ch])).length) Slot.unset).toArray = ls at hl ⊢
  have hl : lv_has ls 1 [(0, .int ch)] := hl
  have no : (ch < 0 ∨ 255 < ch) → W p l e (headSpec (xWs yJ1_canEncode_9a6ad cJ1_canEncode_9a6ad 1 (some .boolean)) ({ frames := 0, cells := 0, slots := 0, locals := 0 })).room s m ([Value.int ch]).toArray below meth c s.heap [] 0 0 (MQ below (QcRead (xCan ch)) ([Value.int ch]).toArray s 0 0 (fun _ => False)) (F0 m 15 ls []) := by
    intro h
    have e0 : xCan ch = 0 := by unfold xCan; rw [if_pos h]
    refine lv_iconst (v := 0) hx hb (show decode cJ1_canEncode_9a6ad 15 = .ok (.iconst 0, 1) by decide +kernel) (by decide) ?_
    exact W.zret hx hb hr rfl (fun t ht _ => ⟨by rw [e0], ht⟩) (fun _ h => by cases h) (show decode cJ1_canEncode_9a6ad 16 = .ok (.ireturn, 1) by decide +kernel)
  refine lv_iload_n hx hb (show decode cJ1_canEncode_9a6ad 0 = .ok (.iload_n 0, 1) by decide +kernel) rfl (lv_at hl 0 rfl) ?_
  refine lv_if_lt hx hb (show decode cJ1_canEncode_9a6ad 1 = .ok (.ifCond .lt 14, 3) by decide +kernel) (tgt := 15) (by decide) (fun h => no (Or.inl h)) (fun h0 => ?_)
  refine lv_iload_n hx hb (show decode cJ1_canEncode_9a6ad 4 = .ok (.iload_n 0, 1) by decide +kernel) rfl (lv_at hl 0 rfl) ?_
  refine lv_sipush (v := 255) hx hb (show decode cJ1_canEncode_9a6ad 5 = .ok (.sipush 255, 3) by decide +kernel) (by decide) ?_
  refine lv_icmp_gt hx hb (show decode cJ1_canEncode_9a6ad 8 = .ok (.if_icmp .gt 7, 3) by decide +kernel) (tgt := 15) (by decide) (fun h => no (Or.inr h)) (fun h1 => ?_)
  have e0 : xCan ch = 1 := by unfold xCan; rw [if_neg (fun h => h.elim h0 h1)]
  refine lv_iconst (v := 1) hx hb (show decode cJ1_canEncode_9a6ad 11 = .ok (.iconst 1, 1) by decide +kernel) (by decide) ?_
  refine lv_goto hx hb (show decode cJ1_canEncode_9a6ad 12 = .ok (.goto 4, 3) by decide +kernel) (tgt := 16) (by decide) ?_
  exact W.zret hx hb hr rfl (fun t ht _ => ⟨by rw [e0], ht⟩) (fun _ h => by cases h) (show decode cJ1_canEncode_9a6ad 16 = .ok (.ireturn, 1) by decide +kernel)
theorem xBlindT {av : List Value} {vA n : Nat} {f : Nat → Int32} {A : Nat → Prop} : FrameBlind (va_Pc av (fun U => va_T .byte vA n (fun j => .int (f j)) A U U.heap)) := fun a U g mk q => ⟨q.1, va_T.moved (u := U) (U := U.calling g mk a) (Vm.Alike.refl U.vm) q.2⟩
set_option maxHeartbeats 4000000 in
theorem xIdxChar (l : Launch) (vA n : Nat) (hn : n < 100) (f : Nat → Int32) (ch : Int32) (A : Nat → Prop) : Met l yJ1_indexOfChar_4cfef (xWs yJ1_indexOfChar_4cfef cJ1_indexOfChar_4cfef 6 (some .int)) ({ frames := 0, cells := 0, slots := 0, locals := 0 }) (va_Pc [.ref vA, .int ch, .int 0, .int (Int32.ofNat n)] (fun U => va_T .byte vA n (fun j => .int (f j)) A U U.heap)) (QcRead (xIx f ch.toInt8.toInt32 n 0)) 0 0 (fun _ => False) := by
  refine Met.ofW (cc := cJ1_indexOfChar_4cfef) (maxL := 6) (ret := some .int) (by decide) rfl ?_
  intro p e s m args below meth c s₁ B hml hv
  obtain ⟨rfl, h4⟩ := hv
  have hx := B.exec
  have hb := B.bytes
  have hr := B.returns
  have hlocks := B.notSynchronized
  obtain ⟨cell, c1, c2, c3, c4, c5, c6, c7⟩ := h4
  have hl := lv_entry ([.ref vA, .int ch, .int 0, .int (Int32.ofNat n)]) (n := 6) (Nat.le_of_ble_eq_true rfl)
  rw [lg_entry_eq]
  generalize (lg_sl ([.ref vA, .int ch, .int 0, .int (Int32.ofNat n)]) ++ List.replicate (6 - (lg_sl ([.ref vA, .int ch, .int 0, .int (Int32.ofNat n)])).length) Slot.unset).toArray = ls at hl ⊢
  have hl : lv_has ls 6 [(0, .ref vA), (1, .int ch), (2, .int 0), (3, .int (Int32.ofNat n))] := hl
  have loop : ∀ (k j : Nat), j + k = n → ∀ ls : Array Slot, lv_has ls 6 [(5, .int (Int32.ofNat j)), (4, .int ch.toInt8.toInt32), (0, .ref vA), (3, .int (Int32.ofNat n))] → (xIx f ch.toInt8.toInt32 k j = xIx f ch.toInt8.toInt32 n 0) → W p l e (headSpec (xWs yJ1_indexOfChar_4cfef cJ1_indexOfChar_4cfef 6 (some .int)) ({ frames := 0, cells := 0, slots := 0, locals := 0 })).room s m ([Value.ref vA, .int ch, .int 0, .int (Int32.ofNat n)]).toArray below meth c s.heap [] 0 0 (MQ below (QcRead (xIx f ch.toInt8.toInt32 n 0)) ([Value.ref vA, .int ch, .int 0, .int (Int32.ofNat n)]).toArray s 0 0 (fun _ => False)) (F0 m 7 ls []) := by
    intro k
    induction k with
    | zero =>
      intro j hj ls hl hi
      obtain rfl : j = n := by omega
      refine lv_iload hx hb (show decode cJ1_indexOfChar_4cfef 7 = .ok (.iload 5, 2) by decide +kernel) (lv_at hl 0 rfl) ?_
      refine lv_iload_n hx hb (show decode cJ1_indexOfChar_4cfef 9 = .ok (.iload_n 3, 1) by decide +kernel) rfl (lv_at hl 3 rfl) ?_
      refine lv_icmp_ge hx hb (show decode cJ1_indexOfChar_4cfef 10 = .ok (.if_icmp .ge 21, 3) by decide +kernel) (tgt := 31) (by decide) (fun h => ?_) (fun h => absurd (Int32.le_iff_toInt_le.mpr (Int.le_refl _)) h)
      refine lv_iconst (v := -1) hx hb (show decode cJ1_indexOfChar_4cfef 31 = .ok (.iconst (-1), 1) by decide +kernel) (by decide) ?_
      exact W.iret hx hb hr (fun t ht _ => ⟨by rw [← hi]; rfl, ht⟩) (fun _ h => by cases h) (show decode cJ1_indexOfChar_4cfef 32 = .ok (.ireturn, 1) by decide +kernel)
    | succ k ih =>
      intro j hj ls hl hi
      have hjn : (Int32.ofNat j).toInt = j := xOfN (by omega)
      have hnn : (Int32.ofNat n).toInt = n := xOfN (by omega)
      refine lv_iload hx hb (show decode cJ1_indexOfChar_4cfef 7 = .ok (.iload 5, 2) by decide +kernel) (lv_at hl 0 rfl) ?_
      refine lv_iload_n hx hb (show decode cJ1_indexOfChar_4cfef 9 = .ok (.iload_n 3, 1) by decide +kernel) rfl (lv_at hl 3 rfl) ?_
      refine lv_icmp_ge hx hb (show decode cJ1_indexOfChar_4cfef 10 = .ok (.if_icmp .ge 21, 3) by decide +kernel) (tgt := 31) (by decide) (fun h => ?_) (fun _ => ?_)
      · have h := Int32.le_iff_toInt_le.mp h
        omega
      refine lv_aload_n hx hb (show decode cJ1_indexOfChar_4cfef 13 = .ok (.aload_n 0, 1) by decide +kernel) rfl (lv_at hl 2 rfl) ?_
      refine lv_iload hx hb (show decode cJ1_indexOfChar_4cfef 14 = .ok (.iload 5, 2) by decide +kernel) (lv_at hl 0 rfl) ?_
      obtain ⟨q1, q2, q3⟩ := xin_ok (x := Int32.ofNat j) (n := n) (by omega) (by omega)
      have q4 : (Int32.ofNat j).toNatClampNeg = j := by rw [q2, hjn]; rfl
      refine W.bald hx hb (v := .int (f j)) c1 c2 c3 ?_ (by rw [q4]; exact c6 j (by omega)) rfl rfl (show decode cJ1_indexOfChar_4cfef 16 = .ok (.baload, 1) by decide +kernel) ?_
      · rintro (h | h)
        · have h := Int32.lt_iff_toInt_lt.mp h
          have e0 : (0 : Int32).toInt = 0 := rfl
          omega
        · rw [q4] at h; omega
      refine W.eq (g2 := F0 m 17 ls [.int (f j)]) rfl ?_
      refine lv_iload hx hb (show decode cJ1_indexOfChar_4cfef 17 = .ok (.iload 4, 2) by decide +kernel) (lv_at hl 1 rfl) ?_
      refine lv_icmp_ne hx hb (show decode cJ1_indexOfChar_4cfef 19 = .ok (.if_icmp .ne 6, 3) by decide +kernel) (tgt := 25) (by decide) (fun h => ?_) (fun h => ?_)
      · have hi2 : xIx f ch.toInt8.toInt32 k (j + 1) = xIx f ch.toInt8.toInt32 n 0 := by
          rw [← hi]
          show _ = (if f j = ch.toInt8.toInt32 then Int32.ofNat j else xIx f ch.toInt8.toInt32 k (j + 1))
          rw [if_neg h]
        refine lv_iinc (v := Int32.ofNat (j + 1)) hx hb (show decode cJ1_indexOfChar_4cfef 25 = .ok (.iinc 5 1, 3) by decide +kernel) hl (k := 0) rfl ?_ (by decide) rfl (fun ls hl => ?_)
        · apply Int32.toInt_inj.mp
          have e1 : (Int32.ofInt 1).toInt = 1 := by decide
          rw [Int32.toInt_add, hjn, e1, xOfN (by omega), xbm (by omega) (by omega)]
          omega
        refine lv_goto hx hb (show decode cJ1_indexOfChar_4cfef 28 = .ok (.goto (-21), 3) by decide +kernel) (tgt := 7) (by decide) ?_
        exact ih (j + 1) (by omega) ls hl hi2
      · have hi2 : Int32.ofNat j = xIx f ch.toInt8.toInt32 n 0 := by
          rw [← hi]
          show _ = (if f j = ch.toInt8.toInt32 then Int32.ofNat j else xIx f ch.toInt8.toInt32 k (j + 1))
          rw [if_pos h]
        refine lv_iload hx hb (show decode cJ1_indexOfChar_4cfef 22 = .ok (.iload 5, 2) by decide +kernel) (lv_at hl 0 rfl) ?_
        exact W.iret hx hb hr (fun t ht _ => ⟨by rw [hi2], ht⟩) (fun _ h => by cases h) (show decode cJ1_indexOfChar_4cfef 24 = .ok (.ireturn, 1) by decide +kernel)
  refine lv_iload_n hx hb (show decode cJ1_indexOfChar_4cfef 0 = .ok (.iload_n 1, 1) by decide +kernel) rfl (lv_at hl 1 rfl) ?_
  refine lv_i2b (v := ch.toInt8.toInt32) hx hb (show decode cJ1_indexOfChar_4cfef 1 = .ok (.i2b, 1) by decide +kernel) rfl ?_
  refine lv_istore (lv' := [(4, .int ch.toInt8.toInt32), (0, .ref vA), (1, .int ch), (2, .int 0), (3, .int (Int32.ofNat n))]) hx hb (show decode cJ1_indexOfChar_4cfef 2 = .ok (.istore 4, 2) by decide +kernel) hl (by decide) rfl (fun ls hl => ?_)
  refine lv_iload_n hx hb (show decode cJ1_indexOfChar_4cfef 4 = .ok (.iload_n 2, 1) by decide +kernel) rfl (lv_at hl 3 rfl) ?_
  refine lv_istore (lv' := [(5, .int 0), (4, .int ch.toInt8.toInt32), (0, .ref vA), (1, .int ch), (2, .int 0), (3, .int (Int32.ofNat n))]) hx hb (show decode cJ1_indexOfChar_4cfef 5 = .ok (.istore 5, 2) by decide +kernel) hl (by decide) rfl (fun ls hl => ?_)
  exact loop n 0 (by omega) ls (lv_sub hl [0, 1, 2, 5] rfl) rfl
set_option maxHeartbeats 4000000 in
theorem xIdxSl (l : Launch) (vA n : Nat) (hn : n < 100) (h0 : 0 < n) (f : Nat → Int32) (ch : Int32) (A : Nat → Prop) : Met l yJ1_indexOf_4cfef (xWs yJ1_indexOf_4cfef cJ1_indexOf_4cfef 4 (some .int)) ({ frames := 1, cells := 0, slots := 0, locals := 40 }) (va_Pc [.ref vA, .int ch, .int 0, .int (Int32.ofNat n)] (fun U => va_T .byte vA n (fun j => .int (f j)) A U U.heap)) (QcRead (xIxC f n ch)) 0 0 (fun _ => False) := by
  refine Met.ofW (cc := cJ1_indexOf_4cfef) (maxL := 4) (ret := some .int) (by decide) rfl ?_
  intro p e s m args below meth c s₁ B hml hv
  obtain ⟨rfl, h4⟩ := hv
  have hx := B.exec
  have hb := B.bytes
  have hr := B.returns
  have hts := atoms_spec (ws := xWs yJ1_indexOf_4cfef cJ1_indexOf_4cfef 4 (some .int)) B.pre
  have hown : s.vm.findClass RJ1 = some m.cls := findClass_of_methodNamed B.named
  have hlocks := B.notSynchronized
  have hbig : ∀ w ∈ xBig, w ∈ xWs yJ1_indexOf_4cfef cJ1_indexOf_4cfef 4 (some .int) := fun w h => List.mem_cons_of_mem _ h
  have word : ∀ {w : Cond}, w ∈ xBig → w.before ([Value.ref vA, .int ch, .int 0, .int (Int32.ofNat n)]).toArray s = true := fun h => hts _ (hbig _ h)
  obtain ⟨-, -, ⟨w1, w2, w3, w4⟩, ⟨w5, w6, w7⟩, ⟨w8, w9, w10⟩, w11, w12, -⟩ := xIdx_words
  obtain ⟨m1, m2, m3, m4, m5⟩ := xMath_words
  have hT := h4
  obtain ⟨cell, c1, c2, c3, c4, c5, c6, c7⟩ := h4
  have hl := lv_entry ([.ref vA, .int ch, .int 0, .int (Int32.ofNat n)]) (n := 4) (Nat.le_of_ble_eq_true rfl)
  rw [lg_entry_eq]
  generalize (lg_sl ([.ref vA, .int ch, .int 0, .int (Int32.ofNat n)]) ++ List.replicate (4 - (lg_sl ([.ref vA, .int ch, .int 0, .int (Int32.ofNat n)])).length) Slot.unset).toArray = ls at hl ⊢
  have hl : lv_has ls 4 [(0, .ref vA), (1, .int ch), (2, .int 0), (3, .int (Int32.ofNat n))] := hl
  have hnn : (Int32.ofNat n).toInt = n := xOfN (by omega)
  have e00 : (0 : Int32).toInt = 0 := rfl
  refine lv_iload_n hx hb (show decode cJ1_indexOf_4cfef 0 = .ok (.iload_n 1, 1) by decide +kernel) rfl (lv_at hl 1 rfl) ?_
  refine W.callR (W.runS (As := [.int ch]) (rest := []) (g := F0 m 1 ls [.int ch]) ⟨hx, hb, hml, hown, hts⟩ (xCanEnc l ch) (va_cwS 1 hts (xwS hbig w5 w6 w3 (xWs_big w7)) rfl rfl rfl (by decide +kernel) ⟨Nat.le_of_ble_eq_true rfl, Nat.le_of_ble_eq_true rfl⟩) ⟨fun a U g mk q => ⟨q.1, trivial⟩, fun U hU hW => ⟨rfl, trivial⟩⟩ rfl rfl hl.1 rfl (lv_room (Nat.le_of_ble_eq_true rfl)) (show decode cJ1_indexOf_4cfef 1 = .ok (.invokestatic 88, 3) by decide +kernel) ⟨Nat.le_of_ble_eq_true rfl, Nat.le_of_ble_eq_true rfl⟩) ?_
  by_cases hc : ch < 0 ∨ 255 < ch
  · have e1 : xCan ch = 0 := by unfold xCan; rw [if_pos hc]
    have e2 : xIxC f n ch = -1 := by unfold xIxC; rw [if_pos hc]
    rw [e1]
    refine W.eq (g2 := F0 m 4 ls [.int 0]) rfl ?_
    refine lv_if_ne hx hb (show decode cJ1_indexOf_4cfef 4 = .ok (.ifCond .ne 5, 3) by decide +kernel) (tgt := 9) (by decide) (fun h => absurd rfl h) (fun _ => ?_)
    refine lv_iconst (v := -1) hx hb (show decode cJ1_indexOf_4cfef 7 = .ok (.iconst (-1), 1) by decide +kernel) (by decide) ?_
    exact W.iret hx hb hr (fun t ht _ => ⟨by rw [e2], ht⟩) (fun _ h => by cases h) (show decode cJ1_indexOf_4cfef 8 = .ok (.ireturn, 1) by decide +kernel)
  have e1 : xCan ch = 1 := by unfold xCan; rw [if_neg hc]
  have e2 : xIxC f n ch = xIx f ch.toInt8.toInt32 n 0 := by unfold xIxC; rw [if_neg hc]
  rw [e1]
  refine W.eq (g2 := F0 m 4 ls [.int 1]) rfl ?_
  refine lv_if_ne hx hb (show decode cJ1_indexOf_4cfef 4 = .ok (.ifCond .ne 5, 3) by decide +kernel) (tgt := 9) (by decide) (fun _ => ?_) (fun h => absurd h (by decide))
  refine lv_iload_n hx hb (show decode cJ1_indexOf_4cfef 9 = .ok (.iload_n 2, 1) by decide +kernel) rfl (lv_at hl 2 rfl) ?_
  refine lv_iconst (v := 0) hx hb (show decode cJ1_indexOf_4cfef 10 = .ok (.iconst 0, 1) by decide +kernel) (by decide) ?_
  refine va_mmax hx hb (by rw [hml]; exact hl.1.symm) hown (word w11) (word m1) (word m2) (word m3) (Nat.le_of_ble_eq_true rfl) (Nat.le_of_ble_eq_true rfl) (Nat.le_of_ble_eq_true rfl) (Nat.le_of_ble_eq_true rfl) (show decode cJ1_indexOf_4cfef 11 = .ok (.invokestatic 92, 3) by decide +kernel) ?_
  have e3 : (if (0 : Int32) < 0 then (0 : Int32) else 0) = 0 := by decide
  rw [e3]
  refine lv_istore_n (lv' := [(2, .int 0), (0, .ref vA), (1, .int ch), (3, .int (Int32.ofNat n))]) hx hb (show decode cJ1_indexOf_4cfef 14 = .ok (.istore_n 2, 1) by decide +kernel) rfl hl (by decide) rfl (fun ls hl => ?_)
  refine lv_iload_n hx hb (show decode cJ1_indexOf_4cfef 15 = .ok (.iload_n 3, 1) by decide +kernel) rfl (lv_at hl 3 rfl) ?_
  refine lv_aload_n hx hb (show decode cJ1_indexOf_4cfef 16 = .ok (.aload_n 0, 1) by decide +kernel) rfl (lv_at hl 1 rfl) ?_
  refine W.alen hx hb c1 c2 c5 rfl rfl (show decode cJ1_indexOf_4cfef 17 = .ok (.arraylength, 1) by decide +kernel) ?_
  refine W.eq (g2 := F0 m 18 ls [.int (Int32.ofNat n), .int (Int32.ofNat n)]) rfl ?_
  refine va_mmin hx hb (by rw [hml]; exact hl.1.symm) hown (word w12) (word m4) (word m2) (word m5) (Nat.le_of_ble_eq_true rfl) (Nat.le_of_ble_eq_true rfl) (Nat.le_of_ble_eq_true rfl) (Nat.le_of_ble_eq_true rfl) (show decode cJ1_indexOf_4cfef 18 = .ok (.invokestatic 38, 3) by decide +kernel) ?_
  have e4 : (if Int32.ofNat n < Int32.ofNat n then Int32.ofNat n else Int32.ofNat n) = Int32.ofNat n := ite_self _
  rw [e4]
  refine lv_istore_n (lv' := [(3, .int (Int32.ofNat n)), (2, .int 0), (0, .ref vA), (1, .int ch)]) hx hb (show decode cJ1_indexOf_4cfef 21 = .ok (.istore_n 3, 1) by decide +kernel) rfl hl (by decide) rfl (fun ls hl => ?_)
  refine lv_iload_n hx hb (show decode cJ1_indexOf_4cfef 22 = .ok (.iload_n 2, 1) by decide +kernel) rfl (lv_at hl 1 rfl) ?_
  refine lv_iload_n hx hb (show decode cJ1_indexOf_4cfef 23 = .ok (.iload_n 3, 1) by decide +kernel) rfl (lv_at hl 0 rfl) ?_
  refine lv_icmp_lt hx hb (show decode cJ1_indexOf_4cfef 24 = .ok (.if_icmp .lt 5, 3) by decide +kernel) (tgt := 29) (by decide) (fun _ => ?_) (fun h => absurd (Int32.lt_iff_toInt_lt.mpr (by omega)) h)
  refine lv_aload_n hx hb (show decode cJ1_indexOf_4cfef 29 = .ok (.aload_n 0, 1) by decide +kernel) rfl (lv_at hl 2 rfl) ?_
  refine lv_iload_n hx hb (show decode cJ1_indexOf_4cfef 30 = .ok (.iload_n 1, 1) by decide +kernel) rfl (lv_at hl 3 rfl) ?_
  refine lv_iload_n hx hb (show decode cJ1_indexOf_4cfef 31 = .ok (.iload_n 2, 1) by decide +kernel) rfl (lv_at hl 1 rfl) ?_
  refine lv_iload_n hx hb (show decode cJ1_indexOf_4cfef 32 = .ok (.iload_n 3, 1) by decide +kernel) rfl (lv_at hl 0 rfl) ?_
  refine W.callR (W.runS (As := [.ref vA, .int ch, .int 0, .int (Int32.ofNat n)]) (rest := []) (g := F0 m 33 ls [.int (Int32.ofNat n), .int 0, .int ch, .ref vA]) ⟨hx, hb, hml, hown, hts⟩ (xIdxChar l vA n hn f ch A) (va_cwS 4 hts (xwS hbig w8 w9 w3 (xWs_big w10)) rfl rfl rfl (by decide +kernel) ⟨Nat.le_of_ble_eq_true rfl, Nat.le_of_ble_eq_true rfl⟩) ⟨xBlindT, fun U hU hW => ⟨rfl, va_T.moved hW.alike (by rw [hU]; exact hT)⟩⟩ rfl rfl hl.1 rfl (lv_room (Nat.le_of_ble_eq_true rfl)) (show decode cJ1_indexOf_4cfef 33 = .ok (.invokestatic 95, 3) by decide +kernel) ⟨Nat.le_of_ble_eq_true rfl, Nat.le_of_ble_eq_true rfl⟩) ?_
  exact W.iret hx hb hr (fun t ht _ => ⟨by rw [e2], ht⟩) (fun _ h => by cases h) (show decode cJ1_indexOf_4cfef 36 = .ok (.ireturn, 1) by decide +kernel)
set_option maxHeartbeats 4000000 in
theorem xIdx2 (l : Launch) (sA vA n : Nat) (hn : n < 100) (h0 : 0 < n) (f : Nat → Int32) (ch : Int32) (A : Nat → Prop) : Met l yJ0_indexOf_7cf53 (xWs yJ0_indexOf_7cf53 cJ0_indexOf_7cf53 3 (some .int)) ({ frames := 2, cells := 0, slots := 0, locals := 80 }) (va_Pc [.ref sA, .int ch, .int 0] (fun U => xSg sA vA n f A U)) (QcRead (xIxC f n ch)) 0 0 (fun _ => False) := by
  refine Met.ofW (cc := cJ0_indexOf_7cf53) (maxL := 3) (ret := some .int) (by decide) rfl ?_
  intro p e s m args below meth c s₁ B hml hv
  obtain ⟨rfl, hv⟩ := hv
  have hg0 := hv
  obtain ⟨h1, h2, h3, h4, h5⟩ := hv
  have hx := B.exec
  have hb := B.bytes
  have hr := B.returns
  have hts := atoms_spec (ws := xWs yJ0_indexOf_7cf53 cJ0_indexOf_7cf53 3 (some .int)) B.pre
  have hown : s.vm.findClass RJ0 = some m.cls := findClass_of_methodNamed B.named
  have hlocks := B.notSynchronized
  have hbig : ∀ w ∈ xBig, w ∈ xWs yJ0_indexOf_7cf53 cJ0_indexOf_7cf53 3 (some .int) := fun w h => List.mem_cons_of_mem _ h
  have word : ∀ {w : Cond}, w ∈ xBig → w.before ([Value.ref sA, .int ch, .int 0]).toArray s = true := fun h => hts _ (hbig _ h)
  obtain ⟨s1, s2, s3, s4, s5, s6, s7, s8, s9, s10, s11, s12⟩ := xStr_words
  obtain ⟨-, ⟨w1, w2, w3, w4⟩, ⟨w5, w6, w7, w8⟩, -, -, -, -, w9, -⟩ := xIdx_words
  have hS : va_S A s.heap s.heap [] := va_S.rf
  have hl := lv_entry ([.ref sA, .int ch, .int 0]) (n := 3) (Nat.le_of_ble_eq_true rfl)
  rw [lg_entry_eq]
  generalize (lg_sl ([.ref sA, .int ch, .int 0]) ++ List.replicate (3 - (lg_sl ([.ref sA, .int ch, .int 0])).length) Slot.unset).toArray = ls at hl ⊢
  have hl : lv_has ls 3 [(0, .ref sA), (1, .int ch), (2, .int 0)] := hl
  obtain ⟨cl, o1, o2, o3, o4⟩ := h1
  refine lv_aload_n hx hb (show decode cJ0_indexOf_7cf53 0 = .ok (.aload_n 0, 1) by decide +kernel) rfl (lv_at hl 0 rfl) ?_
  refine W.callR (W.runV (As := []) (rest := []) (g := F0 m 1 ls [.ref sA]) (C := RJ0) ⟨hx, hb, hml, hown, hts⟩ (xLatin l sA vA n f A) (cwV 0 hts (xwV hbig w1 w2 w3 s7 (xWs_big w4)) rfl rfl rfl (by decide +kernel) ⟨Nat.le_of_ble_eq_true rfl, Nat.le_of_ble_eq_true rfl⟩) ⟨xBlindS, ⟨cl, o1, o2, o3⟩, fun U hU hW => ⟨rfl, xSg_moved hW.alike (fun a _ _ => by rw [hU]) (fun _ h => h) hg0⟩⟩ rfl rfl hl.1 rfl (lv_room (Nat.le_of_ble_eq_true rfl)) (show decode cJ0_indexOf_7cf53 1 = .ok (.invokevirtual 492, 3) by decide +kernel) ⟨Nat.le_of_ble_eq_true rfl, Nat.le_of_ble_eq_true rfl⟩) ?_
  refine W.eq (g2 := F0 m 4 ls [.int 1]) rfl ?_
  refine lv_if_eq hx hb (show decode cJ0_indexOf_7cf53 4 = .ok (.ifCond .eq 19, 3) by decide +kernel) (tgt := 23) (by decide) (fun h => absurd h (by decide)) (fun _ => ?_)
  refine lv_aload_n hx hb (show decode cJ0_indexOf_7cf53 7 = .ok (.aload_n 0, 1) by decide +kernel) rfl (lv_at hl 0 rfl) ?_
  refine vk_getf hx hb h3 hS hown (word s3) (fun _ h => h) (show decode cJ0_indexOf_7cf53 8 = .ok (.getfield 9, 3) by decide +kernel) ?_
  refine lv_iload_n hx hb (show decode cJ0_indexOf_7cf53 11 = .ok (.iload_n 1, 1) by decide +kernel) rfl (lv_at hl 1 rfl) ?_
  refine lv_iload_n hx hb (show decode cJ0_indexOf_7cf53 12 = .ok (.iload_n 2, 1) by decide +kernel) rfl (lv_at hl 2 rfl) ?_
  refine lv_aload_n hx hb (show decode cJ0_indexOf_7cf53 13 = .ok (.aload_n 0, 1) by decide +kernel) rfl (lv_at hl 0 rfl) ?_
  refine W.callR (W.runV (As := []) (rest := [.int 0, .int ch, .ref vA]) (g := F0 m 14 ls [.ref sA, .int 0, .int ch, .ref vA]) (C := RJ0) ⟨hx, hb, hml, hown, hts⟩ (xLength l sA vA n hn f A) (cwV 0 hts (xwV hbig w9 s10 s11 s7 (xWs_big s12)) rfl rfl rfl (by decide +kernel) ⟨Nat.le_of_ble_eq_true rfl, Nat.le_of_ble_eq_true rfl⟩) ⟨xBlindS, ⟨cl, o1, o2, o3⟩, fun U hU hW => ⟨rfl, xSg_moved hW.alike (fun a _ _ => by rw [hU]) (fun _ h => h) hg0⟩⟩ rfl rfl hl.1 rfl (lv_room (Nat.le_of_ble_eq_true rfl)) (show decode cJ0_indexOf_7cf53 14 = .ok (.invokevirtual 505, 3) by decide +kernel) ⟨Nat.le_of_ble_eq_true rfl, Nat.le_of_ble_eq_true rfl⟩) ?_
  refine W.callR (W.runS (As := [.ref vA, .int ch, .int 0, .int (Int32.ofNat n)]) (rest := []) (g := F0 m 17 ls [.int (Int32.ofNat n), .int 0, .int ch, .ref vA]) ⟨hx, hb, hml, hown, hts⟩ (xIdxSl l vA n hn h0 f ch A) (va_cwS 4 hts (xwS hbig w5 w6 w7 (xWs_big w8)) rfl rfl rfl (by decide +kernel) ⟨Nat.le_of_ble_eq_true rfl, Nat.le_of_ble_eq_true rfl⟩) ⟨xBlindT, fun U hU hW => ⟨rfl, va_T.moved hW.alike (by rw [hU]; exact h4)⟩⟩ rfl rfl hl.1 rfl (lv_room (Nat.le_of_ble_eq_true rfl)) (show decode cJ0_indexOf_7cf53 17 = .ok (.invokestatic 637, 3) by decide +kernel) ⟨Nat.le_of_ble_eq_true rfl, Nat.le_of_ble_eq_true rfl⟩) ?_
  refine W.eq (g2 := F0 m 20 ls [.int (xIxC f n ch)]) rfl ?_
  refine lv_goto hx hb (show decode cJ0_indexOf_7cf53 20 = .ok (.goto 16, 3) by decide +kernel) (tgt := 36) (by decide) ?_
  exact W.iret hx hb hr (fun t ht _ => ⟨rfl, ht⟩) (fun _ h => by cases h) (show decode cJ0_indexOf_7cf53 36 = .ok (.ireturn, 1) by decide +kernel)
set_option maxHeartbeats 4000000 in
theorem xIdx1 (l : Launch) (sA vA n : Nat) (hn : n < 100) (h0 : 0 < n) (f : Nat → Int32) (ch : Int32) (A : Nat → Prop) : Met l yJ0_indexOf_0f7a4 (xWs yJ0_indexOf_0f7a4 cJ0_indexOf_0f7a4 2 (some .int)) ({ frames := 3, cells := 0, slots := 0, locals := 110 }) (va_Pc [.ref sA, .int ch] (fun U => xSg sA vA n f A U)) (QcRead (xIxC f n ch)) 0 0 (fun _ => False) := by
  refine Met.ofW (cc := cJ0_indexOf_0f7a4) (maxL := 2) (ret := some .int) (by decide) rfl ?_
  intro p e s m args below meth c s₁ B hml hv
  obtain ⟨rfl, hg0⟩ := hv
  have hx := B.exec
  have hb := B.bytes
  have hr := B.returns
  have hts := atoms_spec (ws := xWs yJ0_indexOf_0f7a4 cJ0_indexOf_0f7a4 2 (some .int)) B.pre
  have hown : s.vm.findClass RJ0 = some m.cls := findClass_of_methodNamed B.named
  have hlocks := B.notSynchronized
  have hbig : ∀ w ∈ xBig, w ∈ xWs yJ0_indexOf_0f7a4 cJ0_indexOf_0f7a4 2 (some .int) := fun w h => List.mem_cons_of_mem _ h
  obtain ⟨s1, s2, s3, s4, s5, s6, s7, s8, s9, s10, s11, s12⟩ := xStr_words
  obtain ⟨⟨w1, w2, w3, w4⟩, -⟩ := xIdx_words
  obtain ⟨cl, o1, o2, o3, o4⟩ := hg0.1
  have hl := lv_entry ([.ref sA, .int ch]) (n := 2) (Nat.le_of_ble_eq_true rfl)
  rw [lg_entry_eq]
  generalize (lg_sl ([.ref sA, .int ch]) ++ List.replicate (2 - (lg_sl ([.ref sA, .int ch])).length) Slot.unset).toArray = ls at hl ⊢
  have hl : lv_has ls 2 [(0, .ref sA), (1, .int ch)] := hl
  refine lv_aload_n hx hb (show decode cJ0_indexOf_0f7a4 0 = .ok (.aload_n 0, 1) by decide +kernel) rfl (lv_at hl 0 rfl) ?_
  refine lv_iload_n hx hb (show decode cJ0_indexOf_0f7a4 1 = .ok (.iload_n 1, 1) by decide +kernel) rfl (lv_at hl 1 rfl) ?_
  refine lv_iconst (v := 0) hx hb (show decode cJ0_indexOf_0f7a4 2 = .ok (.iconst 0, 1) by decide +kernel) (by decide) ?_
  refine W.callR (W.runV (As := [.int ch, .int 0]) (rest := []) (g := F0 m 3 ls [.int 0, .int ch, .ref sA]) (C := RJ0) ⟨hx, hb, hml, hown, hts⟩ (xIdx2 l sA vA n hn h0 f ch A) (cwV 2 hts (xwV hbig w1 w2 w3 s7 (xWs_big w4)) rfl rfl rfl (by decide +kernel) ⟨Nat.le_of_ble_eq_true rfl, Nat.le_of_ble_eq_true rfl⟩) ⟨xBlindS, ⟨cl, o1, o2, o3⟩, fun U hU hW => ⟨rfl, xSg_moved hW.alike (fun a _ _ => by rw [hU]) (fun _ h => h) hg0⟩⟩ rfl rfl hl.1 rfl (lv_room (Nat.le_of_ble_eq_true rfl)) (show decode cJ0_indexOf_0f7a4 3 = .ok (.invokevirtual 633, 3) by decide +kernel) ⟨Nat.le_of_ble_eq_true rfl, Nat.le_of_ble_eq_true rfl⟩) ?_
  exact W.iret hx hb hr (fun t ht _ => ⟨rfl, ht⟩) (fun _ h => by cases h) (show decode cJ0_indexOf_0f7a4 6 = .ok (.ireturn, 1) by decide +kernel)
section XSTR
variable {p : Program} {l : Launch} {e : Env} {R : Room} {s : State} {m : MethodId} {args : Array Value} {below : List Frame} {meth : Method} {c : Code} {H : Heap} {locs : List Loc} {cells slots : Nat} {Q : State → Prop}
variable {cc : ByteArray} {pc : Nat} {ls : Array Slot} {rest : List Value} {A : Nat → Prop} {Ts : List Cond} {ad : Nat → Nat} {own : String}
/-- a text by ldc_w -/
theorem xLdcSw {tx : String} {index q : Nat} (hx : p.tables.exec = Jvm.exec) (hb : c.code = cc) (hown : s.vm.findClass own = some m.cls) (hZ : vk_R own index tx q s) (hdg : decode cc pc = .ok (.ldc_w index, 3)) (k : W p l e R s m args below meth c H locs cells slots Q (F0 m (pc + 3) ls (.ref q :: rest))) : W p l e R s m args below meth c H locs cells slots Q (F0 m pc ls rest) := by
  intro T hT X
  obtain ⟨t, a1, b1⟩ := k T hT X
  exact ⟨t, X.ldcStringW hx hown (text := tx) (a := q) hZ.1 hZ.2 (g := F0 m pc ls rest) rfl (by rw [hb]; exact hdg) t a1, b1⟩
/-- a text's length, where the text is on the stack -/
theorem xStrlen_W {nL i sA vA n : Nat} {f : Nat → Int32} (hn : n < 100) (hx : p.tables.exec = Jvm.exec) (hb : c.code = cc) (hml : c.maxLocals = nL) (hls : ls.size = nL) (hts : ∀ w ∈ Ts, w.before args s = true) (hbig : ∀ w ∈ xBig, w ∈ Ts) (hown : s.vm.findClass own = some m.cls) (hlk : Cond.methodLink own i yJ0_length_8abf5 ∈ xBig) (hv : xSg sA vA n f A s) (hS : va_S A s.heap H locs) (hroom : 2 ≤ R.frames ∧ 40 ≤ R.locals) (hcs : cells ≤ R.cells ∧ slots ≤ R.slots) (hrest : (rest.map fun v => v.category).sum ≤ 8) (hd2 : decode cc pc = .ok (.invokevirtual i, 3)) (kk : W p l e R s m args below meth c H locs cells slots Q (F0 m (pc + 3) ls (.int (Int32.ofNat n) :: rest))) : W p l e R s m args below meth c H locs cells slots Q (F0 m pc ls (.ref sA :: rest)) := by
  obtain ⟨w1, w2, w3, w4, w5, w6, w7, w8, w9, w10, w11, w12⟩ := xStr_words
  obtain ⟨cl, o1, o2, o3, o4⟩ := hv.1.kept hS.2.1
  exact W.callR (W.runV (As := []) (rest := rest) (g := F0 m pc ls (.ref sA :: rest)) (C := RJ0) ⟨hx, hb, hml, hown, hts⟩ (xLength l sA vA n hn f A) (cwV 0 hts (xwV hbig hlk w10 w11 w7 (xWs_big w12)) rfl rfl rfl (by decide +kernel) ⟨by show 1 + 1 ≤ R.frames; omega, by show 8 + (1 + 11) + 20 ≤ R.locals; omega⟩) ⟨xBlindS, ⟨cl, o1, o2, o3⟩, fun U hU hW => ⟨rfl, xSg_moved hW.alike (fun a h1 h2 => by rw [hU]; exact hS.2.1 a h1 h2) (fun _ h => h) hv⟩⟩ rfl rfl hls rfl (lv_room hrest) hd2 ⟨by omega, by omega⟩) kk
/-- indexOf, likewise -/
theorem xStridx_W {nL i sA vA n : Nat} {f : Nat → Int32} {ch : Int32} (hn : n < 100) (h0 : 0 < n) (hx : p.tables.exec = Jvm.exec) (hb : c.code = cc) (hml : c.maxLocals = nL) (hls : ls.size = nL) (hts : ∀ w ∈ Ts, w.before args s = true) (hbig : ∀ w ∈ xBig, w ∈ Ts) (hown : s.vm.findClass own = some m.cls) (hlk : Cond.methodLink own i yJ0_indexOf_0f7a4 ∈ xBig) (hv : xSg sA vA n f A s) (hS : va_S A s.heap H locs) (hroom : 4 ≤ R.frames ∧ 131 ≤ R.locals) (hcs : cells ≤ R.cells ∧ slots ≤ R.slots) (hrest : (rest.map fun v => v.category).sum ≤ 8) (hd2 : decode cc pc = .ok (.invokevirtual i, 3)) (kk : W p l e R s m args below meth c H locs cells slots Q (F0 m (pc + 3) ls (.int (xIxC f n ch) :: rest))) : W p l e R s m args below meth c H locs cells slots Q (F0 m pc ls (.int ch :: .ref sA :: rest)) := by
  obtain ⟨w1, w2, w3, w4, w5, w6, w7, w8, w9, w10, w11, w12⟩ := xStr_words
  obtain ⟨-, -, -, -, -, -, -, -, v1, v2, v3⟩ := xIdx_words
  obtain ⟨cl, o1, o2, o3, o4⟩ := hv.1.kept hS.2.1
  exact W.callR (W.runV (As := [.int ch]) (rest := rest) (g := F0 m pc ls (.int ch :: .ref sA :: rest)) (C := RJ0) ⟨hx, hb, hml, hown, hts⟩ (xIdx1 l sA vA n hn h0 f ch A) (cwV 1 hts (xwV hbig hlk v2 v3 w7 (xWs_big v1)) rfl rfl rfl (by decide +kernel) ⟨by show 3 + 1 ≤ R.frames; omega, by show 8 + (2 + 11) + 110 ≤ R.locals; omega⟩) ⟨xBlindS, ⟨cl, o1, o2, o3⟩, fun U hU hW => ⟨rfl, xSg_moved hW.alike (fun a h1 h2 => by rw [hU]; exact hS.2.1 a h1 h2) (fun _ h => h) hv⟩⟩ rfl rfl hls rfl (lv_room hrest) hd2 ⟨by omega, by omega⟩) kk
end XSTR

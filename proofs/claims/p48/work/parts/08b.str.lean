/-! the texts that the code asks: "ysfhlc" (its id is 1), "urdlw" (2 in Walk, 3 in the reference) -/
def xSg (sA vA n : Nat) (f : Nat → Int32) (A : Nat → Prop) (U : State) : Prop := va_O "java/lang/String" sA A U U.heap ∧ va_OF "java/lang/String" "coder" "B" (.int 0) sA A U U.heap ∧ va_OF "java/lang/String" "value" "[B" (.ref vA) sA A U U.heap ∧ va_T .byte vA n (fun j => .int (f j)) A U U.heap ∧ va_Z "java/lang/String" "COMPACT_STRINGS" "Z" (.int 1) A U U.heap
def xSS (ad : Nat → Nat) (A : Nat → Prop) (U : State) : Prop := (∃ (vA : Nat) (f : Nat → Int32), vk_R RX5 81 "ysfhlc" (ad 1) U ∧ xSg (ad 1) vA 6 f A U) ∧ (∃ (vA : Nat) (f : Nat → Int32), vk_R RX9 24 "urdlw" (ad 2) U ∧ xSg (ad 2) vA 5 f A U) ∧ (∃ (vA : Nat) (f : Nat → Int32), vk_R RX12 292 "urdlw" (ad 3) U ∧ xSg (ad 3) vA 5 f A U)
theorem xSg_moved {sA vA n : Nat} {f : Nat → Int32} {A B : Nat → Prop} {s U : State} (hvm : s.vm.Alike U.vm) (hU : ∀ a : Nat, a < s.heap.size → ¬ A a → U.heap[a]? = s.heap[a]?) (hBA : ∀ q, B q → A q) (h : xSg sA vA n f A s) : xSg sA vA n f B U := by
  obtain ⟨h1, h2, h3, h4, h5⟩ := h
  exact ⟨va_O.moved hvm ((h1.kept hU).narrow hBA), va_OF.moved hvm ((h2.kept hU).narrow hBA), va_OF.moved hvm ((h3.kept hU).narrow hBA), va_T.moved hvm ((h4.kept hU).narrow hBA), va_Z.moved hvm ((h5.kept hU).narrow hBA)⟩
theorem xSS_warm {ad : Nat → Nat} {A B : Nat → Prop} {s U : State} (hW : s.WarmedH U.vm) (hU : ∀ a : Nat, a < s.heap.size → ¬ A a → U.heap[a]? = s.heap[a]?) (hBA : ∀ q, B q → A q) (h : xSS ad A s) : xSS ad B U := by
  obtain ⟨⟨v1, f1, a1, b1⟩, ⟨v2, f2, a2, b2⟩, v3, f3, a3, b3⟩ := h
  exact ⟨⟨v1, f1, vk_R.warm hW a1, xSg_moved hW.alike hU hBA b1⟩, ⟨v2, f2, vk_R.warm hW a2, xSg_moved hW.alike hU hBA b2⟩, v3, f3, vk_R.warm hW a3, xSg_moved hW.alike hU hBA b3⟩
theorem xSS_calling {ad : Nat → Nat} {A : Nat → Prop} {U : State} {g : JFrame} {mk : MethodId} {a : Array Value} (h : xSS ad A U) : xSS ad A (U.calling g mk a) := by
  obtain ⟨⟨v1, f1, a1, b1⟩, ⟨v2, f2, a2, b2⟩, v3, f3, a3, b3⟩ := h
  exact ⟨⟨v1, f1, vk_R.same (u := U) rfl a1, xSg_moved (s := U) (U := U.calling g mk a) (Vm.Alike.refl U.vm) (fun _ _ _ => rfl) (fun _ h => h) b1⟩, ⟨v2, f2, vk_R.same (u := U) rfl a2, xSg_moved (s := U) (U := U.calling g mk a) (Vm.Alike.refl U.vm) (fun _ _ _ => rfl) (fun _ h => h) b2⟩, v3, f3, vk_R.same (u := U) rfl a3, xSg_moved (s := U) (U := U.calling g mk a) (Vm.Alike.refl U.vm) (fun _ _ _ => rfl) (fun _ h => h) b3⟩
theorem xSS_ad {ad ad0 : Nat → Nat} {n : Nat} (hn : 4 ≤ n) (had : ∀ k, k < n → ad k = ad0 k) {A : Nat → Prop} {U : State} (h : xSS ad0 A U) : xSS ad A U := by
  unfold xSS at h ⊢
  rw [had 1 (by omega), had 2 (by omega), had 3 (by omega)]
  exact h
def xWs (y : MethodName) (cc : ByteArray) (n : Nat) (r : Option FieldType) : List Cond := .code y cc n r :: xBig
theorem xStr_words : Cond.fieldLink RJ0 38 "java/lang/String" "COMPACT_STRINGS" "Z" ∈ xBig ∧ Cond.fieldLink RJ0 15 "java/lang/String" "coder" "B" ∈ xBig ∧ Cond.fieldLink RJ0 9 "java/lang/String" "value" "[B" ∈ xBig ∧ Cond.methodLink RJ0 335 yJ0_coder_7d493 ∈ xBig ∧ Cond.instanceMethod yJ0_coder_7d493 ∈ xBig ∧ Cond.selects RJ0 yJ0_coder_7d493 yJ0_coder_7d493 ∈ xBig ∧ Cond.initialized RJ0 ∈ xBig ∧ Cond.code yJ0_coder_7d493 cJ0_coder_7d493 1 (some .byte) ∈ xBig ∧ Cond.methodLink RX5 103 yJ0_length_8abf5 ∈ xBig ∧ Cond.instanceMethod yJ0_length_8abf5 ∈ xBig ∧ Cond.selects RJ0 yJ0_length_8abf5 yJ0_length_8abf5 ∈ xBig ∧ Cond.code yJ0_length_8abf5 cJ0_length_8abf5 1 (some .int) ∈ xBig :=
  ⟨xHas_ok (i := 655) (by decide +kernel), xHas_ok (i := 2026) (by decide +kernel), xHas_ok (i := 2027) (by decide +kernel), xHas_ok (i := 661) (by decide +kernel), xHas_ok (i := 662) (by decide +kernel), xHas_ok (i := 663) (by decide +kernel), xHas_ok (i := 110) (by decide +kernel), xHas_ok (i := 664) (by decide +kernel), xHas_ok (i := 844) (by decide +kernel), xHas_ok (i := 658) (by decide +kernel), xHas_ok (i := 659) (by decide +kernel), xHas_ok (i := 660) (by decide +kernel)⟩
theorem xGood_big {w : Cond} (h : w ∈ xBig) : (w.onTables && w.keeps) = true ∨ ∃ ty, w = .arrayClass ty := good_of_word (List.mem_filter.mp h).2
theorem xGoodIn {Ts : List Cond} (hbig : ∀ w ∈ xBig, w ∈ Ts) {ws : List Cond} (h : ∀ w ∈ ws, w ∈ xBig) : GoodIn Ts ws := fun w hw => ⟨hbig w (h w hw), xGood_big (h w hw)⟩
theorem xBlindS {av : List Value} {sA vA n : Nat} {f : Nat → Int32} {A : Nat → Prop} : FrameBlind (va_Pc av (fun U => xSg sA vA n f A U)) := fun a U g mk q => ⟨q.1, xSg_moved (s := U) (U := U.calling g mk a) (Vm.Alike.refl U.vm) (fun _ _ _ => rfl) (fun _ h => h) q.2⟩
set_option maxHeartbeats 4000000 in
theorem xCoder (l : Launch) (sA vA n : Nat) (f : Nat → Int32) (A : Nat → Prop) : Met l yJ0_coder_7d493 (xWs yJ0_coder_7d493 cJ0_coder_7d493 1 (some .byte)) ({ frames := 0, cells := 0, slots := 0, locals := 0 }) (va_Pc [.ref sA] (fun U => xSg sA vA n f A U)) (QcRead 0) 0 0 (fun _ => False) := by
  refine Met.ofW (cc := cJ0_coder_7d493) (maxL := 1) (ret := some .byte) (by decide) rfl ?_
  intro p e s m args below meth c s₁ B hml hv
  obtain ⟨rfl, h1, h2, h3, h4, h5⟩ := hv
  have hx := B.exec
  have hb := B.bytes
  have hr := B.returns
  have hts := atoms_spec (ws := xWs yJ0_coder_7d493 cJ0_coder_7d493 1 (some .byte)) B.pre
  have hown : s.vm.findClass RJ0 = some m.cls := findClass_of_methodNamed B.named
  have hlocks := B.notSynchronized
  have word : ∀ {w : Cond}, w ∈ xBig → w.before ([Value.ref sA]).toArray s = true := fun h => hts _ (List.mem_cons_of_mem _ h)
  obtain ⟨w1, w2, w3, w4, w5, w6, w7, w8, -⟩ := xStr_words
  have hS : va_S A s.heap s.heap [] := va_S.rf
  have hl := lv_entry ([.ref sA]) (n := 1) (Nat.le_of_ble_eq_true rfl)
  rw [lg_entry_eq]
  generalize (lg_sl ([.ref sA]) ++ List.replicate (1 - (lg_sl ([.ref sA])).length) Slot.unset).toArray = ls at hl ⊢
  have hl : lv_has ls 1 [(0, .ref sA)] := hl
  refine va_gets hx hb h5 hS hown (word w1) (fun _ h => h) (show decode cJ0_coder_7d493 0 = .ok (.getstatic 38, 3) by decide +kernel) ?_
  refine lv_if_eq hx hb (show decode cJ0_coder_7d493 3 = .ok (.ifCond .eq 10, 3) by decide +kernel) (tgt := 13) (by decide) (fun h => absurd h (by decide)) (fun _ => ?_)
  refine lv_aload_n hx hb (show decode cJ0_coder_7d493 6 = .ok (.aload_n 0, 1) by decide +kernel) rfl (lv_at hl 0 rfl) ?_
  refine vk_getf hx hb h2 hS hown (word w2) (fun _ h => h) (show decode cJ0_coder_7d493 7 = .ok (.getfield 15, 3) by decide +kernel) ?_
  refine lv_goto hx hb (show decode cJ0_coder_7d493 10 = .ok (.goto 4, 3) by decide +kernel) (tgt := 14) (by decide) ?_
  exact W.zret hx hb hr rfl (fun t ht _ => ⟨rfl, ht⟩) (fun _ h => by cases h) (show decode cJ0_coder_7d493 14 = .ok (.ireturn, 1) by decide +kernel)
set_option maxHeartbeats 4000000 in
theorem xLength (l : Launch) (sA vA n : Nat) (hn : n < 100) (f : Nat → Int32) (A : Nat → Prop) : Met l yJ0_length_8abf5 (xWs yJ0_length_8abf5 cJ0_length_8abf5 1 (some .int)) ({ frames := 1, cells := 0, slots := 0, locals := 20 }) (va_Pc [.ref sA] (fun U => xSg sA vA n f A U)) (QcRead (Int32.ofNat n)) 0 0 (fun _ => False) := by
  refine Met.ofW (cc := cJ0_length_8abf5) (maxL := 1) (ret := some .int) (by decide) rfl ?_
  intro p e s m args below meth c s₁ B hml hv
  obtain ⟨rfl, hv⟩ := hv
  obtain ⟨h1, h2, h3, h4, h5⟩ := hv
  have hx := B.exec
  have hb := B.bytes
  have hr := B.returns
  have hts := atoms_spec (ws := xWs yJ0_length_8abf5 cJ0_length_8abf5 1 (some .int)) B.pre
  have hown : s.vm.findClass RJ0 = some m.cls := findClass_of_methodNamed B.named
  have hlocks := B.notSynchronized
  have hbig : ∀ w ∈ xBig, w ∈ xWs yJ0_length_8abf5 cJ0_length_8abf5 1 (some .int) := fun w h => List.mem_cons_of_mem _ h
  have word : ∀ {w : Cond}, w ∈ xBig → w.before ([Value.ref sA]).toArray s = true := fun h => hts _ (hbig _ h)
  obtain ⟨w1, w2, w3, w4, w5, w6, w7, w8, -⟩ := xStr_words
  have hS : va_S A s.heap s.heap [] := va_S.rf
  have hl := lv_entry ([.ref sA]) (n := 1) (Nat.le_of_ble_eq_true rfl)
  rw [lg_entry_eq]
  generalize (lg_sl ([.ref sA]) ++ List.replicate (1 - (lg_sl ([.ref sA])).length) Slot.unset).toArray = ls at hl ⊢
  have hl : lv_has ls 1 [(0, .ref sA)] := hl
  refine lv_aload_n hx hb (show decode cJ0_length_8abf5 0 = .ok (.aload_n 0, 1) by decide +kernel) rfl (lv_at hl 0 rfl) ?_
  refine vk_getf hx hb h3 hS hown (word w3) (fun _ h => h) (show decode cJ0_length_8abf5 1 = .ok (.getfield 9, 3) by decide +kernel) ?_
  obtain ⟨cell, c1, c2, c3, c4, c5, c6, c7⟩ := h4
  refine W.alen hx hb c1 c2 c5 rfl rfl (show decode cJ0_length_8abf5 4 = .ok (.arraylength, 1) by decide +kernel) ?_
  refine lv_aload_n hx hb (show decode cJ0_length_8abf5 5 = .ok (.aload_n 0, 1) by decide +kernel) rfl (lv_at hl 0 rfl) ?_
  obtain ⟨cl, o1, o2, o3, o4⟩ := h1
  refine W.callR (W.runV (As := []) (rest := [.int (Int32.ofNat n)]) (cc := cJ0_length_8abf5) (nL := 1) (Ts := xWs yJ0_length_8abf5 cJ0_length_8abf5 1 (some .int)) (own := RJ0) (C := RJ0) ⟨hx, hb, hml, hown, hts⟩ (xCoder l sA vA n f A) (cwV 0 hts (xGoodIn hbig (fun w hw => by
    unfold wsV at hw
    rcases List.mem_append.mp hw with h | h
    · rcases List.mem_cons.mp h with rfl | h
      · exact w4
      rcases List.mem_cons.mp h with rfl | h
      · exact w5
      rcases List.mem_cons.mp h with rfl | h
      · exact w6
      rcases List.mem_cons.mp h with rfl | h
      · exact w7
      · cases h
    · rcases List.mem_cons.mp h with rfl | h
      · exact w8
      · exact h)) rfl rfl rfl (by decide +kernel) ⟨Nat.le_of_ble_eq_true rfl, Nat.le_of_ble_eq_true rfl⟩) ⟨xBlindS, ⟨cl, o1, o2, o3⟩, fun U hU hW => ⟨rfl, xSg_moved hW.alike (fun a _ _ => by rw [hU]) (fun _ h => h) ⟨⟨cl, o1, o2, o3, o4⟩, h2, h3, ⟨cell, c1, c2, c3, c4, c5, c6, c7⟩, h5⟩⟩⟩ rfl rfl hl.1 rfl (lv_room (Nat.le_of_ble_eq_true rfl)) (show decode cJ0_length_8abf5 6 = .ok (.invokevirtual 335, 3) by decide +kernel) ⟨Nat.le_of_ble_eq_true rfl, Nat.le_of_ble_eq_true rfl⟩) ?_
  refine lv_ishr hx hb (show decode cJ0_length_8abf5 9 = .ok (.ishr, 1) by decide +kernel) ?_
  have e0 : Int32.ofNat n >>> ((0 : Int32) &&& 31) = Int32.ofNat n := by
    have : ∀ k : Fin 100, Int32.ofNat k.val >>> ((0 : Int32) &&& 31) = Int32.ofNat k.val := by decide +kernel
    exact this ⟨n, hn⟩
  refine lv_topi (fun v ev => ?_)
  exact W.iret (v := v) hx hb hr (fun t ht _ => ⟨by rw [ev, e0], ht⟩) (fun _ h => by cases h) (show decode cJ0_length_8abf5 10 = .ok (.ireturn, 1) by decide +kernel)

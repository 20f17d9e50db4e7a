/-! the one text whose length is asked -/
def xSg (sA vA : Nat) (A : Nat → Prop) (U : State) : Prop := va_O "java/lang/String" sA A U U.heap ∧ va_OF "java/lang/String" "coder" "B" (.int 0) sA A U U.heap ∧ va_OF "java/lang/String" "value" "[B" (.ref vA) sA A U U.heap ∧ (∃ f, va_T .byte vA 6 f A U U.heap) ∧ va_Z "java/lang/String" "COMPACT_STRINGS" "Z" (.int 1) A U U.heap
def xSS (A : Nat → Prop) (U : State) : Prop := ∃ sA vA : Nat, vk_R RX5 81 "ysfhlc" sA U ∧ xSg sA vA A U
theorem xSg_moved {sA vA : Nat} {A B : Nat → Prop} {s U : State} (hvm : s.vm.Alike U.vm) (hU : ∀ a : Nat, a < s.heap.size → ¬ A a → U.heap[a]? = s.heap[a]?) (hBA : ∀ q, B q → A q) (h : xSg sA vA A s) : xSg sA vA B U := by
  obtain ⟨h1, h2, h3, ⟨f, h4⟩, h5⟩ := h
  exact ⟨va_O.moved hvm ((h1.kept hU).narrow hBA), va_OF.moved hvm ((h2.kept hU).narrow hBA), va_OF.moved hvm ((h3.kept hU).narrow hBA), ⟨f, va_T.moved hvm ((h4.kept hU).narrow hBA)⟩, va_Z.moved hvm ((h5.kept hU).narrow hBA)⟩
theorem xSS_warm {A B : Nat → Prop} {s U : State} (hW : s.WarmedH U.vm) (hU : ∀ a : Nat, a < s.heap.size → ¬ A a → U.heap[a]? = s.heap[a]?) (hBA : ∀ q, B q → A q) (h : xSS A s) : xSS B U := by
  obtain ⟨sA, vA, h1, h2⟩ := h
  exact ⟨sA, vA, vk_R.warm hW h1, xSg_moved hW.alike hU hBA h2⟩
theorem xSS_calling {A : Nat → Prop} {U : State} {g : JFrame} {mk : MethodId} {a : Array Value} (h : xSS A U) : xSS A (U.calling g mk a) := by
  obtain ⟨sA, vA, h1, h2⟩ := h
  exact ⟨sA, vA, vk_R.same (u := U) rfl h1, xSg_moved (s := U) (U := U.calling g mk a) (Vm.Alike.refl U.vm) (fun _ _ _ => rfl) (fun _ h => h) h2⟩
def xWs (y : MethodName) (cc : ByteArray) (n : Nat) (r : Option FieldType) : List Cond := .code y cc n r :: xBig
theorem xStr_words : Cond.fieldLink RJ0 38 "java/lang/String" "COMPACT_STRINGS" "Z" ∈ xBig ∧ Cond.fieldLink RJ0 15 "java/lang/String" "coder" "B" ∈ xBig ∧ Cond.fieldLink RJ0 9 "java/lang/String" "value" "[B" ∈ xBig ∧ Cond.methodLink RJ0 335 yJ0_coder_7d493 ∈ xBig ∧ Cond.instanceMethod yJ0_coder_7d493 ∈ xBig ∧ Cond.selects RJ0 yJ0_coder_7d493 yJ0_coder_7d493 ∈ xBig ∧ Cond.initialized RJ0 ∈ xBig ∧ Cond.code yJ0_coder_7d493 cJ0_coder_7d493 1 (some .byte) ∈ xBig ∧ Cond.methodLink RX5 103 yJ0_length_8abf5 ∈ xBig ∧ Cond.instanceMethod yJ0_length_8abf5 ∈ xBig ∧ Cond.selects RJ0 yJ0_length_8abf5 yJ0_length_8abf5 ∈ xBig ∧ Cond.code yJ0_length_8abf5 cJ0_length_8abf5 1 (some .int) ∈ xBig :=
  ⟨xHas_ok (i := 655) (by decide +kernel), xHas_ok (i := 2026) (by decide +kernel), xHas_ok (i := 2027) (by decide +kernel), xHas_ok (i := 661) (by decide +kernel), xHas_ok (i := 662) (by decide +kernel), xHas_ok (i := 663) (by decide +kernel), xHas_ok (i := 110) (by decide +kernel), xHas_ok (i := 664) (by decide +kernel), xHas_ok (i := 844) (by decide +kernel), xHas_ok (i := 658) (by decide +kernel), xHas_ok (i := 659) (by decide +kernel), xHas_ok (i := 660) (by decide +kernel)⟩
theorem xGood_big {w : Cond} (h : w ∈ xBig) : (w.onTables && w.keeps) = true ∨ ∃ ty, w = .arrayClass ty := good_of_word (List.mem_filter.mp h).2
theorem xGoodIn {Ts : List Cond} (hbig : ∀ w ∈ xBig, w ∈ Ts) {ws : List Cond} (h : ∀ w ∈ ws, w ∈ xBig) : GoodIn Ts ws := fun w hw => ⟨hbig w (h w hw), xGood_big (h w hw)⟩
theorem xBlindS {av : List Value} {sA vA : Nat} {A : Nat → Prop} : FrameBlind (va_Pc av (fun U => xSg sA vA A U)) := fun a U g mk q => ⟨q.1, xSg_moved (s := U) (U := U.calling g mk a) (Vm.Alike.refl U.vm) (fun _ _ _ => rfl) (fun _ h => h) q.2⟩
set_option maxHeartbeats 4000000 in
theorem xCoder (l : Launch) (sA vA : Nat) (A : Nat → Prop) : Met l yJ0_coder_7d493 (xWs yJ0_coder_7d493 cJ0_coder_7d493 1 (some .byte)) ({ frames := 0, cells := 0, slots := 0, locals := 0 }) (va_Pc [.ref sA] (fun U => xSg sA vA A U)) (QcRead 0) 0 0 (fun _ => False) := by
  refine Met.ofW (cc := cJ0_coder_7d493) (maxL := 1) (ret := some .byte) (by decide) rfl ?_
  intro p e s m args below meth c s₁ B hml hv
  obtain ⟨rfl, h1, h2, h3, h4, h5⟩ := hv
  have hx := B.exec
  have hb := B.bytes
  have hr := B.returns
  have hts := atoms_spec (ws := xWs yJ0_coder_7d493 cJ0_coder_7d493 1 (some .byte)) B.pre
  have hown : s.vm.findClass RJ0 = some m.cls := findClass_of_methodNamed B.named
  have hlocks := B.notSynchronized
  have word : ∀ {w : Cond}, w ∈ xBig → w.before ([Value.ref sA]).toArray s = true := fun h => hts _ (List.mem_cons_of_mem _ h)
  obtain ⟨w1, w2, w3, w4, w5, w6, w7, w8, -⟩ := xStr_words
  have hS : va_S A s.heap s.heap [] := va_S.rf
  have hl := lv_entry ([.ref sA]) (n := 1) (Nat.le_of_ble_eq_true rfl)
  rw [lg_entry_eq]
  generalize (lg_sl ([.ref sA]) ++ List.replicate (1 - (lg_sl ([.ref sA])).length) Slot.unset).toArray = ls at hl ⊢
  have hl : lv_has ls 1 [(0, .ref sA)] := hl
  refine va_gets hx hb h5 hS hown (word w1) (fun _ h => h) (show decode cJ0_coder_7d493 0 = .ok (.getstatic 38, 3) by decide +kernel) ?_
  refine lv_if_eq hx hb (show decode cJ0_coder_7d493 3 = .ok (.ifCond .eq 10, 3) by decide +kernel) (tgt := 13) (by decide) (fun h => absurd h (by decide)) (fun _ => ?_)
  refine lv_aload_n hx hb (show decode cJ0_coder_7d493 6 = .ok (.aload_n 0, 1) by decide +kernel) rfl (lv_at hl 0 rfl) ?_
  refine vk_getf hx hb h2 hS hown (word w2) (fun _ h => h) (show decode cJ0_coder_7d493 7 = .ok (.getfield 15, 3) by decide +kernel) ?_
  refine lv_goto hx hb (show decode cJ0_coder_7d493 10 = .ok (.goto 4, 3) by decide +kernel) (tgt := 14) (by decide) ?_
  exact W.zret hx hb hr rfl (fun t ht _ => ⟨rfl, ht⟩) (fun _ h => by cases h) (show decode cJ0_coder_7d493 14 = .ok (.ireturn, 1) by decide +kernel)
set_option maxHeartbeats 4000000 in
theorem xLength (l : Launch) (sA vA : Nat) (A : Nat → Prop) : Met l yJ0_length_8abf5 (xWs yJ0_length_8abf5 cJ0_length_8abf5 1 (some .int)) ({ frames := 1, cells := 0, slots := 0, locals := 20 }) (va_Pc [.ref sA] (fun U => xSg sA vA A U)) (QcRead 6) 0 0 (fun _ => False) := by
  refine Met.ofW (cc := cJ0_length_8abf5) (maxL := 1) (ret := some .int) (by decide) rfl ?_
  intro p e s m args below meth c s₁ B hml hv
  obtain ⟨rfl, hv⟩ := hv
  obtain ⟨h1, h2, h3, ⟨f, h4⟩, h5⟩ := hv
  have hx := B.exec
  have hb := B.bytes
  have hr := B.returns
  have hts := atoms_spec (ws := xWs yJ0_length_8abf5 cJ0_length_8abf5 1 (some .int)) B.pre
  have hown : s.vm.findClass RJ0 = some m.cls := findClass_of_methodNamed B.named
  have hlocks := B.notSynchronized
  have hbig : ∀ w ∈ xBig, w ∈ xWs yJ0_length_8abf5 cJ0_length_8abf5 1 (some .int) := fun w h => List.mem_cons_of_mem _ h
  have word : ∀ {w : Cond}, w ∈ xBig → w.before ([Value.ref sA]).toArray s = true := fun h => hts _ (hbig _ h)
  obtain ⟨w1, w2, w3, w4, w5, w6, w7, w8, -⟩ := xStr_words
  have hS : va_S A s.heap s.heap [] := va_S.rf
  have hl := lv_entry ([.ref sA]) (n := 1) (Nat.le_of_ble_eq_true rfl)
  rw [lg_entry_eq]
  generalize (lg_sl ([.ref sA]) ++ List.replicate (1 - (lg_sl ([.ref sA])).length) Slot.unset).toArray = ls at hl ⊢
  have hl : lv_has ls 1 [(0, .ref sA)] := hl
  refine lv_aload_n hx hb (show decode cJ0_length_8abf5 0 = .ok (.aload_n 0, 1) by decide +kernel) rfl (lv_at hl 0 rfl) ?_
  refine vk_getf hx hb h3 hS hown (word w3) (fun _ h => h) (show decode cJ0_length_8abf5 1 = .ok (.getfield 9, 3) by decide +kernel) ?_
  obtain ⟨cell, c1, c2, c3, c4, c5, c6, c7⟩ := h4
  refine W.alen hx hb c1 c2 c5 rfl rfl (show decode cJ0_length_8abf5 4 = .ok (.arraylength, 1) by decide +kernel) ?_
  refine lv_aload_n hx hb (show decode cJ0_length_8abf5 5 = .ok (.aload_n 0, 1) by decide +kernel) rfl (lv_at hl 0 rfl) ?_
  obtain ⟨cl, o1, o2, o3, o4⟩ := h1
  refine W.callR (W.runV (As := []) (rest := [.int (Int32.ofNat 6)]) (cc := cJ0_length_8abf5) (nL := 1) (Ts := xWs yJ0_length_8abf5 cJ0_length_8abf5 1 (some .int)) (own := RJ0) (C := RJ0) ⟨hx, hb, hml, hown, hts⟩ (xCoder l sA vA A) (cwV 0 hts (xGoodIn hbig (fun w hw => by
    unfold wsV at hw
    rcases List.mem_append.mp hw with h | h
    · rcases List.mem_cons.mp h with rfl | h
      · exact w4
      rcases List.mem_cons.mp h with rfl | h
      · exact w5
      rcases List.mem_cons.mp h with rfl | h
      · exact w6
      rcases List.mem_cons.mp h with rfl | h
      · exact w7
      · cases h
    · rcases List.mem_cons.mp h with rfl | h
      · exact w8
      · exact h)) rfl rfl rfl (by decide +kernel) ⟨Nat.le_of_ble_eq_true rfl, Nat.le_of_ble_eq_true rfl⟩) ⟨xBlindS, ⟨cl, o1, o2, o3⟩, fun U hU hW => ⟨rfl, xSg_moved hW.alike (fun a _ _ => by rw [hU]) (fun _ h => h) ⟨⟨cl, o1, o2, o3, o4⟩, h2, h3, ⟨f, cell, c1, c2, c3, c4, c5, c6, c7⟩, h5⟩⟩⟩ rfl rfl hl.1 rfl (lv_room (Nat.le_of_ble_eq_true rfl)) (show decode cJ0_length_8abf5 6 = .ok (.invokevirtual 335, 3) by decide +kernel) ⟨Nat.le_of_ble_eq_true rfl, Nat.le_of_ble_eq_true rfl⟩) ?_
  refine lv_ishr hx hb (show decode cJ0_length_8abf5 9 = .ok (.ishr, 1) by decide +kernel) ?_
  exact W.iret (v := 6) hx hb hr (fun t ht _ => ⟨rfl, ht⟩) (fun _ h => by cases h) (show decode cJ0_length_8abf5 10 = .ok (.ireturn, 1) by decide +kernel)
section XSTR
variable {p : Program} {l : Launch} {e : Env} {R : Room} {s : State} {m : MethodId} {args : Array Value} {below : List Frame} {meth : Method} {c : Code} {H : Heap} {locs : List Loc} {cells slots : Nat} {Q : State → Prop}
variable {cc : ByteArray} {pc : Nat} {ls : Array Slot} {rest : List Value} {A : Nat → Prop} {Ts : List Cond}
/-- "ysfhlc".length() -/
theorem xStrlen_W {nL : Nat} (hx : p.tables.exec = Jvm.exec) (hb : c.code = cc) (hml : c.maxLocals = nL) (hls : ls.size = nL) (hts : ∀ w ∈ Ts, w.before args s = true) (hbig : ∀ w ∈ xBig, w ∈ Ts) (hown : s.vm.findClass RX5 = some m.cls) (hSS : xSS A s) (hS : va_S A s.heap H locs) (hroom : 2 ≤ R.frames ∧ 40 ≤ R.locals) (hcs : cells ≤ R.cells ∧ slots ≤ R.slots) (hrest : (rest.map fun v => v.category).sum ≤ 8) (hd1 : decode cc pc = .ok (.ldc 81, 2)) (hd2 : decode cc (pc + 2) = .ok (.invokevirtual 103, 3)) (kk : W p l e R s m args below meth c H locs cells slots Q (F0 m (pc + 5) ls (.int 6 :: rest))) : W p l e R s m args below meth c H locs cells slots Q (F0 m pc ls rest) := by
  obtain ⟨sA, vA, hR, hv⟩ := hSS
  obtain ⟨w1, w2, w3, w4, w5, w6, w7, w8, w9, w10, w11, w12⟩ := xStr_words
  refine va_ldcS hx hb hown hR hd1 ?_
  obtain ⟨cl, o1, o2, o3, o4⟩ := hv.1.kept hS.2.1
  exact W.callR (W.runV (As := []) (rest := rest) (g := F0 m (pc + 2) ls (.ref sA :: rest)) (C := RJ0) ⟨hx, hb, hml, hown, hts⟩ (xLength l sA vA A) (cwV 0 hts (xGoodIn hbig (fun w hw => by
    unfold wsV at hw
    rcases List.mem_append.mp hw with h | h
    · rcases List.mem_cons.mp h with rfl | h
      · exact w9
      rcases List.mem_cons.mp h with rfl | h
      · exact w10
      rcases List.mem_cons.mp h with rfl | h
      · exact w11
      rcases List.mem_cons.mp h with rfl | h
      · exact w7
      · cases h
    · rcases List.mem_cons.mp h with rfl | h
      · exact w12
      · exact h)) rfl rfl rfl (by decide +kernel) ⟨by show 1 + 1 ≤ R.frames; omega, by show 8 + (1 + 11) + 20 ≤ R.locals; omega⟩) ⟨xBlindS, ⟨cl, o1, o2, o3⟩, fun U hU hW => ⟨rfl, xSg_moved hW.alike (fun a h1 h2 => by rw [hU]; exact hS.2.1 a h1 h2) (fun _ h => h) hv⟩⟩ rfl rfl hls rfl (lv_room hrest) hd2 ⟨by omega, by omega⟩) kk
end XSTR

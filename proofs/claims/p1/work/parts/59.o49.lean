noncomputable def k18418 : xCon := (([(zi (Int.negSucc 2147483647) (Int.negSucc 0)), z0, (zi (Int.negSucc 0) (Int.negSucc 0))], [], 1), (some z0, [], 1), (0, 0, 0, 0), [])
theorem h18418 : xHolds xM_X12_in k18418 := xMeet2 (cons := []) 7 xK_X12_in xC0 (by decide +kernel)
noncomputable def k18419 : xCon := (([(zi (Int.ofNat 0) (Int.ofNat 2147483647)), z0, (zi (Int.negSucc 0) (Int.negSucc 0))], [], 1), (some z0, [], 1), (0, 0, 0, 0), [])
theorem h18419 : xHolds xM_X12_in k18419 := xMeet2 (cons := []) 10 xK_X12_in xC0 (by decide +kernel)
noncomputable def k18420 : xCon := (([zT, z0, (zi (Int.negSucc 0) (Int.negSucc 0))], [], 1), (some z0, [], 1), (0, 0, 0, 0), [])
theorem h18420 : xHolds xM_X12_in k18420 := xSplit (as1 := []) (as2 := [z0, (zi (Int.negSucc 0) (Int.negSucc 0))]) (Int.negSucc 2147483647) (Int.negSucc 0) (Int.ofNat 2147483647) h18418 h18419
noncomputable def w304 : xE := .inl (12, [(zr 96), (zi (Int.ofNat 1) (Int.ofNat 1)), (zi (Int.ofNat 1) (Int.ofNat 1)), (zr 97), z0, (zi (Int.negSucc 0) (Int.negSucc 0)), z0, (zr 98), z0, (zr 99), (zr 100), (zr 101), z0, (zr 102), z0, (zi (Int.ofNat 1) (Int.ofNat 1)), zn, z0, z0, z0, z0, (zr 103), (zr 104), z0, z0, z0, z0, z0, (zr 105), (zr 106), (zr 107), z0, (zr 108), (zr 109), (zr 110), (zr 111), (zr 112), (zr 113), z0, (zr 114), (zr 115), (zr 116), (zr 117), (zr 118), (zr 119), z0, (zr 120), (zr 121), (zr 122), (zr 123)])
noncomputable def k18421 : xCon := (([(zr 95)], [(95, w71)], 124), (some z0, [(95, w304)], 124), (0, 0, 0, 0), [])
theorem h18421 : xHolds xM_X12_lost k18421 := xMeet2 (cons := []) 7 xK_X12_lost xC0 (by decide +kernel)
theorem xl_RX12_421 : xCok RX12 (421, 0, 0, xM_X12_lost, 12) := xCokB_ok (i := [2012, 109, 2009, 2011, 94]) (by decide +kernel)
noncomputable def k18422 : xCon := (([(zr 95), zT], [(95, w71)], 124), (some y0, [(95, w304)], 124), (1, 22, 0, 0), [])
theorem h18422 : xHolds xM_X12_row k18422 := xMeet2 (cons := [((131, 1, 3, 0, 3), k18420), ((421, 0, 0, 12, 1), k18421)]) 17 xK_X12_row (xCc xl_RX12_131 rfl h18420 (xCc xl_RX12_421 rfl h18421 xC0)) (by decide +kernel)
noncomputable def k18423 : xCon := (([(zr 95)], [(95, w304)], 124), (some (zi (Int.ofNat 1) (Int.ofNat 1)), [(95, w304)], 124), (0, 0, 0, 0), [])
theorem h18423 : xHolds xM_X12_thrown k18423 := xMeet2 (cons := []) 5 xK_X12_thrown xC0 (by decide +kernel)
theorem xl_RL_228 : xCok RL (228, 0, 0, xM_X12_thrown, 12) := xCokB_ok (i := [1548, 109, 1545, 1546, 1547]) (by decide +kernel)
theorem xl_RL_227 : xCok RL (227, 0, 1, xM_X12_row, 12) := xCokB_ok (i := [2008, 109, 2005, 2006, 2007]) (by decide +kernel)
noncomputable def fs49 : List xV := [(zr 2), (zr 4), (zr 10), (zr 17), (zr 34), (zr 35), (zr 37), (zr 38), (zr 42), (zr 46), (zr 51), (zr 56), (zr 60), z0]
theorem rw49a : xRwGo [(1, .inl (11, fs49))] 125 1 (Int.negSucc 2147483647, Int.negSucc 0) 2 = true := by decide +kernel
theorem rw49b : xRwGo [(1, .inl (11, fs49))] 125 1 (Int.ofNat 0, Int.ofNat 2147483647) 6 = true := by decide +kernel
theorem o49 : ∀ (p : Program) (l : Launch) (hls : l.stackTraces = false) (e : Env) (s : State) (m : MethodId) (below : List Frame) (meth : Method) (c : Code) (b : Nat) (xs : Nat → Int32) (C0 : lw_At p s m meth c b 6 xs) (hop : (xs 0 &&& 63).toInt = 49), W p l e room_1 s m #[Value.ref b] below meth c s.heap [] 0 0 (lw_Z below #[Value.ref b] s) (entryFrame m ([Value.ref b] : List Value).toArray 8) := xBr49 (cons := [((15, 2, 0, 0, 2), k59), ((18, 2, 0, 0, 1), k60), ((227, 0, 1, 12, 2), k18422), ((228, 0, 0, 12, 1), k18423)]) (kx := 1) (ko := 124) (N := 125) (fs := fs49) 32 28 2 6 xK_law (xCc xl_RL_15 rfl h59 (xCc xl_RL_18 rfl h60 (xCc xl_RL_227 rfl h18422 (xCc xl_RL_228 rfl h18423 xC0)))) rw49a rw49b (by decide +kernel)

/-! the words: those of lw_tbl that stay; the classes of the worlds -/
def xBig : List Cond := lw_tbl.filter goodWord
def xHas (i : Nat) (w : Cond) : Bool := decide (lw_tbl[i]? = some w) && goodWord w
theorem xHas_ok {i : Nat} {w : Cond} (h : xHas i w = true) : w ∈ xBig := by
  simp only [xHas, Bool.and_eq_true, decide_eq_true_eq] at h
  exact List.mem_filter.mpr ⟨List.mem_of_getElem? h.1, h.2⟩
def xHasL : List Nat → List Cond → Bool
  | i :: is, w :: ws => xHas i w && xHasL is ws
  | _, [] => true
  | [], _ :: _ => false
theorem xHasL_ok : ∀ {is : List Nat} {ws : List Cond}, xHasL is ws = true → ∀ w ∈ ws, w ∈ xBig
  | _, [], _, w, h => by cases h
  | [], _ :: _, h, _, _ => by simp [xHasL] at h
  | i :: is, v :: ws, h, w, hw => by
    simp only [xHasL, Bool.and_eq_true] at h
    rcases List.mem_cons.mp hw with rfl | hw
    · exact xHas_ok h.1
    · exact xHasL_ok h.2 w hw
theorem xin0 : xHasL [355, 357, 359, 361, 363, 365] (u_ws RX0 TX0 6) = true := by decide +kernel
theorem xin1 : xHasL [494, 496, 498, 500, 502, 504, 506] (u_ws RX1 TX1 7) = true := by decide +kernel
theorem xin2 : xHasL [466, 468, 470, 472, 474, 476, 478] (u_ws RX2 TX2 7) = true := by decide +kernel
theorem xin3 : xHasL [302, 304] (u_ws RX3 TX3 2) = true := by decide +kernel
theorem xin4 : xHasL [434, 436, 438, 440, 442, 444, 446, 448] (u_ws RX4 TX4 8) = true := by decide +kernel
theorem xin5 : xHasL [259, 261, 263, 265, 267, 269, 271, 273, 275, 277, 279, 281] (u_ws RX5 TX5 12) = true := by decide +kernel
theorem xin6 : xHasL [382, 384, 386] (u_ws RX6 TX6 3) = true := by decide +kernel
theorem xin7 : xHasL [144, 146] (u_ws RX7 TX7 2) = true := by decide +kernel
theorem xin8 : xHasL [223, 225, 227, 229, 231, 233, 235, 237] (u_ws RX8 TX8 8) = true := by decide +kernel
theorem xin9 : xHasL [329, 331, 333, 335, 337, 339] (u_ws RX9 TX9 6) = true := by decide +kernel
theorem xin10 : xHasL [405, 407, 409, 411, 413, 415] (u_ws RX10 TX10 6) = true := by decide +kernel
theorem xin11 : xHasL [523, 525, 527, 529, 531, 533, 535, 537, 539, 541, 543, 545, 547, 549] (u_ws RX11 TX11 14) = true := by decide +kernel
theorem xin12 : xHasL [1444, 1446, 1448, 1450, 1452, 1454, 1456, 1458, 1460, 1462, 1464, 1466, 1468, 1470, 1472, 1474, 1476, 1478, 1480, 1482, 1484, 1486, 1488, 1490, 1492, 1494, 1496, 1498, 1500, 1502, 1504, 1506, 1508, 1510, 1512, 1514, 1516, 1518, 1520, 1522, 1524, 1526, 1528, 1530, 1532, 1534, 1536, 1538, 1540, 1542] (u_ws RX12 TX12 50) = true := by decide +kernel
def xDt : Nat → List Nat
  | 0 => [3, 3, 3, 0, 0, 1]
  | 1 => [3, 3, 3, 3, 3, 3, 3]
  | 2 => [3, 3, 3, 3, 3, 3, 0]
  | 3 => [3, 0]
  | 4 => [3, 3, 3, 3, 3, 3, 3, 0]
  | 5 => [3, 3, 3, 3, 3, 3, 0, 0, 0, 0, 0, 1]
  | 6 => [3, 3, 3]
  | 7 => [3, 0]
  | 8 => [3, 3, 3, 3, 3, 2, 0, 0]
  | 9 => [3, 3, 0, 0, 0, 1]
  | 10 => [3, 3, 3, 3, 3, 0]
  | 11 => [3, 3, 3, 3, 3, 3, 3, 3, 3, 3, 3, 3, 3, 0]
  | _ => [3, 0, 0, 3, 0, 0, 0, 3, 0, 3, 3, 3, 0, 3, 0, 0, 3, 0, 0, 0, 0, 3, 3, 0, 1, 0, 0, 0, 3, 3, 3, 1, 3, 3, 3, 3, 3, 3, 0, 3, 3, 3, 3, 3, 3, 0, 3, 3, 3, 3]
def xDv : Nat → Value
  | 2 => .long 0
  | 3 => .null
  | _ => .int 0
def xDa : Nat → xV
  | 2 => .inr (.inl (Int.ofNat 0, Int.ofNat 0))
  | 3 => .inr (.inr (.inl none))
  | _ => .inl (Int.ofNat 0, Int.ofNat 0)
theorem xDa_ok (η : Nat → Int32) (ad : Nat → Nat) (N : Nat) : ∀ t : Nat, xOk η ad N (xDa t) (xDv t)
  | 2 => ⟨0, rfl, Int.le_refl _, Int.le_refl _⟩
  | 3 => rfl
  | 0 => ⟨0, rfl, Int.le_refl _, Int.le_refl _⟩
  | 1 => ⟨0, rfl, Int.le_refl _, Int.le_refl _⟩
  | _ + 4 => ⟨0, rfl, Int.le_refl _, Int.le_refl _⟩
theorem xDa_all (η : Nat → Int32) (ad : Nat → Nat) (N : Nat) : ∀ ts : List Nat, xAll (xOk η ad N) (ts.map xDa) (ts.map xDv)
  | [] => trivial
  | t :: ts => ⟨xDa_ok η ad N t, xDa_all η ad N ts⟩
theorem xdf0 : ∀ j, j < 6 → defaultValue (tyX0 j) = vp_V ((xDt 0).map xDv) j := by decide +kernel
theorem xdf1 : ∀ j, j < 7 → defaultValue (tyX1 j) = vp_V ((xDt 1).map xDv) j := by decide +kernel
theorem xdf2 : ∀ j, j < 7 → defaultValue (tyX2 j) = vp_V ((xDt 2).map xDv) j := by decide +kernel
theorem xdf3 : ∀ j, j < 2 → defaultValue (tyX3 j) = vp_V ((xDt 3).map xDv) j := by decide +kernel
theorem xdf4 : ∀ j, j < 8 → defaultValue (tyX4 j) = vp_V ((xDt 4).map xDv) j := by decide +kernel
theorem xdf5 : ∀ j, j < 12 → defaultValue (tyX5 j) = vp_V ((xDt 5).map xDv) j := by decide +kernel
theorem xdf6 : ∀ j, j < 3 → defaultValue (tyX6 j) = vp_V ((xDt 6).map xDv) j := by decide +kernel
theorem xdf7 : ∀ j, j < 2 → defaultValue (tyX7 j) = vp_V ((xDt 7).map xDv) j := by decide +kernel
theorem xdf8 : ∀ j, j < 8 → defaultValue (tyX8 j) = vp_V ((xDt 8).map xDv) j := by decide +kernel
theorem xdf9 : ∀ j, j < 6 → defaultValue (tyX9 j) = vp_V ((xDt 9).map xDv) j := by decide +kernel
theorem xdf10 : ∀ j, j < 6 → defaultValue (tyX10 j) = vp_V ((xDt 10).map xDv) j := by decide +kernel
theorem xdf11 : ∀ j, j < 14 → defaultValue (tyX11 j) = vp_V ((xDt 11).map xDv) j := by decide +kernel
theorem xdf12 : ∀ j, j < 50 → defaultValue (tyX12 j) = vp_V ((xDt 12).map xDv) j := by decide +kernel
/-- what is known of each class of the worlds -/
theorem xCls : ∀ {ci : Nat} {q : vw_C}, vwCl[ci]? = some q → (∀ w ∈ u_ws q.1 q.2.1 q.2.2, w ∈ xBig) ∧ ∃ ty0 : Nat → FieldType, (∀ k, k < q.2.2 → parseFieldDescriptor (q.2.1 k).2.2.1 = some (ty0 k)) ∧ (∀ a, a < q.2.2 → ∀ b, b < q.2.2 → a ≠ b → (q.2.1 a).2.1 ≠ (q.2.1 b).2.1) ∧ ∀ j, j < q.2.2 → defaultValue (ty0 j) = vp_V ((xDt ci).map xDv) j
  | 0, _, h => by cases h; exact ⟨xHasL_ok xin0, tyX0, tyX0_ok, nmX0, xdf0⟩
  | 1, _, h => by cases h; exact ⟨xHasL_ok xin1, tyX1, tyX1_ok, nmX1, xdf1⟩
  | 2, _, h => by cases h; exact ⟨xHasL_ok xin2, tyX2, tyX2_ok, nmX2, xdf2⟩
  | 3, _, h => by cases h; exact ⟨xHasL_ok xin3, tyX3, tyX3_ok, nmX3, xdf3⟩
  | 4, _, h => by cases h; exact ⟨xHasL_ok xin4, tyX4, tyX4_ok, nmX4, xdf4⟩
  | 5, _, h => by cases h; exact ⟨xHasL_ok xin5, tyX5, tyX5_ok, nmX5, xdf5⟩
  | 6, _, h => by cases h; exact ⟨xHasL_ok xin6, tyX6, tyX6_ok, nmX6, xdf6⟩
  | 7, _, h => by cases h; exact ⟨xHasL_ok xin7, tyX7, tyX7_ok, nmX7, xdf7⟩
  | 8, _, h => by cases h; exact ⟨xHasL_ok xin8, tyX8, tyX8_ok, nmX8, xdf8⟩
  | 9, _, h => by cases h; exact ⟨xHasL_ok xin9, tyX9, tyX9_ok, nmX9, xdf9⟩
  | 10, _, h => by cases h; exact ⟨xHasL_ok xin10, tyX10, tyX10_ok, nmX10, xdf10⟩
  | 11, _, h => by cases h; exact ⟨xHasL_ok xin11, tyX11, tyX11_ok, nmX11, xdf11⟩
  | 12, _, h => by cases h; exact ⟨xHasL_ok xin12, tyX12, tyX12_ok, nmX12, xdf12⟩
  | _ + 13, _, h => by cases h
def xNest : List (String × Nat × MethodName × String) := [("FinedBySight", 9, ⟨"FinedBySight$Text", "<init>", "()V"⟩, "FinedBySight"), ("FinedBySight$Town", 58, ⟨"FinedBySight", "bit", "(I)J"⟩, "FinedBySight"), ("FinedBySight$Town", 65, ⟨"FinedBySight", "has", "(JI)Z"⟩, "FinedBySight"), ("FinedBySight$Affairs", 23, ⟨"FinedBySight$Fog", "<init>", "()V"⟩, "FinedBySight"), ("FinedBySight$Affairs", 28, ⟨"FinedBySight$Walk", "<init>", "()V"⟩, "FinedBySight"), ("FinedBySight", 43, ⟨"FinedBySight$Fog", "<init>", "()V"⟩, "FinedBySight"), ("FinedBySight$Sight", 53, ⟨"FinedBySight", "has", "(JI)Z"⟩, "FinedBySight"), ("FinedBySight$Ways", 63, ⟨"FinedBySight", "has", "(JI)Z"⟩, "FinedBySight"), ("FinedBySight$Ways", 70, ⟨"FinedBySight", "bit", "(I)J"⟩, "FinedBySight"), ("FinedBySight$Prices", 48, ⟨"FinedBySight", "bit", "(I)J"⟩, "FinedBySight"), ("FinedBySight$Prices", 78, ⟨"FinedBySight", "has", "(JI)Z"⟩, "FinedBySight"), ("FinedBySight$Errand", 37, ⟨"FinedBySight", "bit", "(I)J"⟩, "FinedBySight"), ("FinedBySight$Errand", 45, ⟨"FinedBySight", "has", "(JI)Z"⟩, "FinedBySight")]
def xTys (cy : Nat → ClassId) : List (ClassId × FieldType) := [(cy 0, .byte), (cy 1, .int), (cy 2, .long), (cy 3, .boolean), (cy 4, .object RX0), (cy 5, .object RX9)]
def xKK (D : va_G) (cy : Nat → ClassId) (U : State) : Prop := va_K D vwCl (xTys cy) U ∧ va_AO RX0 U ∧ va_AO RX9 U ∧ ∀ q ∈ xNest, va_Nw (.methodLinkNest q.1 q.2.1 q.2.2.1 q.2.2.2) U
theorem xKK_warm {D : va_G} {cy : Nat → ClassId} {s U : State} (hW : s.WarmedH U.vm) (h : xKK D cy s) : xKK D cy U :=
  ⟨va_K.moved hW.alike h.1, va_AO.moved hW.alike h.2.1, va_AO.moved hW.alike h.2.2.1, fun q hq => va_Nw.warmM hW (h.2.2.2 q hq)⟩
theorem xKK_calling {D : va_G} {cy : Nat → ClassId} {U : State} {g : JFrame} {mk : MethodId} {a : Array Value} (h : xKK D cy U) : xKK D cy (U.calling g mk a) :=
  ⟨va_K.moved (u := U) (U := U.calling g mk a) (Vm.Alike.refl U.vm) h.1, va_AO.moved (u := U) (U := U.calling g mk a) (Vm.Alike.refl U.vm) h.2.1, va_AO.moved (u := U) (U := U.calling g mk a) (Vm.Alike.refl U.vm) h.2.2.1, fun q hq => va_Nw.same (u := U) (U := U.calling g mk a) rfl rfl (h.2.2.2 q hq)⟩

/-! its cases, its links -/
noncomputable def zcs51 : List zeEn := zcc51
noncomputable def zcs50 : List zeEn := zcc50 ++ zcs51
noncomputable def zcs49 : List zeEn := zcc49 ++ zcs50
noncomputable def zcs48 : List zeEn := zcc48 ++ zcs49
noncomputable def zcs47 : List zeEn := zcc47 ++ zcs48
noncomputable def zcs46 : List zeEn := zcc46 ++ zcs47
noncomputable def zcs45 : List zeEn := zcc45 ++ zcs46
noncomputable def zcs44 : List zeEn := zcc44 ++ zcs45
noncomputable def zcs43 : List zeEn := zcc43 ++ zcs44
noncomputable def zcs42 : List zeEn := zcc42 ++ zcs43
noncomputable def zcs41 : List zeEn := zcc41 ++ zcs42
noncomputable def zcs40 : List zeEn := zcc40 ++ zcs41
noncomputable def zcs39 : List zeEn := zcc39 ++ zcs40
noncomputable def zcs38 : List zeEn := zcc38 ++ zcs39
noncomputable def zcs37 : List zeEn := zcc37 ++ zcs38
noncomputable def zcs36 : List zeEn := zcc36 ++ zcs37
noncomputable def zcs35 : List zeEn := zcc35 ++ zcs36
noncomputable def zcs34 : List zeEn := zcc34 ++ zcs35
noncomputable def zcs33 : List zeEn := zcc33 ++ zcs34
noncomputable def zcs32 : List zeEn := zcc32 ++ zcs33
noncomputable def zcs31 : List zeEn := zcc31 ++ zcs32
noncomputable def zcs30 : List zeEn := zcc30 ++ zcs31
noncomputable def zcs29 : List zeEn := zcc29 ++ zcs30
noncomputable def zcs28 : List zeEn := zcc28 ++ zcs29
noncomputable def zcs27 : List zeEn := zcc27 ++ zcs28
noncomputable def zcs26 : List zeEn := zcc26 ++ zcs27
noncomputable def zcs25 : List zeEn := zcc25 ++ zcs26
noncomputable def zcs24 : List zeEn := zcc24 ++ zcs25
noncomputable def zcs23 : List zeEn := zcc23 ++ zcs24
noncomputable def zcs22 : List zeEn := zcc22 ++ zcs23
noncomputable def zcs21 : List zeEn := zcc21 ++ zcs22
noncomputable def zcs20 : List zeEn := zcc20 ++ zcs21
noncomputable def zcs19 : List zeEn := zcc19 ++ zcs20
noncomputable def zcs18 : List zeEn := zcc18 ++ zcs19
noncomputable def zcs17 : List zeEn := zcc17 ++ zcs18
noncomputable def zcs16 : List zeEn := zcc16 ++ zcs17
noncomputable def zcs15 : List zeEn := zcc15 ++ zcs16
noncomputable def zcs14 : List zeEn := zcc14 ++ zcs15
noncomputable def zcs13 : List zeEn := zcc13 ++ zcs14
noncomputable def zcs12 : List zeEn := zcc12 ++ zcs13
noncomputable def zcs11 : List zeEn := zcc11 ++ zcs12
noncomputable def zcs10 : List zeEn := zcc10 ++ zcs11
noncomputable def zcs9 : List zeEn := zcc9 ++ zcs10
noncomputable def zcs8 : List zeEn := zcc8 ++ zcs9
noncomputable def zcs7 : List zeEn := zcc7 ++ zcs8
noncomputable def zcs6 : List zeEn := zcc6 ++ zcs7
noncomputable def zcs5 : List zeEn := zcc5 ++ zcs6
noncomputable def zcs4 : List zeEn := zcc4 ++ zcs5
noncomputable def zcs3 : List zeEn := zcc3 ++ zcs4
noncomputable def zcs2 : List zeEn := zcc2 ++ zcs3
noncomputable def zcs1 : List zeEn := zcc1 ++ zcs2
noncomputable def zcs0 : List zeEn := zcc0 ++ zcs1
theorem zcb : zeTb xI_lw 8 xI_lw.1 = some zcs0 ∧ zeCq zcs0 = true := ⟨zeTb_app (zeTb_app (zeTb_app (zeTb_app (zeTb_app (zeTb_app (zeTb_app (zeTb_app (zeTb_app (zeTb_app (zeTb_app (zeTb_app (zeTb_app (zeTb_app (zeTb_app (zeTb_app (zeTb_app (zeTb_app (zeTb_app (zeTb_app (zeTb_app (zeTb_app (zeTb_app (zeTb_app (zeTb_app (zeTb_app (zeTb_app (zeTb_app (zeTb_app (zeTb_app (zeTb_app (zeTb_app (zeTb_app (zeTb_app (zeTb_app (zeTb_app (zeTb_app (zeTb_app (zeTb_app (zeTb_app (zeTb_app (zeTb_app (zeTb_app (zeTb_app (zeTb_app (zeTb_app (zeTb_app (zeTb_app (zeTb_app (zeTb_app (zeTb_app (zct51) zct50) zct49) zct48) zct47) zct46) zct45) zct44) zct43) zct42) zct41) zct40) zct39) zct38) zct37) zct36) zct35) zct34) zct33) zct32) zct31) zct30) zct29) zct28) zct27) zct26) zct25) zct24) zct23) zct22) zct21) zct20) zct19) zct18) zct17) zct16) zct15) zct14) zct13) zct12) zct11) zct10) zct9) zct8) zct7) zct6) zct5) zct4) zct3) zct2) zct1) zct0, by decide +kernel⟩
theorem zcn0 : ∀ t, 23 ≤ t → zeSk t zcs0 = zeSk t zcs0 := fun _ _ => rfl
theorem zcn1 : ∀ t, 256 ≤ t → zeSk t zcs0 = zeSk t zcs1 := fun t h => (zcn0 t (Nat.le_trans (by decide) h)).trans (zeSk_lt h zcl0)
theorem zcn2 : ∀ t, 281 ≤ t → zeSk t zcs0 = zeSk t zcs2 := fun t h => (zcn1 t (Nat.le_trans (by decide) h)).trans (zeSk_lt h zcl1)
theorem zcn3 : ∀ t, 306 ≤ t → zeSk t zcs0 = zeSk t zcs3 := fun t h => (zcn2 t (Nat.le_trans (by decide) h)).trans (zeSk_lt h zcl2)
theorem zcn4 : ∀ t, 319 ≤ t → zeSk t zcs0 = zeSk t zcs4 := fun t h => (zcn3 t (Nat.le_trans (by decide) h)).trans (zeSk_lt h zcl3)
theorem zcn5 : ∀ t, 332 ≤ t → zeSk t zcs0 = zeSk t zcs5 := fun t h => (zcn4 t (Nat.le_trans (by decide) h)).trans (zeSk_lt h zcl4)
theorem zcn6 : ∀ t, 345 ≤ t → zeSk t zcs0 = zeSk t zcs6 := fun t h => (zcn5 t (Nat.le_trans (by decide) h)).trans (zeSk_lt h zcl5)
theorem zcn7 : ∀ t, 370 ≤ t → zeSk t zcs0 = zeSk t zcs7 := fun t h => (zcn6 t (Nat.le_trans (by decide) h)).trans (zeSk_lt h zcl6)
theorem zcn8 : ∀ t, 407 ≤ t → zeSk t zcs0 = zeSk t zcs8 := fun t h => (zcn7 t (Nat.le_trans (by decide) h)).trans (zeSk_lt h zcl7)
theorem zcn9 : ∀ t, 432 ≤ t → zeSk t zcs0 = zeSk t zcs9 := fun t h => (zcn8 t (Nat.le_trans (by decide) h)).trans (zeSk_lt h zcl8)
theorem zcn10 : ∀ t, 457 ≤ t → zeSk t zcs0 = zeSk t zcs10 := fun t h => (zcn9 t (Nat.le_trans (by decide) h)).trans (zeSk_lt h zcl9)
theorem zcn11 : ∀ t, 518 ≤ t → zeSk t zcs0 = zeSk t zcs11 := fun t h => (zcn10 t (Nat.le_trans (by decide) h)).trans (zeSk_lt h zcl10)
theorem zcn12 : ∀ t, 555 ≤ t → zeSk t zcs0 = zeSk t zcs12 := fun t h => (zcn11 t (Nat.le_trans (by decide) h)).trans (zeSk_lt h zcl11)
theorem zcn13 : ∀ t, 568 ≤ t → zeSk t zcs0 = zeSk t zcs13 := fun t h => (zcn12 t (Nat.le_trans (by decide) h)).trans (zeSk_lt h zcl12)
theorem zcn14 : ∀ t, 593 ≤ t → zeSk t zcs0 = zeSk t zcs14 := fun t h => (zcn13 t (Nat.le_trans (by decide) h)).trans (zeSk_lt h zcl13)
theorem zcn15 : ∀ t, 642 ≤ t → zeSk t zcs0 = zeSk t zcs15 := fun t h => (zcn14 t (Nat.le_trans (by decide) h)).trans (zeSk_lt h zcl14)
theorem zcn16 : ∀ t, 691 ≤ t → zeSk t zcs0 = zeSk t zcs16 := fun t h => (zcn15 t (Nat.le_trans (by decide) h)).trans (zeSk_lt h zcl15)
theorem zcn17 : ∀ t, 740 ≤ t → zeSk t zcs0 = zeSk t zcs17 := fun t h => (zcn16 t (Nat.le_trans (by decide) h)).trans (zeSk_lt h zcl16)
theorem zcn18 : ∀ t, 777 ≤ t → zeSk t zcs0 = zeSk t zcs18 := fun t h => (zcn17 t (Nat.le_trans (by decide) h)).trans (zeSk_lt h zcl17)
theorem zcn19 : ∀ t, 814 ≤ t → zeSk t zcs0 = zeSk t zcs19 := fun t h => (zcn18 t (Nat.le_trans (by decide) h)).trans (zeSk_lt h zcl18)
theorem zcn20 : ∀ t, 863 ≤ t → zeSk t zcs0 = zeSk t zcs20 := fun t h => (zcn19 t (Nat.le_trans (by decide) h)).trans (zeSk_lt h zcl19)
theorem zcn21 : ∀ t, 924 ≤ t → zeSk t zcs0 = zeSk t zcs21 := fun t h => (zcn20 t (Nat.le_trans (by decide) h)).trans (zeSk_lt h zcl20)
theorem zcn22 : ∀ t, 949 ≤ t → zeSk t zcs0 = zeSk t zcs22 := fun t h => (zcn21 t (Nat.le_trans (by decide) h)).trans (zeSk_lt h zcl21)
theorem zcn23 : ∀ t, 986 ≤ t → zeSk t zcs0 = zeSk t zcs23 := fun t h => (zcn22 t (Nat.le_trans (by decide) h)).trans (zeSk_lt h zcl22)
theorem zcn24 : ∀ t, 1011 ≤ t → zeSk t zcs0 = zeSk t zcs24 := fun t h => (zcn23 t (Nat.le_trans (by decide) h)).trans (zeSk_lt h zcl23)
theorem zcn25 : ∀ t, 1036 ≤ t → zeSk t zcs0 = zeSk t zcs25 := fun t h => (zcn24 t (Nat.le_trans (by decide) h)).trans (zeSk_lt h zcl24)
theorem zcn26 : ∀ t, 1061 ≤ t → zeSk t zcs0 = zeSk t zcs26 := fun t h => (zcn25 t (Nat.le_trans (by decide) h)).trans (zeSk_lt h zcl25)
theorem zcn27 : ∀ t, 1134 ≤ t → zeSk t zcs0 = zeSk t zcs27 := fun t h => (zcn26 t (Nat.le_trans (by decide) h)).trans (zeSk_lt h zcl26)
theorem zcn28 : ∀ t, 1183 ≤ t → zeSk t zcs0 = zeSk t zcs28 := fun t h => (zcn27 t (Nat.le_trans (by decide) h)).trans (zeSk_lt h zcl27)
theorem zcn29 : ∀ t, 1220 ≤ t → zeSk t zcs0 = zeSk t zcs29 := fun t h => (zcn28 t (Nat.le_trans (by decide) h)).trans (zeSk_lt h zcl28)
theorem zcn30 : ∀ t, 1257 ≤ t → zeSk t zcs0 = zeSk t zcs30 := fun t h => (zcn29 t (Nat.le_trans (by decide) h)).trans (zeSk_lt h zcl29)
theorem zcn31 : ∀ t, 1270 ≤ t → zeSk t zcs0 = zeSk t zcs31 := fun t h => (zcn30 t (Nat.le_trans (by decide) h)).trans (zeSk_lt h zcl30)
theorem zcn32 : ∀ t, 1295 ≤ t → zeSk t zcs0 = zeSk t zcs32 := fun t h => (zcn31 t (Nat.le_trans (by decide) h)).trans (zeSk_lt h zcl31)
theorem zcn33 : ∀ t, 1320 ≤ t → zeSk t zcs0 = zeSk t zcs33 := fun t h => (zcn32 t (Nat.le_trans (by decide) h)).trans (zeSk_lt h zcl32)
theorem zcn34 : ∀ t, 1357 ≤ t → zeSk t zcs0 = zeSk t zcs34 := fun t h => (zcn33 t (Nat.le_trans (by decide) h)).trans (zeSk_lt h zcl33)
theorem zcn35 : ∀ t, 1430 ≤ t → zeSk t zcs0 = zeSk t zcs35 := fun t h => (zcn34 t (Nat.le_trans (by decide) h)).trans (zeSk_lt h zcl34)
theorem zcn36 : ∀ t, 1491 ≤ t → zeSk t zcs0 = zeSk t zcs36 := fun t h => (zcn35 t (Nat.le_trans (by decide) h)).trans (zeSk_lt h zcl35)
theorem zcn37 : ∀ t, 1564 ≤ t → zeSk t zcs0 = zeSk t zcs37 := fun t h => (zcn36 t (Nat.le_trans (by decide) h)).trans (zeSk_lt h zcl36)
theorem zcn38 : ∀ t, 1625 ≤ t → zeSk t zcs0 = zeSk t zcs38 := fun t h => (zcn37 t (Nat.le_trans (by decide) h)).trans (zeSk_lt h zcl37)
theorem zcn39 : ∀ t, 1698 ≤ t → zeSk t zcs0 = zeSk t zcs39 := fun t h => (zcn38 t (Nat.le_trans (by decide) h)).trans (zeSk_lt h zcl38)
theorem zcn40 : ∀ t, 1747 ≤ t → zeSk t zcs0 = zeSk t zcs40 := fun t h => (zcn39 t (Nat.le_trans (by decide) h)).trans (zeSk_lt h zcl39)
theorem zcn41 : ∀ t, 1808 ≤ t → zeSk t zcs0 = zeSk t zcs41 := fun t h => (zcn40 t (Nat.le_trans (by decide) h)).trans (zeSk_lt h zcl40)
theorem zcn42 : ∀ t, 1881 ≤ t → zeSk t zcs0 = zeSk t zcs42 := fun t h => (zcn41 t (Nat.le_trans (by decide) h)).trans (zeSk_lt h zcl41)
theorem zcn43 : ∀ t, 1906 ≤ t → zeSk t zcs0 = zeSk t zcs43 := fun t h => (zcn42 t (Nat.le_trans (by decide) h)).trans (zeSk_lt h zcl42)
theorem zcn44 : ∀ t, 1979 ≤ t → zeSk t zcs0 = zeSk t zcs44 := fun t h => (zcn43 t (Nat.le_trans (by decide) h)).trans (zeSk_lt h zcl43)
theorem zcn45 : ∀ t, 2040 ≤ t → zeSk t zcs0 = zeSk t zcs45 := fun t h => (zcn44 t (Nat.le_trans (by decide) h)).trans (zeSk_lt h zcl44)
theorem zcn46 : ∀ t, 2113 ≤ t → zeSk t zcs0 = zeSk t zcs46 := fun t h => (zcn45 t (Nat.le_trans (by decide) h)).trans (zeSk_lt h zcl45)
theorem zcn47 : ∀ t, 2186 ≤ t → zeSk t zcs0 = zeSk t zcs47 := fun t h => (zcn46 t (Nat.le_trans (by decide) h)).trans (zeSk_lt h zcl46)
theorem zcn48 : ∀ t, 2211 ≤ t → zeSk t zcs0 = zeSk t zcs48 := fun t h => (zcn47 t (Nat.le_trans (by decide) h)).trans (zeSk_lt h zcl47)
theorem zcn49 : ∀ t, 2236 ≤ t → zeSk t zcs0 = zeSk t zcs49 := fun t h => (zcn48 t (Nat.le_trans (by decide) h)).trans (zeSk_lt h zcl48)
theorem zcn50 : ∀ t, 2261 ≤ t → zeSk t zcs0 = zeSk t zcs50 := fun t h => (zcn49 t (Nat.le_trans (by decide) h)).trans (zeSk_lt h zcl49)
theorem zcn51 : ∀ t, 2289 ≤ t → zeSk t zcs0 = zeSk t zcs51 := fun t h => (zcn50 t (Nat.le_trans (by decide) h)).trans (zeSk_lt h zcl50)
theorem zck0 : zeSk 23 zcs0 = zcs0 := by
  rw [zcn0 23 (Nat.le_refl _)]
  unfold zcs0 zcc0
  exact zeSk_hd rfl
theorem zck1 : zeSk 256 zcs0 = zcs1 := by
  rw [zcn1 256 (Nat.le_refl _)]
  unfold zcs1 zcc1
  exact zeSk_hd rfl
theorem zck2 : zeSk 281 zcs0 = zcs2 := by
  rw [zcn2 281 (Nat.le_refl _)]
  unfold zcs2 zcc2
  exact zeSk_hd rfl
theorem zck3 : zeSk 306 zcs0 = zcs3 := by
  rw [zcn3 306 (Nat.le_refl _)]
  unfold zcs3 zcc3
  exact zeSk_hd rfl
theorem zck4 : zeSk 319 zcs0 = zcs4 := by
  rw [zcn4 319 (Nat.le_refl _)]
  unfold zcs4 zcc4
  exact zeSk_hd rfl
theorem zck5 : zeSk 332 zcs0 = zcs5 := by
  rw [zcn5 332 (Nat.le_refl _)]
  unfold zcs5 zcc5
  exact zeSk_hd rfl
theorem zck6 : zeSk 345 zcs0 = zcs6 := by
  rw [zcn6 345 (Nat.le_refl _)]
  unfold zcs6 zcc6
  exact zeSk_hd rfl
theorem zck7 : zeSk 370 zcs0 = zcs7 := by
  rw [zcn7 370 (Nat.le_refl _)]
  unfold zcs7 zcc7
  exact zeSk_hd rfl
theorem zck8 : zeSk 407 zcs0 = zcs8 := by
  rw [zcn8 407 (Nat.le_refl _)]
  unfold zcs8 zcc8
  exact zeSk_hd rfl
theorem zck9 : zeSk 432 zcs0 = zcs9 := by
  rw [zcn9 432 (Nat.le_refl _)]
  unfold zcs9 zcc9
  exact zeSk_hd rfl
theorem zck10 : zeSk 457 zcs0 = zcs10 := by
  rw [zcn10 457 (Nat.le_refl _)]
  unfold zcs10 zcc10
  exact zeSk_hd rfl
theorem zck11 : zeSk 518 zcs0 = zcs11 := by
  rw [zcn11 518 (Nat.le_refl _)]
  unfold zcs11 zcc11
  exact zeSk_hd rfl
theorem zck12 : zeSk 555 zcs0 = zcs12 := by
  rw [zcn12 555 (Nat.le_refl _)]
  unfold zcs12 zcc12
  exact zeSk_hd rfl
theorem zck13 : zeSk 568 zcs0 = zcs13 := by
  rw [zcn13 568 (Nat.le_refl _)]
  unfold zcs13 zcc13
  exact zeSk_hd rfl
theorem zck14 : zeSk 593 zcs0 = zcs14 := by
  rw [zcn14 593 (Nat.le_refl _)]
  unfold zcs14 zcc14
  exact zeSk_hd rfl
theorem zck15 : zeSk 642 zcs0 = zcs15 := by
  rw [zcn15 642 (Nat.le_refl _)]
  unfold zcs15 zcc15
  exact zeSk_hd rfl
theorem zck16 : zeSk 691 zcs0 = zcs16 := by
  rw [zcn16 691 (Nat.le_refl _)]
  unfold zcs16 zcc16
  exact zeSk_hd rfl
theorem zck17 : zeSk 740 zcs0 = zcs17 := by
  rw [zcn17 740 (Nat.le_refl _)]
  unfold zcs17 zcc17
  exact zeSk_hd rfl
theorem zck18 : zeSk 777 zcs0 = zcs18 := by
  rw [zcn18 777 (Nat.le_refl _)]
  unfold zcs18 zcc18
  exact zeSk_hd rfl
theorem zck19 : zeSk 814 zcs0 = zcs19 := by
  rw [zcn19 814 (Nat.le_refl _)]
  unfold zcs19 zcc19
  exact zeSk_hd rfl
theorem zck20 : zeSk 863 zcs0 = zcs20 := by
  rw [zcn20 863 (Nat.le_refl _)]
  unfold zcs20 zcc20
  exact zeSk_hd rfl
theorem zck21 : zeSk 924 zcs0 = zcs21 := by
  rw [zcn21 924 (Nat.le_refl _)]
  unfold zcs21 zcc21
  exact zeSk_hd rfl
theorem zck22 : zeSk 949 zcs0 = zcs22 := by
  rw [zcn22 949 (Nat.le_refl _)]
  unfold zcs22 zcc22
  exact zeSk_hd rfl
theorem zck23 : zeSk 986 zcs0 = zcs23 := by
  rw [zcn23 986 (Nat.le_refl _)]
  unfold zcs23 zcc23
  exact zeSk_hd rfl
theorem zck24 : zeSk 1011 zcs0 = zcs24 := by
  rw [zcn24 1011 (Nat.le_refl _)]
  unfold zcs24 zcc24
  exact zeSk_hd rfl
theorem zck25 : zeSk 1036 zcs0 = zcs25 := by
  rw [zcn25 1036 (Nat.le_refl _)]
  unfold zcs25 zcc25
  exact zeSk_hd rfl
theorem zck26 : zeSk 1061 zcs0 = zcs26 := by
  rw [zcn26 1061 (Nat.le_refl _)]
  unfold zcs26 zcc26
  exact zeSk_hd rfl
theorem zck27 : zeSk 1134 zcs0 = zcs27 := by
  rw [zcn27 1134 (Nat.le_refl _)]
  unfold zcs27 zcc27
  exact zeSk_hd rfl
theorem zck28 : zeSk 1183 zcs0 = zcs28 := by
  rw [zcn28 1183 (Nat.le_refl _)]
  unfold zcs28 zcc28
  exact zeSk_hd rfl
theorem zck29 : zeSk 1220 zcs0 = zcs29 := by
  rw [zcn29 1220 (Nat.le_refl _)]
  unfold zcs29 zcc29
  exact zeSk_hd rfl
theorem zck30 : zeSk 1257 zcs0 = zcs30 := by
  rw [zcn30 1257 (Nat.le_refl _)]
  unfold zcs30 zcc30
  exact zeSk_hd rfl
theorem zck31 : zeSk 1270 zcs0 = zcs31 := by
  rw [zcn31 1270 (Nat.le_refl _)]
  unfold zcs31 zcc31
  exact zeSk_hd rfl
theorem zck32 : zeSk 1295 zcs0 = zcs32 := by
  rw [zcn32 1295 (Nat.le_refl _)]
  unfold zcs32 zcc32
  exact zeSk_hd rfl
theorem zck33 : zeSk 1320 zcs0 = zcs33 := by
  rw [zcn33 1320 (Nat.le_refl _)]
  unfold zcs33 zcc33
  exact zeSk_hd rfl
theorem zck34 : zeSk 1357 zcs0 = zcs34 := by
  rw [zcn34 1357 (Nat.le_refl _)]
  unfold zcs34 zcc34
  exact zeSk_hd rfl
theorem zck35 : zeSk 1430 zcs0 = zcs35 := by
  rw [zcn35 1430 (Nat.le_refl _)]
  unfold zcs35 zcc35
  exact zeSk_hd rfl
theorem zck36 : zeSk 1491 zcs0 = zcs36 := by
  rw [zcn36 1491 (Nat.le_refl _)]
  unfold zcs36 zcc36
  exact zeSk_hd rfl
theorem zck37 : zeSk 1564 zcs0 = zcs37 := by
  rw [zcn37 1564 (Nat.le_refl _)]
  unfold zcs37 zcc37
  exact zeSk_hd rfl
theorem zck38 : zeSk 1625 zcs0 = zcs38 := by
  rw [zcn38 1625 (Nat.le_refl _)]
  unfold zcs38 zcc38
  exact zeSk_hd rfl
theorem zck39 : zeSk 1698 zcs0 = zcs39 := by
  rw [zcn39 1698 (Nat.le_refl _)]
  unfold zcs39 zcc39
  exact zeSk_hd rfl
theorem zck40 : zeSk 1747 zcs0 = zcs40 := by
  rw [zcn40 1747 (Nat.le_refl _)]
  unfold zcs40 zcc40
  exact zeSk_hd rfl
theorem zck41 : zeSk 1808 zcs0 = zcs41 := by
  rw [zcn41 1808 (Nat.le_refl _)]
  unfold zcs41 zcc41
  exact zeSk_hd rfl
theorem zck42 : zeSk 1881 zcs0 = zcs42 := by
  rw [zcn42 1881 (Nat.le_refl _)]
  unfold zcs42 zcc42
  exact zeSk_hd rfl
theorem zck43 : zeSk 1906 zcs0 = zcs43 := by
  rw [zcn43 1906 (Nat.le_refl _)]
  unfold zcs43 zcc43
  exact zeSk_hd rfl
theorem zck44 : zeSk 1979 zcs0 = zcs44 := by
  rw [zcn44 1979 (Nat.le_refl _)]
  unfold zcs44 zcc44
  exact zeSk_hd rfl
theorem zck45 : zeSk 2040 zcs0 = zcs45 := by
  rw [zcn45 2040 (Nat.le_refl _)]
  unfold zcs45 zcc45
  exact zeSk_hd rfl
theorem zck46 : zeSk 2113 zcs0 = zcs46 := by
  rw [zcn46 2113 (Nat.le_refl _)]
  unfold zcs46 zcc46
  exact zeSk_hd rfl
theorem zck47 : zeSk 2186 zcs0 = zcs47 := by
  rw [zcn47 2186 (Nat.le_refl _)]
  unfold zcs47 zcc47
  exact zeSk_hd rfl
theorem zck48 : zeSk 2211 zcs0 = zcs48 := by
  rw [zcn48 2211 (Nat.le_refl _)]
  unfold zcs48 zcc48
  exact zeSk_hd rfl
theorem zck49 : zeSk 2236 zcs0 = zcs49 := by
  rw [zcn49 2236 (Nat.le_refl _)]
  unfold zcs49 zcc49
  exact zeSk_hd rfl
theorem zck50 : zeSk 2261 zcs0 = zcs50 := by
  rw [zcn50 2261 (Nat.le_refl _)]
  unfold zcs50 zcc50
  exact zeSk_hd rfl
theorem zck51 : zeSk 2289 zcs0 = zcs51 := by
  rw [zcn51 2289 (Nat.le_refl _)]
  unfold zcs51 zcc51
  exact zeSk_hd rfl

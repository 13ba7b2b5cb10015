theorem zct_0 : zCT 0 RX0 TX0 3 tyX0 := ⟨by decide, rfl, rfl, fun w hw => ⟨zinX0 w hw, (by decide +kernel : ∀ w ∈ wsX00, tbw w = true) w hw⟩, tyX0_ok, nmX0, by decide +kernel, by decide⟩
theorem zct_1 : zCT 1 RX1 TX1 5 tyX1 := ⟨by decide, rfl, rfl, fun w hw => ⟨zinX1 w hw, (by decide +kernel : ∀ w ∈ wsX10, tbw w = true) w hw⟩, tyX1_ok, nmX1, by decide +kernel, by decide⟩
theorem zct_2 : zCT 2 RX2 TX2 3 tyX2 := ⟨by decide, rfl, rfl, fun w hw => ⟨zinX2 w hw, (by decide +kernel : ∀ w ∈ wsX20, tbw w = true) w hw⟩, tyX2_ok, nmX2, by decide +kernel, by decide⟩
theorem zct_3 : zCT 3 RX3 TX3 9 tyX3 := ⟨by decide, rfl, rfl, fun w hw => ⟨zinX3 w hw, (by decide +kernel : ∀ w ∈ wsX30, tbw w = true) w hw⟩, tyX3_ok, nmX3, by decide +kernel, by decide⟩
theorem zct_4 : zCT 4 RX4 TX4 3 tyX4 := ⟨by decide, rfl, rfl, fun w hw => ⟨zinX4 w hw, (by decide +kernel : ∀ w ∈ wsX40, tbw w = true) w hw⟩, tyX4_ok, nmX4, by decide +kernel, by decide⟩
theorem zct_5 : zCT 5 RX5 TX5 3 tyX5 := ⟨by decide, rfl, rfl, fun w hw => ⟨zinX5 w hw, (by decide +kernel : ∀ w ∈ wsX50, tbw w = true) w hw⟩, tyX5_ok, nmX5, by decide +kernel, by decide⟩
theorem zct_6 : zCT 6 RX6 TX6 11 tyX6 := ⟨by decide, rfl, rfl, fun w hw => ⟨zinX6 w hw, (by decide +kernel : ∀ w ∈ wsX60, tbw w = true) w hw⟩, tyX6_ok, nmX6, by decide +kernel, by decide⟩
theorem zct_7 : zCT 7 RX7 TX7 3 tyX7 := ⟨by decide, rfl, rfl, fun w hw => ⟨zinX7 w hw, (by decide +kernel : ∀ w ∈ wsX70, tbw w = true) w hw⟩, tyX7_ok, nmX7, by decide +kernel, by decide⟩
theorem zct_8 : zCT 8 RX8 TX8 3 tyX8 := ⟨by decide, rfl, rfl, fun w hw => ⟨zinX8 w hw, (by decide +kernel : ∀ w ∈ wsX80, tbw w = true) w hw⟩, tyX8_ok, nmX8, by decide +kernel, by decide⟩
theorem zct_9 : zCT 9 RX9 TX9 8 tyX9 := ⟨by decide, rfl, rfl, fun w hw => ⟨zinX9 w hw, (by decide +kernel : ∀ w ∈ wsX90, tbw w = true) w hw⟩, tyX9_ok, nmX9, by decide +kernel, by decide⟩
theorem zct_10 : zCT 10 RX10 TX10 3 tyX10 := ⟨by decide, rfl, rfl, fun w hw => ⟨zinX10 w hw, (by decide +kernel : ∀ w ∈ wsX100, tbw w = true) w hw⟩, tyX10_ok, nmX10, by decide +kernel, by decide⟩
theorem zct_11 : zCT 11 RX11 TX11 2 tyX11 := ⟨by decide, rfl, rfl, fun w hw => ⟨zinX11 w hw, (by decide +kernel : ∀ w ∈ wsX110, tbw w = true) w hw⟩, tyX11_ok, nmX11, by decide +kernel, by decide⟩
theorem zct_12 : zCT 12 RX12 TX12 8 tyX12 := ⟨by decide, rfl, rfl, fun w hw => ⟨zinX12 w hw, (by decide +kernel : ∀ w ∈ wsX120, tbw w = true) w hw⟩, tyX12_ok, nmX12, by decide +kernel, by decide⟩
theorem zct_13 : zCT 13 RJx4a65c TJx4a65c 3 tyJx4a65c := ⟨by decide, rfl, rfl, fun w hw => ⟨zinJx4a65c w hw, (by decide +kernel : ∀ w ∈ wsJx4a65c0, tbw w = true) w hw⟩, tyJx4a65c_ok, nmJx4a65c, by decide +kernel, by decide⟩
theorem zct_14 : zCT 14 RJx35411 TJx35411 4 tyJx35411 := ⟨by decide, rfl, rfl, fun w hw => ⟨zinJx35411 w hw, (by decide +kernel : ∀ w ∈ wsJx354110, tbw w = true) w hw⟩, tyJx35411_ok, nmJx35411, by decide +kernel, by decide⟩
theorem bp_m128 : (Int8.ofInt (-128)).toInt32 = (-128) := by decide +kernel
theorem bp_6 : (Int8.ofInt 6).toInt32 = 6 := by decide +kernel
theorem bp_8 : (Int8.ofInt 8).toInt32 = 8 := by decide +kernel
theorem bp_9 : (Int8.ofInt 9).toInt32 = 9 := by decide +kernel
theorem bp_10 : (Int8.ofInt 10).toInt32 = 10 := by decide +kernel
theorem bp_15 : (Int8.ofInt 15).toInt32 = 15 := by decide +kernel
theorem bp_20 : (Int8.ofInt 20).toInt32 = 20 := by decide +kernel
theorem bp_32 : (Int8.ofInt 32).toInt32 = 32 := by decide +kernel
theorem bp_45 : (Int8.ofInt 45).toInt32 = 45 := by decide +kernel
theorem bp_98 : (Int8.ofInt 98).toInt32 = 98 := by decide +kernel
theorem bp_99 : (Int8.ofInt 99).toInt32 = 99 := by decide +kernel
theorem bp_100 : (Int8.ofInt 100).toInt32 = 100 := by decide +kernel
theorem bp_101 : (Int8.ofInt 101).toInt32 = 101 := by decide +kernel
theorem bp_103 : (Int8.ofInt 103).toInt32 = 103 := by decide +kernel
theorem bp_105 : (Int8.ofInt 105).toInt32 = 105 := by decide +kernel
theorem bp_108 : (Int8.ofInt 108).toInt32 = 108 := by decide +kernel
theorem bp_110 : (Int8.ofInt 110).toInt32 = 110 := by decide +kernel
theorem bp_112 : (Int8.ofInt 112).toInt32 = 112 := by decide +kernel
theorem bp_115 : (Int8.ofInt 115).toInt32 = 115 := by decide +kernel
theorem bp_116 : (Int8.ofInt 116).toInt32 = 116 := by decide +kernel
theorem bp_118 : (Int8.ofInt 118).toInt32 = 118 := by decide +kernel
theorem bp_119 : (Int8.ofInt 119).toInt32 = 119 := by decide +kernel
theorem ic_m1 : Int32.ofInt (-1) = (-1) := by decide +kernel
theorem ic_0 : Int32.ofInt 0 = 0 := by decide +kernel
theorem ic_1 : Int32.ofInt 1 = 1 := by decide +kernel
theorem ic_2 : Int32.ofInt 2 = 2 := by decide +kernel
theorem ic_3 : Int32.ofInt 3 = 3 := by decide +kernel
theorem ic_4 : Int32.ofInt 4 = 4 := by decide +kernel
theorem ic_5 : Int32.ofInt 5 = 5 := by decide +kernel
theorem sp_128 : (Int16.ofInt 128).toInt32 = 128 := by decide +kernel
theorem sp_255 : (Int16.ofInt 255).toInt32 = 255 := by decide +kernel
theorem sp_300 : (Int16.ofInt 300).toInt32 = 300 := by decide +kernel
theorem sp_999 : (Int16.ofInt 999).toInt32 = 999 := by decide +kernel
theorem sp_6000 : (Int16.ofInt 6000).toInt32 = 6000 := by decide +kernel
theorem sp_12000 : (Int16.ofInt 12000).toInt32 = 12000 := by decide +kernel
theorem sp_20000 : (Int16.ofInt 20000).toInt32 = 20000 := by decide +kernel
theorem zq_oi1 : zq (.instanceMethod objectInit) := ⟨List.mem_of_getElem? (i := 96) (by decide +kernel), rfl⟩
theorem zq_oi2 : zq (.code objectInit ⟨#[0xb1]⟩ 1 none) := ⟨List.mem_of_getElem? (i := 97) (by decide +kernel), rfl⟩
theorem pf_X0_7 : zPF RX0 7 0 0 false .int := ⟨_, _, _, _, zct_0, (Nat.le_of_ble_eq_true rfl), ⟨"SpoolwrightYard$End", Or.inl rfl, Or.inl ⟨List.mem_of_getElem? (i := 160) (by decide +kernel), rfl⟩⟩, rfl, ⟨rfl, rfl⟩, rfl⟩
theorem q_0 : zq (.methodLink RX0 1 objectInit) := ⟨List.mem_of_getElem? (i := 159) (by decide +kernel), rfl⟩
theorem fb_X0_13 : zFB RX0 13 0 1 true := ⟨_, _, _, _, zct_0, (Nat.le_of_ble_eq_true rfl), ⟨"SpoolwrightYard$End", Or.inl rfl, Or.inl ⟨List.mem_of_getElem? (i := 162) (by decide +kernel), rfl⟩⟩, rfl⟩
theorem fb_X0_17 : zFB RX0 17 0 2 false := ⟨_, _, _, _, zct_0, (Nat.le_of_ble_eq_true rfl), ⟨"SpoolwrightYard$End", Or.inl rfl, Or.inl ⟨List.mem_of_getElem? (i := 164) (by decide +kernel), rfl⟩⟩, rfl⟩
theorem fb_X0_7 : zFB RX0 7 0 0 false := ⟨_, _, _, _, zct_0, (Nat.le_of_ble_eq_true rfl), ⟨"SpoolwrightYard$End", Or.inl rfl, Or.inl ⟨List.mem_of_getElem? (i := 160) (by decide +kernel), rfl⟩⟩, rfl⟩
theorem pf_X1_7 : zPF RX1 7 1 0 false .int := ⟨_, _, _, _, zct_1, (Nat.le_of_ble_eq_true rfl), ⟨"SpoolwrightYard$Heat", Or.inl rfl, Or.inl ⟨List.mem_of_getElem? (i := 215) (by decide +kernel), rfl⟩⟩, rfl, ⟨rfl, rfl⟩, rfl⟩
theorem q_1 : zq (.methodLink RX1 1 objectInit) := ⟨List.mem_of_getElem? (i := 214) (by decide +kernel), rfl⟩
theorem fb_X1_13 : zFB RX1 13 1 4 false := ⟨_, _, _, _, zct_1, (Nat.le_of_ble_eq_true rfl), ⟨"SpoolwrightYard$Heat", Or.inl rfl, Or.inl ⟨List.mem_of_getElem? (i := 224) (by decide +kernel), rfl⟩⟩, rfl⟩
theorem pb_X1_13 : zPB RX1 13 1 4 false .boolean := ⟨_, _, _, _, zct_1, (Nat.le_of_ble_eq_true rfl), ⟨"SpoolwrightYard$Heat", Or.inl rfl, Or.inl ⟨List.mem_of_getElem? (i := 224) (by decide +kernel), rfl⟩⟩, rfl, rfl, rfl⟩
theorem fb_X1_17 : zFB RX1 17 1 1 false := ⟨_, _, _, _, zct_1, (Nat.le_of_ble_eq_true rfl), ⟨"SpoolwrightYard$Heat", Or.inl rfl, Or.inl ⟨List.mem_of_getElem? (i := 217) (by decide +kernel), rfl⟩⟩, rfl⟩
theorem fb_X1_20 : zFB RX1 20 1 3 false := ⟨_, _, _, _, zct_1, (Nat.le_of_ble_eq_true rfl), ⟨"SpoolwrightYard$Heat", Or.inl rfl, Or.inl ⟨List.mem_of_getElem? (i := 222) (by decide +kernel), rfl⟩⟩, rfl⟩
theorem pb_X2_9 : zPB RX2 9 2 0 false .char := ⟨_, _, _, _, zct_2, (Nat.le_of_ble_eq_true rfl), ⟨"SpoolwrightYard$Joint", Or.inl rfl, Or.inl ⟨List.mem_of_getElem? (i := 139) (by decide +kernel), rfl⟩⟩, rfl, rfl, rfl⟩
theorem q_2 : zq (.methodLink RX2 3 objectInit) := ⟨List.mem_of_getElem? (i := 138) (by decide +kernel), rfl⟩
theorem pb_X2_15 : zPB RX2 15 2 2 true (.object "SpoolwrightYard$Welder") := ⟨_, _, _, _, zct_2, (Nat.le_of_ble_eq_true rfl), ⟨"SpoolwrightYard$Joint", Or.inl rfl, Or.inl ⟨List.mem_of_getElem? (i := 144) (by decide +kernel), rfl⟩⟩, rfl, rfl, rfl⟩
theorem pb_X2_19 : zPB RX2 19 2 1 false .int := ⟨_, _, _, _, zct_2, (Nat.le_of_ble_eq_true rfl), ⟨"SpoolwrightYard$Joint", Or.inl rfl, Or.inl ⟨List.mem_of_getElem? (i := 142) (by decide +kernel), rfl⟩⟩, rfl, rfl, rfl⟩
theorem fb_X2_9 : zFB RX2 9 2 0 false := ⟨_, _, _, _, zct_2, (Nat.le_of_ble_eq_true rfl), ⟨"SpoolwrightYard$Joint", Or.inl rfl, Or.inl ⟨List.mem_of_getElem? (i := 139) (by decide +kernel), rfl⟩⟩, rfl⟩
theorem q_3 : zq (.classLink RX3 25 RX0) := ⟨List.mem_of_getElem? (i := 154) (by decide +kernel), rfl⟩
theorem q_4 : zq (.instantiable RX0 3) := ⟨List.mem_of_getElem? (i := 155) (by decide +kernel), rfl⟩
theorem q_5 : zq (.initialized RX0) := ⟨List.mem_of_getElem? (i := 54) (by decide +kernel), rfl⟩
theorem pf_X3_30 : zPF RX3 30 3 2 true (.object "SpoolwrightYard$End") := ⟨_, _, _, _, zct_3, (Nat.le_of_ble_eq_true rfl), ⟨"SpoolwrightYard$Line", Or.inl rfl, Or.inl ⟨List.mem_of_getElem? (i := 178) (by decide +kernel), rfl⟩⟩, rfl, ⟨rfl, rfl⟩, rfl⟩
theorem pf_X3_34 : zPF RX3 34 3 3 true (.object "SpoolwrightYard$End") := ⟨_, _, _, _, zct_3, (Nat.le_of_ble_eq_true rfl), ⟨"SpoolwrightYard$Line", Or.inl rfl, Or.inl ⟨List.mem_of_getElem? (i := 180) (by decide +kernel), rfl⟩⟩, rfl, ⟨rfl, rfl⟩, rfl⟩
theorem q_6 : zq (.instanceMethod yX0_init) := ⟨List.mem_of_getElem? (i := 157) (by decide +kernel), rfl⟩
theorem q_7 : zq (.methodLink RX3 27 yX0_init) := ⟨List.mem_of_getElem? (i := 156) (by decide +kernel), rfl⟩
theorem fb_X3_19 : zFB RX3 19 3 1 true := ⟨_, _, _, _, zct_3, (Nat.le_of_ble_eq_true rfl), ⟨"SpoolwrightYard$Line", Or.inl rfl, Or.inl ⟨List.mem_of_getElem? (i := 176) (by decide +kernel), rfl⟩⟩, rfl⟩
theorem q_8 : zq (.classLink RX3 17 RX2) := ⟨List.mem_of_getElem? (i := 111) (by decide +kernel), rfl⟩
theorem q_9 : zq (.instantiable RX2 3) := ⟨List.mem_of_getElem? (i := 134) (by decide +kernel), rfl⟩
theorem q_10 : zq (.initialized RX2) := ⟨List.mem_of_getElem? (i := 53) (by decide +kernel), rfl⟩
theorem q_11 : zq (.instanceMethod yX2_init) := ⟨List.mem_of_getElem? (i := 136) (by decide +kernel), rfl⟩
theorem q_12 : zq (.methodLinkNest RX3 24 yX2_init "SpoolwrightYard") := ⟨List.mem_of_getElem? (i := 135) (by decide +kernel), rfl⟩
theorem fb_X3_11 : zFB RX3 11 3 0 true := ⟨_, _, _, _, zct_3, (Nat.le_of_ble_eq_true rfl), ⟨"SpoolwrightYard$Line", Or.inl rfl, Or.inl ⟨List.mem_of_getElem? (i := 174) (by decide +kernel), rfl⟩⟩, rfl⟩
theorem q_13 : zq (.classLink RX3 9 RX4) := ⟨List.mem_of_getElem? (i := 109) (by decide +kernel), rfl⟩
theorem q_14 : zq (.instantiable RX4 3) := ⟨List.mem_of_getElem? (i := 113) (by decide +kernel), rfl⟩
theorem q_15 : zq (.initialized RX4) := ⟨List.mem_of_getElem? (i := 52) (by decide +kernel), rfl⟩
theorem q_16 : zq (.methodLink RX4 1 objectInit) := ⟨List.mem_of_getElem? (i := 117) (by decide +kernel), rfl⟩
theorem q_17 : zq (.instanceMethod yX4_init) := ⟨List.mem_of_getElem? (i := 115) (by decide +kernel), rfl⟩
theorem q_18 : zq (.methodLinkNest RX3 23 yX4_init "SpoolwrightYard") := ⟨List.mem_of_getElem? (i := 114) (by decide +kernel), rfl⟩
theorem q_19 : zq (.arrayOver (.object RX4)) := ⟨List.mem_of_getElem? (i := 110) (by decide +kernel), rfl⟩
theorem pf_X3_11 : zPF RX3 11 3 0 true (.array (.object "SpoolwrightYard$Part")) := ⟨_, _, _, _, zct_3, (Nat.le_of_ble_eq_true rfl), ⟨"SpoolwrightYard$Line", Or.inl rfl, Or.inl ⟨List.mem_of_getElem? (i := 174) (by decide +kernel), rfl⟩⟩, rfl, ⟨rfl, rfl⟩, rfl⟩
theorem q_20 : zq (.arrayOver (.object RX2)) := ⟨List.mem_of_getElem? (i := 112) (by decide +kernel), rfl⟩
theorem pf_X3_19 : zPF RX3 19 3 1 true (.array (.object "SpoolwrightYard$Joint")) := ⟨_, _, _, _, zct_3, (Nat.le_of_ble_eq_true rfl), ⟨"SpoolwrightYard$Line", Or.inl rfl, Or.inl ⟨List.mem_of_getElem? (i := 176) (by decide +kernel), rfl⟩⟩, rfl, ⟨rfl, rfl⟩, rfl⟩
theorem q_21 : zq (.methodLink RX3 3 objectInit) := ⟨List.mem_of_getElem? (i := 108) (by decide +kernel), rfl⟩
theorem fb_X3_37 : zFB RX3 37 3 4 false := ⟨_, _, _, _, zct_3, (Nat.le_of_ble_eq_true rfl), ⟨"SpoolwrightYard$Line", Or.inl rfl, Or.inl ⟨List.mem_of_getElem? (i := 182) (by decide +kernel), rfl⟩⟩, rfl⟩
theorem pb_X3_41 : zPB RX3 41 4 0 false .char := ⟨_, _, _, _, zct_4, (Nat.le_of_ble_eq_true rfl), ⟨"SpoolwrightYard$Part", Or.inl rfl, Or.inr ⟨"SpoolwrightYard", List.mem_of_getElem? (i := 118) (by decide +kernel), rfl⟩⟩, rfl, rfl, rfl⟩
theorem pb_X3_45 : zPB RX3 45 4 1 false .int := ⟨_, _, _, _, zct_4, (Nat.le_of_ble_eq_true rfl), ⟨"SpoolwrightYard$Part", Or.inl rfl, Or.inr ⟨"SpoolwrightYard", List.mem_of_getElem? (i := 121) (by decide +kernel), rfl⟩⟩, rfl, rfl, rfl⟩
theorem pb_X3_37 : zPB RX3 37 3 4 false .int := ⟨_, _, _, _, zct_3, (Nat.le_of_ble_eq_true rfl), ⟨"SpoolwrightYard$Line", Or.inl rfl, Or.inl ⟨List.mem_of_getElem? (i := 182) (by decide +kernel), rfl⟩⟩, rfl, rfl, rfl⟩
theorem pb_X3_48 : zPB RX3 48 3 7 false .boolean := ⟨_, _, _, _, zct_3, (Nat.le_of_ble_eq_true rfl), ⟨"SpoolwrightYard$Line", Or.inl rfl, Or.inl ⟨List.mem_of_getElem? (i := 188) (by decide +kernel), rfl⟩⟩, rfl, rfl, rfl⟩
theorem fb_X3_30 : zFB RX3 30 3 2 true := ⟨_, _, _, _, zct_3, (Nat.le_of_ble_eq_true rfl), ⟨"SpoolwrightYard$Line", Or.inl rfl, Or.inl ⟨List.mem_of_getElem? (i := 178) (by decide +kernel), rfl⟩⟩, rfl⟩
theorem fb_X3_34 : zFB RX3 34 3 3 true := ⟨_, _, _, _, zct_3, (Nat.le_of_ble_eq_true rfl), ⟨"SpoolwrightYard$Line", Or.inl rfl, Or.inl ⟨List.mem_of_getElem? (i := 180) (by decide +kernel), rfl⟩⟩, rfl⟩
theorem fb_X3_45 : zFB RX3 45 4 1 false := ⟨_, _, _, _, zct_4, (Nat.le_of_ble_eq_true rfl), ⟨"SpoolwrightYard$Part", Or.inl rfl, Or.inr ⟨"SpoolwrightYard", List.mem_of_getElem? (i := 121) (by decide +kernel), rfl⟩⟩, rfl⟩
theorem fb_X3_41 : zFB RX3 41 4 0 false := ⟨_, _, _, _, zct_4, (Nat.le_of_ble_eq_true rfl), ⟨"SpoolwrightYard$Part", Or.inl rfl, Or.inr ⟨"SpoolwrightYard", List.mem_of_getElem? (i := 118) (by decide +kernel), rfl⟩⟩, rfl⟩
theorem q_22 : zq (.instanceMethod yX3_spoolWith) := ⟨List.mem_of_getElem? (i := 561) (by decide +kernel), rfl⟩
theorem q_23 : zq (.selects RX3 yX3_spoolWith yX3_spoolWith) := ⟨List.mem_of_getElem? (i := 562) (by decide +kernel), rfl⟩
theorem q_24 : zq (.methodLink RX3 52 yX3_spoolWith) := ⟨List.mem_of_getElem? (i := 560) (by decide +kernel), rfl⟩
theorem fb_X3_60 : zFB RX3 60 2 0 false := ⟨_, _, _, _, zct_2, (Nat.le_of_ble_eq_true rfl), ⟨"SpoolwrightYard$Joint", Or.inl rfl, Or.inr ⟨"SpoolwrightYard", List.mem_of_getElem? (i := 140) (by decide +kernel), rfl⟩⟩, rfl⟩
theorem q_25 : zq (.instanceMethod yX2_renew) := ⟨List.mem_of_getElem? (i := 535) (by decide +kernel), rfl⟩
theorem q_26 : zq (.selects RX2 yX2_renew yX2_renew) := ⟨List.mem_of_getElem? (i := 536) (by decide +kernel), rfl⟩
theorem q_27 : zq (.methodLink RX3 63 yX2_renew) := ⟨List.mem_of_getElem? (i := 534) (by decide +kernel), rfl⟩
theorem q_28 : zq (.instanceMethod yX3_jointCount) := ⟨List.mem_of_getElem? (i := 299) (by decide +kernel), rfl⟩
theorem q_29 : zq (.selects RX3 yX3_jointCount yX3_jointCount) := ⟨List.mem_of_getElem? (i := 300) (by decide +kernel), rfl⟩
theorem q_30 : zq (.methodLink RX3 56 yX3_jointCount) := ⟨List.mem_of_getElem? (i := 315) (by decide +kernel), rfl⟩
theorem q_31 : zq (.static yJ9_max_7cf53) := ⟨List.mem_of_getElem? (i := 786) (by decide +kernel), rfl⟩
theorem q_32 : zq (.methodLink RX3 82 yJ9_max_7cf53) := ⟨List.mem_of_getElem? (i := 785) (by decide +kernel), rfl⟩
theorem q_33 : zq (.static yJ9_min_7cf53) := ⟨List.mem_of_getElem? (i := 783) (by decide +kernel), rfl⟩
theorem q_34 : zq (.methodLink RX3 76 yJ9_min_7cf53) := ⟨List.mem_of_getElem? (i := 782) (by decide +kernel), rfl⟩
theorem q_35 : zq (.instanceMethod yX2_isLookedAt) := ⟨List.mem_of_getElem? (i := 779) (by decide +kernel), rfl⟩
theorem q_36 : zq (.selects RX2 yX2_isLookedAt yX2_isLookedAt) := ⟨List.mem_of_getElem? (i := 780) (by decide +kernel), rfl⟩
theorem q_37 : zq (.methodLink RX3 72 yX2_isLookedAt) := ⟨List.mem_of_getElem? (i := 778) (by decide +kernel), rfl⟩
theorem fb_X3_66 : zFB RX3 66 3 5 false := ⟨_, _, _, _, zct_3, (Nat.le_of_ble_eq_true rfl), ⟨"SpoolwrightYard$Line", Or.inl rfl, Or.inl ⟨List.mem_of_getElem? (i := 185) (by decide +kernel), rfl⟩⟩, rfl⟩
theorem fb_X3_69 : zFB RX3 69 3 6 false := ⟨_, _, _, _, zct_3, (Nat.le_of_ble_eq_true rfl), ⟨"SpoolwrightYard$Line", Or.inl rfl, Or.inl ⟨List.mem_of_getElem? (i := 186) (by decide +kernel), rfl⟩⟩, rfl⟩
theorem q_38 : zq (.instanceMethod yX3_looksDue) := ⟨List.mem_of_getElem? (i := 775) (by decide +kernel), rfl⟩
theorem q_39 : zq (.selects RX3 yX3_looksDue yX3_looksDue) := ⟨List.mem_of_getElem? (i := 776) (by decide +kernel), rfl⟩
theorem q_40 : zq (.methodLink RX3 85 yX3_looksDue) := ⟨List.mem_of_getElem? (i := 872) (by decide +kernel), rfl⟩
theorem fb_X3_88 : zFB RX3 88 4 2 true := ⟨_, _, _, _, zct_4, (Nat.le_of_ble_eq_true rfl), ⟨"SpoolwrightYard$Part", Or.inl rfl, Or.inr ⟨"SpoolwrightYard", List.mem_of_getElem? (i := 124) (by decide +kernel), rfl⟩⟩, rfl⟩
theorem fb_X4_7 : zFB RX4 7 4 2 true := ⟨_, _, _, _, zct_4, (Nat.le_of_ble_eq_true rfl), ⟨"SpoolwrightYard$Part", Or.inl rfl, Or.inl ⟨List.mem_of_getElem? (i := 123) (by decide +kernel), rfl⟩⟩, rfl⟩
theorem fb_X4_22 : zFB RX4 22 1 4 false := ⟨_, _, _, _, zct_1, (Nat.le_of_ble_eq_true rfl), ⟨"SpoolwrightYard$Heat", Or.inl rfl, Or.inr ⟨"SpoolwrightYard", List.mem_of_getElem? (i := 225) (by decide +kernel), rfl⟩⟩, rfl⟩
theorem fb_X3_48 : zFB RX3 48 3 7 false := ⟨_, _, _, _, zct_3, (Nat.le_of_ble_eq_true rfl), ⟨"SpoolwrightYard$Line", Or.inl rfl, Or.inl ⟨List.mem_of_getElem? (i := 188) (by decide +kernel), rfl⟩⟩, rfl⟩
theorem fb_X3_95 : zFB RX3 95 0 2 false := ⟨_, _, _, _, zct_0, (Nat.le_of_ble_eq_true rfl), ⟨"SpoolwrightYard$End", Or.inl rfl, Or.inr ⟨"SpoolwrightYard", List.mem_of_getElem? (i := 165) (by decide +kernel), rfl⟩⟩, rfl⟩
theorem q_41 : zq (.instanceMethod yX4_hasPaper) := ⟨List.mem_of_getElem? (i := 900) (by decide +kernel), rfl⟩
theorem q_42 : zq (.selects RX4 yX4_hasPaper yX4_hasPaper) := ⟨List.mem_of_getElem? (i := 901) (by decide +kernel), rfl⟩
theorem q_43 : zq (.methodLink RX3 92 yX4_hasPaper) := ⟨List.mem_of_getElem? (i := 899) (by decide +kernel), rfl⟩
theorem q_44 : zq (.instanceMethod yX3_firstLack) := ⟨List.mem_of_getElem? (i := 896) (by decide +kernel), rfl⟩
theorem q_45 : zq (.selects RX3 yX3_firstLack yX3_firstLack) := ⟨List.mem_of_getElem? (i := 897) (by decide +kernel), rfl⟩
theorem q_46 : zq (.methodLink RX3 98 yX3_firstLack) := ⟨List.mem_of_getElem? (i := 938) (by decide +kernel), rfl⟩
theorem fb_X3_107 : zFB RX3 107 2 2 true := ⟨_, _, _, _, zct_2, (Nat.le_of_ble_eq_true rfl), ⟨"SpoolwrightYard$Joint", Or.inl rfl, Or.inr ⟨"SpoolwrightYard", List.mem_of_getElem? (i := 145) (by decide +kernel), rfl⟩⟩, rfl⟩
theorem fb_X3_102 : zFB RX3 102 1 1 false := ⟨_, _, _, _, zct_1, (Nat.le_of_ble_eq_true rfl), ⟨"SpoolwrightYard$Heat", Or.inl rfl, Or.inr ⟨"SpoolwrightYard", List.mem_of_getElem? (i := 219) (by decide +kernel), rfl⟩⟩, rfl⟩
theorem fb_X4_13 : zFB RX4 13 1 3 false := ⟨_, _, _, _, zct_1, (Nat.le_of_ble_eq_true rfl), ⟨"SpoolwrightYard$Heat", Or.inl rfl, Or.inr ⟨"SpoolwrightYard", List.mem_of_getElem? (i := 221) (by decide +kernel), rfl⟩⟩, rfl⟩
theorem fb_X4_19 : zFB RX4 19 4 1 false := ⟨_, _, _, _, zct_4, (Nat.le_of_ble_eq_true rfl), ⟨"SpoolwrightYard$Part", Or.inl rfl, Or.inl ⟨List.mem_of_getElem? (i := 120) (by decide +kernel), rfl⟩⟩, rfl⟩
theorem pb_X4_13 : zPB RX4 13 1 3 false .int := ⟨_, _, _, _, zct_1, (Nat.le_of_ble_eq_true rfl), ⟨"SpoolwrightYard$Heat", Or.inl rfl, Or.inr ⟨"SpoolwrightYard", List.mem_of_getElem? (i := 221) (by decide +kernel), rfl⟩⟩, rfl, rfl, rfl⟩
theorem pb_X4_7 : zPB RX4 7 4 2 true (.object "SpoolwrightYard$Heat") := ⟨_, _, _, _, zct_4, (Nat.le_of_ble_eq_true rfl), ⟨"SpoolwrightYard$Part", Or.inl rfl, Or.inl ⟨List.mem_of_getElem? (i := 123) (by decide +kernel), rfl⟩⟩, rfl, rfl, rfl⟩
theorem fb_X5_9 : zFB RX5 9 5 1 true := ⟨_, _, _, _, zct_5, (Nat.le_of_ble_eq_true rfl), ⟨"SpoolwrightYard$Welder", Or.inl rfl, Or.inl ⟨List.mem_of_getElem? (i := 245) (by decide +kernel), rfl⟩⟩, rfl⟩
theorem q_47 : zq (.arrayClass (newarray.typeOf .int)) := ⟨List.mem_of_getElem? (i := 133) (by decide +kernel), rfl⟩
theorem pf_X5_9 : zPF RX5 9 5 1 true (.array .int) := ⟨_, _, _, _, zct_5, (Nat.le_of_ble_eq_true rfl), ⟨"SpoolwrightYard$Welder", Or.inl rfl, Or.inl ⟨List.mem_of_getElem? (i := 245) (by decide +kernel), rfl⟩⟩, rfl, ⟨rfl, rfl⟩, rfl⟩
theorem pf_X5_15 : zPF RX5 15 5 0 false .int := ⟨_, _, _, _, zct_5, (Nat.le_of_ble_eq_true rfl), ⟨"SpoolwrightYard$Welder", Or.inl rfl, Or.inl ⟨List.mem_of_getElem? (i := 243) (by decide +kernel), rfl⟩⟩, rfl, ⟨rfl, rfl⟩, rfl⟩
theorem q_48 : zq (.methodLink RX5 3 objectInit) := ⟨List.mem_of_getElem? (i := 242) (by decide +kernel), rfl⟩
theorem fb_X6_23 : zFB RX6 23 6 2 true := ⟨_, _, _, _, zct_6, (Nat.le_of_ble_eq_true rfl), ⟨"SpoolwrightYard", Or.inl rfl, Or.inl ⟨List.mem_of_getElem? (i := 257) (by decide +kernel), rfl⟩⟩, rfl⟩
theorem q_49 : zq (.classLink RX6 21 RX5) := ⟨List.mem_of_getElem? (i := 102) (by decide +kernel), rfl⟩
theorem q_50 : zq (.instantiable RX5 3) := ⟨List.mem_of_getElem? (i := 238) (by decide +kernel), rfl⟩
theorem q_51 : zq (.initialized RX5) := ⟨List.mem_of_getElem? (i := 56) (by decide +kernel), rfl⟩
theorem q_52 : zq (.instanceMethod yX5_init) := ⟨List.mem_of_getElem? (i := 240) (by decide +kernel), rfl⟩
theorem q_53 : zq (.methodLink RX6 35 yX5_init) := ⟨List.mem_of_getElem? (i := 239) (by decide +kernel), rfl⟩
theorem fb_X6_17 : zFB RX6 17 6 1 true := ⟨_, _, _, _, zct_6, (Nat.le_of_ble_eq_true rfl), ⟨"SpoolwrightYard", Or.inl rfl, Or.inl ⟨List.mem_of_getElem? (i := 256) (by decide +kernel), rfl⟩⟩, rfl⟩
theorem q_54 : zq (.classLink RX6 15 RX1) := ⟨List.mem_of_getElem? (i := 100) (by decide +kernel), rfl⟩
theorem q_55 : zq (.instantiable RX1 5) := ⟨List.mem_of_getElem? (i := 210) (by decide +kernel), rfl⟩
theorem q_56 : zq (.initialized RX1) := ⟨List.mem_of_getElem? (i := 55) (by decide +kernel), rfl⟩
theorem q_57 : zq (.instanceMethod yX1_init) := ⟨List.mem_of_getElem? (i := 212) (by decide +kernel), rfl⟩
theorem q_58 : zq (.methodLink RX6 34 yX1_init) := ⟨List.mem_of_getElem? (i := 211) (by decide +kernel), rfl⟩
theorem fb_X6_11 : zFB RX6 11 6 0 true := ⟨_, _, _, _, zct_6, (Nat.le_of_ble_eq_true rfl), ⟨"SpoolwrightYard", Or.inl rfl, Or.inl ⟨List.mem_of_getElem? (i := 255) (by decide +kernel), rfl⟩⟩, rfl⟩
theorem q_59 : zq (.classLink RX6 9 RX3) := ⟨List.mem_of_getElem? (i := 98) (by decide +kernel), rfl⟩
theorem q_60 : zq (.instantiable RX3 9) := ⟨List.mem_of_getElem? (i := 104) (by decide +kernel), rfl⟩
theorem q_61 : zq (.initialized RX3) := ⟨List.mem_of_getElem? (i := 51) (by decide +kernel), rfl⟩
theorem q_62 : zq (.instanceMethod yX3_init) := ⟨List.mem_of_getElem? (i := 106) (by decide +kernel), rfl⟩
theorem q_63 : zq (.methodLink RX6 31 yX3_init) := ⟨List.mem_of_getElem? (i := 105) (by decide +kernel), rfl⟩
theorem q_64 : zq (.arrayOver (.object RX3)) := ⟨List.mem_of_getElem? (i := 99) (by decide +kernel), rfl⟩
theorem pf_X6_11 : zPF RX6 11 6 0 true (.array (.object "SpoolwrightYard$Line")) := ⟨_, _, _, _, zct_6, (Nat.le_of_ble_eq_true rfl), ⟨"SpoolwrightYard", Or.inl rfl, Or.inl ⟨List.mem_of_getElem? (i := 255) (by decide +kernel), rfl⟩⟩, rfl, ⟨rfl, rfl⟩, rfl⟩
theorem q_65 : zq (.arrayOver (.object RX1)) := ⟨List.mem_of_getElem? (i := 101) (by decide +kernel), rfl⟩
theorem pf_X6_17 : zPF RX6 17 6 1 true (.array (.object "SpoolwrightYard$Heat")) := ⟨_, _, _, _, zct_6, (Nat.le_of_ble_eq_true rfl), ⟨"SpoolwrightYard", Or.inl rfl, Or.inl ⟨List.mem_of_getElem? (i := 256) (by decide +kernel), rfl⟩⟩, rfl, ⟨rfl, rfl⟩, rfl⟩
theorem q_66 : zq (.arrayOver (.object RX5)) := ⟨List.mem_of_getElem? (i := 103) (by decide +kernel), rfl⟩
theorem pf_X6_23 : zPF RX6 23 6 2 true (.array (.object "SpoolwrightYard$Welder")) := ⟨_, _, _, _, zct_6, (Nat.le_of_ble_eq_true rfl), ⟨"SpoolwrightYard", Or.inl rfl, Or.inl ⟨List.mem_of_getElem? (i := 257) (by decide +kernel), rfl⟩⟩, rfl, ⟨rfl, rfl⟩, rfl⟩
theorem pf_X6_27 : zPF RX6 27 6 3 true (.array .int) := ⟨_, _, _, _, zct_6, (Nat.le_of_ble_eq_true rfl), ⟨"SpoolwrightYard", Or.inl rfl, Or.inl ⟨List.mem_of_getElem? (i := 258) (by decide +kernel), rfl⟩⟩, rfl, ⟨rfl, rfl⟩, rfl⟩
theorem q_67 : zq (.methodLink RX6 1 objectInit) := ⟨List.mem_of_getElem? (i := 95) (by decide +kernel), rfl⟩
theorem zx_X6_36 : zEX RX6 36 40 1 := ⟨⟨⟨List.mem_of_getElem? (i := 336) (by decide +kernel), rfl⟩, ⟨List.mem_of_getElem? (i := 64) (by decide +kernel), rfl⟩, fun w hw => (by decide +kernel : ∀ w ∈ vx_atS RX6 40 (zex 1) ["java/lang/RuntimeException", "java/lang/Exception"], w ∈ lw_tbl ∧ tbw w = true) w hw⟩, by decide +kernel, by decide +kernel, by decide +kernel⟩
theorem tx_X6_38 : (RX6, 38, "no such class of a line") ∈ ztx := List.mem_of_getElem? (i := 0) (by decide +kernel)
theorem fb_X6_43 : zFB RX6 43 6 4 false := ⟨_, _, _, _, zct_6, (Nat.le_of_ble_eq_true rfl), ⟨"SpoolwrightYard", Or.inl rfl, Or.inl ⟨List.mem_of_getElem? (i := 259) (by decide +kernel), rfl⟩⟩, rfl⟩
theorem pb_X6_56 : zPB RX6 56 3 5 false .int := ⟨_, _, _, _, zct_3, (Nat.le_of_ble_eq_true rfl), ⟨"SpoolwrightYard$Line", Or.inl rfl, Or.inr ⟨"SpoolwrightYard", List.mem_of_getElem? (i := 184) (by decide +kernel), rfl⟩⟩, rfl, rfl, rfl⟩
theorem pb_X6_43 : zPB RX6 43 6 4 false .int := ⟨_, _, _, _, zct_6, (Nat.le_of_ble_eq_true rfl), ⟨"SpoolwrightYard", Or.inl rfl, Or.inl ⟨List.mem_of_getElem? (i := 259) (by decide +kernel), rfl⟩⟩, rfl, rfl, rfl⟩
theorem q_68 : zq (.static yX6_lookShareOf) := ⟨List.mem_of_getElem? (i := 425) (by decide +kernel), rfl⟩
theorem q_69 : zq (.methodLink RX6 52 yX6_lookShareOf) := ⟨List.mem_of_getElem? (i := 424) (by decide +kernel), rfl⟩
theorem zx_X6_47 : zEX RX6 47 51 2 := ⟨⟨⟨List.mem_of_getElem? (i := 408) (by decide +kernel), rfl⟩, ⟨List.mem_of_getElem? (i := 65) (by decide +kernel), rfl⟩, fun w hw => (by decide +kernel : ∀ w ∈ vx_atS RX6 51 (zex 2) ["java/lang/RuntimeException", "java/lang/Exception"], w ∈ lw_tbl ∧ tbw w = true) w hw⟩, by decide +kernel, by decide +kernel, by decide +kernel⟩
theorem tx_X6_49 : (RX6, 49, "no room for a line") ∈ ztx := List.mem_of_getElem? (i := 1) (by decide +kernel)
theorem fb_X6_71 : zFB RX6 71 3 4 false := ⟨_, _, _, _, zct_3, (Nat.le_of_ble_eq_true rfl), ⟨"SpoolwrightYard$Line", Or.inl rfl, Or.inr ⟨"SpoolwrightYard", List.mem_of_getElem? (i := 183) (by decide +kernel), rfl⟩⟩, rfl⟩
theorem q_70 : zq (.instanceMethod yX3_append) := ⟨List.mem_of_getElem? (i := 490) (by decide +kernel), rfl⟩
theorem q_71 : zq (.selects RX3 yX3_append yX3_append) := ⟨List.mem_of_getElem? (i := 491) (by decide +kernel), rfl⟩
theorem q_72 : zq (.methodLink RX6 76 yX3_append) := ⟨List.mem_of_getElem? (i := 489) (by decide +kernel), rfl⟩
theorem tx_X6_74 : (RX6, 74, "no room for a part") ∈ ztx := List.mem_of_getElem? (i := 5) (by decide +kernel)
theorem tx_X6_69 : (RX6, 69, "no such length of a part") ∈ ztx := List.mem_of_getElem? (i := 4) (by decide +kernel)
theorem q_73 : zq (.static yX6_isPartLength) := ⟨List.mem_of_getElem? (i := 485) (by decide +kernel), rfl⟩
theorem q_74 : zq (.methodLink RX6 65 yX6_isPartLength) := ⟨List.mem_of_getElem? (i := 484) (by decide +kernel), rfl⟩
theorem zx_X6_370 : zEX RX6 370 374 3 := ⟨⟨⟨List.mem_of_getElem? (i := 470) (by decide +kernel), rfl⟩, ⟨List.mem_of_getElem? (i := 71) (by decide +kernel), rfl⟩, fun w hw => (by decide +kernel : ∀ w ∈ vx_atS RX6 374 (zex 3) ["java/lang/RuntimeException", "java/lang/Exception"], w ∈ lw_tbl ∧ tbw w = true) w hw⟩, by decide +kernel, by decide +kernel, by decide +kernel⟩
theorem tx_X6_372 : (RX6, 372, "no such line") ∈ ztx := List.mem_of_getElem? (i := 2) (by decide +kernel)
theorem q_75 : zq (.instanceMethod yX6_isLine) := ⟨List.mem_of_getElem? (i := 468) (by decide +kernel), rfl⟩
theorem q_76 : zq (.selects RX6 yX6_isLine yX6_isLine) := ⟨List.mem_of_getElem? (i := 5) (by decide +kernel), rfl⟩
theorem q_77 : zq (.methodLink RX6 328 yX6_isLine) := ⟨List.mem_of_getElem? (i := 466) (by decide +kernel), rfl⟩
theorem q_78 : zq (.instanceMethod yX6_checkLine) := ⟨List.mem_of_getElem? (i := 464) (by decide +kernel), rfl⟩
theorem q_79 : zq (.selects RX6 yX6_checkLine yX6_checkLine) := ⟨List.mem_of_getElem? (i := 4) (by decide +kernel), rfl⟩
theorem q_80 : zq (.methodLink RX6 312 yX6_checkLine) := ⟨List.mem_of_getElem? (i := 462) (by decide +kernel), rfl⟩
theorem tx_X6_63 : (RX6, 63, "no such kind of a part") ∈ ztx := List.mem_of_getElem? (i := 3) (by decide +kernel)
theorem q_81 : zq (.instanceMethod yX6_lineAt) := ⟨List.mem_of_getElem? (i := 460) (by decide +kernel), rfl⟩
theorem q_82 : zq (.selects RX6 yX6_lineAt yX6_lineAt) := ⟨List.mem_of_getElem? (i := 3) (by decide +kernel), rfl⟩
theorem q_83 : zq (.methodLink RX6 59 yX6_lineAt) := ⟨List.mem_of_getElem? (i := 458) (by decide +kernel), rfl⟩
theorem tx_X6_375 : (RX6, 375, "no such part") ∈ ztx := List.mem_of_getElem? (i := 6) (by decide +kernel)
theorem fb_X6_379 : zFB RX6 379 3 0 true := ⟨_, _, _, _, zct_3, (Nat.le_of_ble_eq_true rfl), ⟨"SpoolwrightYard$Line", Or.inl rfl, Or.inr ⟨"SpoolwrightYard", List.mem_of_getElem? (i := 175) (by decide +kernel), rfl⟩⟩, rfl⟩
theorem q_84 : zq (.instanceMethod yX6_checkPart) := ⟨List.mem_of_getElem? (i := 507) (by decide +kernel), rfl⟩
theorem q_85 : zq (.selects RX6 yX6_checkPart yX6_checkPart) := ⟨List.mem_of_getElem? (i := 7) (by decide +kernel), rfl⟩
theorem q_86 : zq (.methodLink RX6 118 yX6_checkPart) := ⟨List.mem_of_getElem? (i := 505) (by decide +kernel), rfl⟩
theorem fb_X6_84 : zFB RX6 84 4 0 false := ⟨_, _, _, _, zct_4, (Nat.le_of_ble_eq_true rfl), ⟨"SpoolwrightYard$Part", Or.inl rfl, Or.inr ⟨"SpoolwrightYard", List.mem_of_getElem? (i := 119) (by decide +kernel), rfl⟩⟩, rfl⟩
theorem zx_X6_93 : zEX RX6 93 97 4 := ⟨⟨⟨List.mem_of_getElem? (i := 510) (by decide +kernel), rfl⟩, ⟨List.mem_of_getElem? (i := 78) (by decide +kernel), rfl⟩, fun w hw => (by decide +kernel : ∀ w ∈ vx_atS RX6 97 (zex 4) ["java/lang/RuntimeException", "java/lang/Exception"], w ∈ lw_tbl ∧ tbw w = true) w hw⟩, by decide +kernel, by decide +kernel, by decide +kernel⟩
theorem tx_X6_95 : (RX6, 95, "no other length for this part") ∈ ztx := List.mem_of_getElem? (i := 7) (by decide +kernel)
theorem fb_X6_90 : zFB RX6 90 4 1 false := ⟨_, _, _, _, zct_4, (Nat.le_of_ble_eq_true rfl), ⟨"SpoolwrightYard$Part", Or.inl rfl, Or.inr ⟨"SpoolwrightYard", List.mem_of_getElem? (i := 122) (by decide +kernel), rfl⟩⟩, rfl⟩
theorem pb_X6_90 : zPB RX6 90 4 1 false .int := ⟨_, _, _, _, zct_4, (Nat.le_of_ble_eq_true rfl), ⟨"SpoolwrightYard$Part", Or.inl rfl, Or.inr ⟨"SpoolwrightYard", List.mem_of_getElem? (i := 122) (by decide +kernel), rfl⟩⟩, rfl, rfl, rfl⟩
theorem pb_X6_101 : zPB RX6 101 3 7 false .boolean := ⟨_, _, _, _, zct_3, (Nat.le_of_ble_eq_true rfl), ⟨"SpoolwrightYard$Line", Or.inl rfl, Or.inr ⟨"SpoolwrightYard", List.mem_of_getElem? (i := 189) (by decide +kernel), rfl⟩⟩, rfl, rfl, rfl⟩
theorem fb_X6_105 : zFB RX6 105 6 9 false := ⟨_, _, _, _, zct_6, (Nat.le_of_ble_eq_true rfl), ⟨"SpoolwrightYard", Or.inl rfl, Or.inl ⟨List.mem_of_getElem? (i := 264) (by decide +kernel), rfl⟩⟩, rfl⟩
theorem pb_X6_105 : zPB RX6 105 6 9 false .int := ⟨_, _, _, _, zct_6, (Nat.le_of_ble_eq_true rfl), ⟨"SpoolwrightYard", Or.inl rfl, Or.inl ⟨List.mem_of_getElem? (i := 264) (by decide +kernel), rfl⟩⟩, rfl, rfl, rfl⟩
theorem q_87 : zq (.instanceMethod yX3_undoBeside) := ⟨List.mem_of_getElem? (i := 531) (by decide +kernel), rfl⟩
theorem q_88 : zq (.selects RX3 yX3_undoBeside yX3_undoBeside) := ⟨List.mem_of_getElem? (i := 532) (by decide +kernel), rfl⟩
theorem q_89 : zq (.methodLink RX6 108 yX3_undoBeside) := ⟨List.mem_of_getElem? (i := 530) (by decide +kernel), rfl⟩
theorem q_90 : zq (.instanceMethod yX4_returnSteel) := ⟨List.mem_of_getElem? (i := 527) (by decide +kernel), rfl⟩
theorem q_91 : zq (.selects RX4 yX4_returnSteel yX4_returnSteel) := ⟨List.mem_of_getElem? (i := 528) (by decide +kernel), rfl⟩
theorem q_92 : zq (.methodLink RX6 98 yX4_returnSteel) := ⟨List.mem_of_getElem? (i := 526) (by decide +kernel), rfl⟩
theorem q_93 : zq (.instanceMethod yX6_partAt) := ⟨List.mem_of_getElem? (i := 503) (by decide +kernel), rfl⟩
theorem q_94 : zq (.selects RX6 yX6_partAt yX6_partAt) := ⟨List.mem_of_getElem? (i := 6) (by decide +kernel), rfl⟩
theorem q_95 : zq (.methodLink RX6 80 yX6_partAt) := ⟨List.mem_of_getElem? (i := 501) (by decide +kernel), rfl⟩
theorem q_96 : zq (.instanceMethod yX3_totalSize) := ⟨List.mem_of_getElem? (i := 546) (by decide +kernel), rfl⟩
theorem q_97 : zq (.selects RX3 yX3_totalSize yX3_totalSize) := ⟨List.mem_of_getElem? (i := 547) (by decide +kernel), rfl⟩
theorem q_98 : zq (.methodLink RX6 111 yX3_totalSize) := ⟨List.mem_of_getElem? (i := 545) (by decide +kernel), rfl⟩
theorem q_99 : zq (.instanceMethod yX3_spoolCount) := ⟨List.mem_of_getElem? (i := 557) (by decide +kernel), rfl⟩
theorem q_100 : zq (.selects RX3 yX3_spoolCount yX3_spoolCount) := ⟨List.mem_of_getElem? (i := 558) (by decide +kernel), rfl⟩
theorem q_101 : zq (.methodLink RX6 115 yX3_spoolCount) := ⟨List.mem_of_getElem? (i := 556) (by decide +kernel), rfl⟩
theorem q_102 : zq (.methodLink RX6 122 yX3_spoolWith) := ⟨List.mem_of_getElem? (i := 571) (by decide +kernel), rfl⟩
theorem tx_X6_377 : (RX6, 377, "no such joint") ∈ ztx := List.mem_of_getElem? (i := 8) (by decide +kernel)
theorem q_103 : zq (.methodLink RX6 338 yX3_jointCount) := ⟨List.mem_of_getElem? (i := 298) (by decide +kernel), rfl⟩
theorem q_104 : zq (.instanceMethod yX6_checkJoint) := ⟨List.mem_of_getElem? (i := 581) (by decide +kernel), rfl⟩
theorem q_105 : zq (.selects RX6 yX6_checkJoint yX6_checkJoint) := ⟨List.mem_of_getElem? (i := 8) (by decide +kernel), rfl⟩
theorem q_106 : zq (.methodLink RX6 125 yX6_checkJoint) := ⟨List.mem_of_getElem? (i := 579) (by decide +kernel), rfl⟩
theorem tx_X6_131 : (RX6, 131, "no such alloy or length of a heat") ∈ ztx := List.mem_of_getElem? (i := 9) (by decide +kernel)
theorem fb_X6_133 : zFB RX6 133 6 5 false := ⟨_, _, _, _, zct_6, (Nat.le_of_ble_eq_true rfl), ⟨"SpoolwrightYard", Or.inl rfl, Or.inl ⟨List.mem_of_getElem? (i := 260) (by decide +kernel), rfl⟩⟩, rfl⟩
theorem pb_X6_138 : zPB RX6 138 1 1 false .int := ⟨_, _, _, _, zct_1, (Nat.le_of_ble_eq_true rfl), ⟨"SpoolwrightYard$Heat", Or.inl rfl, Or.inr ⟨"SpoolwrightYard", List.mem_of_getElem? (i := 218) (by decide +kernel), rfl⟩⟩, rfl, rfl, rfl⟩
theorem pb_X6_141 : zPB RX6 141 1 2 false .int := ⟨_, _, _, _, zct_1, (Nat.le_of_ble_eq_true rfl), ⟨"SpoolwrightYard$Heat", Or.inl rfl, Or.inr ⟨"SpoolwrightYard", List.mem_of_getElem? (i := 220) (by decide +kernel), rfl⟩⟩, rfl, rfl, rfl⟩
theorem pb_X6_142 : zPB RX6 142 1 3 false .int := ⟨_, _, _, _, zct_1, (Nat.le_of_ble_eq_true rfl), ⟨"SpoolwrightYard$Heat", Or.inl rfl, Or.inr ⟨"SpoolwrightYard", List.mem_of_getElem? (i := 223) (by decide +kernel), rfl⟩⟩, rfl, rfl, rfl⟩
theorem pb_X6_145 : zPB RX6 145 1 4 false .boolean := ⟨_, _, _, _, zct_1, (Nat.le_of_ble_eq_true rfl), ⟨"SpoolwrightYard$Heat", Or.inl rfl, Or.inr ⟨"SpoolwrightYard", List.mem_of_getElem? (i := 226) (by decide +kernel), rfl⟩⟩, rfl, rfl, rfl⟩
theorem pb_X6_133 : zPB RX6 133 6 5 false .int := ⟨_, _, _, _, zct_6, (Nat.le_of_ble_eq_true rfl), ⟨"SpoolwrightYard", Or.inl rfl, Or.inl ⟨List.mem_of_getElem? (i := 260) (by decide +kernel), rfl⟩⟩, rfl, rfl, rfl⟩
theorem fb_X6_148 : zFB RX6 148 1 0 false := ⟨_, _, _, _, zct_1, (Nat.le_of_ble_eq_true rfl), ⟨"SpoolwrightYard$Heat", Or.inl rfl, Or.inr ⟨"SpoolwrightYard", List.mem_of_getElem? (i := 216) (by decide +kernel), rfl⟩⟩, rfl⟩
theorem tx_X6_136 : (RX6, 136, "no room for a heat") ∈ ztx := List.mem_of_getElem? (i := 10) (by decide +kernel)
theorem q_107 : zq (.static yX6_isAlloy) := ⟨List.mem_of_getElem? (i := 592) (by decide +kernel), rfl⟩
theorem q_108 : zq (.methodLink RX6 128 yX6_isAlloy) := ⟨List.mem_of_getElem? (i := 591) (by decide +kernel), rfl⟩
theorem tx_X6_383 : (RX6, 383, "no such heat") ∈ ztx := List.mem_of_getElem? (i := 11) (by decide +kernel)
theorem fb_X6_142 : zFB RX6 142 1 3 false := ⟨_, _, _, _, zct_1, (Nat.le_of_ble_eq_true rfl), ⟨"SpoolwrightYard$Heat", Or.inl rfl, Or.inr ⟨"SpoolwrightYard", List.mem_of_getElem? (i := 223) (by decide +kernel), rfl⟩⟩, rfl⟩
theorem q_109 : zq (.instanceMethod yX6_heatAt) := ⟨List.mem_of_getElem? (i := 605) (by decide +kernel), rfl⟩
theorem q_110 : zq (.selects RX6 yX6_heatAt yX6_heatAt) := ⟨List.mem_of_getElem? (i := 9) (by decide +kernel), rfl⟩
theorem q_111 : zq (.methodLink RX6 151 yX6_heatAt) := ⟨List.mem_of_getElem? (i := 603) (by decide +kernel), rfl⟩
theorem q_112 : zq (.instanceMethod yX1_putPaper) := ⟨List.mem_of_getElem? (i := 616) (by decide +kernel), rfl⟩
theorem q_113 : zq (.selects RX1 yX1_putPaper yX1_putPaper) := ⟨List.mem_of_getElem? (i := 617) (by decide +kernel), rfl⟩
theorem q_114 : zq (.methodLink RX6 155 yX1_putPaper) := ⟨List.mem_of_getElem? (i := 615) (by decide +kernel), rfl⟩
theorem fb_X6_159 : zFB RX6 159 4 2 true := ⟨_, _, _, _, zct_4, (Nat.le_of_ble_eq_true rfl), ⟨"SpoolwrightYard$Part", Or.inl rfl, Or.inr ⟨"SpoolwrightYard", List.mem_of_getElem? (i := 125) (by decide +kernel), rfl⟩⟩, rfl⟩
theorem tx_X6_163 : (RX6, 163, "no steel of this heat for this part") ∈ ztx := List.mem_of_getElem? (i := 12) (by decide +kernel)
theorem q_115 : zq (.instanceMethod yX4_takeSteel) := ⟨List.mem_of_getElem? (i := 635) (by decide +kernel), rfl⟩
theorem q_116 : zq (.selects RX4 yX4_takeSteel yX4_takeSteel) := ⟨List.mem_of_getElem? (i := 636) (by decide +kernel), rfl⟩
theorem q_117 : zq (.methodLink RX6 165 yX4_takeSteel) := ⟨List.mem_of_getElem? (i := 634) (by decide +kernel), rfl⟩
theorem tx_X6_171 : (RX6, 171, "no steel") ∈ ztx := List.mem_of_getElem? (i := 13) (by decide +kernel)
theorem tx_X6_180 : (RX6, 180, "no heat for this part") ∈ ztx := List.mem_of_getElem? (i := 15) (by decide +kernel)
theorem q_118 : zq (.instanceMethod yX1_canServe) := ⟨List.mem_of_getElem? (i := 671) (by decide +kernel), rfl⟩
theorem q_119 : zq (.selects RX1 yX1_canServe yX1_canServe) := ⟨List.mem_of_getElem? (i := 672) (by decide +kernel), rfl⟩
theorem q_120 : zq (.methodLink RX6 176 yX1_canServe) := ⟨List.mem_of_getElem? (i := 670) (by decide +kernel), rfl⟩
theorem tx_X6_174 : (RX6, 174, "no such alloy") ∈ ztx := List.mem_of_getElem? (i := 14) (by decide +kernel)
theorem fb_X6_182 : zFB RX6 182 6 6 false := ⟨_, _, _, _, zct_6, (Nat.le_of_ble_eq_true rfl), ⟨"SpoolwrightYard", Or.inl rfl, Or.inl ⟨List.mem_of_getElem? (i := 261) (by decide +kernel), rfl⟩⟩, rfl⟩
theorem pb_X6_182 : zPB RX6 182 6 6 false .int := ⟨_, _, _, _, zct_6, (Nat.le_of_ble_eq_true rfl), ⟨"SpoolwrightYard", Or.inl rfl, Or.inl ⟨List.mem_of_getElem? (i := 261) (by decide +kernel), rfl⟩⟩, rfl, rfl, rfl⟩
theorem tx_X6_185 : (RX6, 185, "no room for a welder") ∈ ztx := List.mem_of_getElem? (i := 16) (by decide +kernel)
theorem tx_X6_385 : (RX6, 385, "no such welder") ∈ ztx := List.mem_of_getElem? (i := 17) (by decide +kernel)
theorem tx_X6_191 : (RX6, 191, "no such alloy or day") ∈ ztx := List.mem_of_getElem? (i := 18) (by decide +kernel)
theorem fb_X6_193 : zFB RX6 193 5 1 true := ⟨_, _, _, _, zct_5, (Nat.le_of_ble_eq_true rfl), ⟨"SpoolwrightYard$Welder", Or.inl rfl, Or.inr ⟨"SpoolwrightYard", List.mem_of_getElem? (i := 246) (by decide +kernel), rfl⟩⟩, rfl⟩
theorem q_121 : zq (.instanceMethod yX6_welderAt) := ⟨List.mem_of_getElem? (i := 692) (by decide +kernel), rfl⟩
theorem q_122 : zq (.selects RX6 yX6_welderAt yX6_welderAt) := ⟨List.mem_of_getElem? (i := 10) (by decide +kernel), rfl⟩
theorem q_123 : zq (.methodLink RX6 187 yX6_welderAt) := ⟨List.mem_of_getElem? (i := 690) (by decide +kernel), rfl⟩
theorem fb_X6_138 : zFB RX6 138 1 1 false := ⟨_, _, _, _, zct_1, (Nat.le_of_ble_eq_true rfl), ⟨"SpoolwrightYard$Heat", Or.inl rfl, Or.inr ⟨"SpoolwrightYard", List.mem_of_getElem? (i := 218) (by decide +kernel), rfl⟩⟩, rfl⟩
theorem fb_X6_249 : zFB RX6 249 6 8 false := ⟨_, _, _, _, zct_6, (Nat.le_of_ble_eq_true rfl), ⟨"SpoolwrightYard", Or.inl rfl, Or.inl ⟨List.mem_of_getElem? (i := 263) (by decide +kernel), rfl⟩⟩, rfl⟩
theorem q_124 : zq (.instanceMethod yX6_isAllowed) := ⟨List.mem_of_getElem? (i := 705) (by decide +kernel), rfl⟩
theorem q_125 : zq (.selects RX6 yX6_isAllowed yX6_isAllowed) := ⟨List.mem_of_getElem? (i := 11) (by decide +kernel), rfl⟩
theorem q_126 : zq (.methodLink RX6 196 yX6_isAllowed) := ⟨List.mem_of_getElem? (i := 703) (by decide +kernel), rfl⟩
theorem fb_X6_343 : zFB RX6 343 3 1 true := ⟨_, _, _, _, zct_3, (Nat.le_of_ble_eq_true rfl), ⟨"SpoolwrightYard$Line", Or.inl rfl, Or.inr ⟨"SpoolwrightYard", List.mem_of_getElem? (i := 177) (by decide +kernel), rfl⟩⟩, rfl⟩
theorem fb_X6_204 : zFB RX6 204 2 0 false := ⟨_, _, _, _, zct_2, (Nat.le_of_ble_eq_true rfl), ⟨"SpoolwrightYard$Joint", Or.inl rfl, Or.inr ⟨"SpoolwrightYard", List.mem_of_getElem? (i := 141) (by decide +kernel), rfl⟩⟩, rfl⟩
theorem tx_X6_209 : (RX6, 209, "this joint cannot be welded") ∈ ztx := List.mem_of_getElem? (i := 19) (by decide +kernel)
theorem q_127 : zq (.instanceMethod yX3_countNotNew) := ⟨List.mem_of_getElem? (i := 724) (by decide +kernel), rfl⟩
theorem q_128 : zq (.selects RX3 yX3_countNotNew yX3_countNotNew) := ⟨List.mem_of_getElem? (i := 725) (by decide +kernel), rfl⟩
theorem q_129 : zq (.methodLink RX6 215 yX3_countNotNew) := ⟨List.mem_of_getElem? (i := 723) (by decide +kernel), rfl⟩
theorem q_130 : zq (.instanceMethod yX2_fuse) := ⟨List.mem_of_getElem? (i := 720) (by decide +kernel), rfl⟩
theorem q_131 : zq (.selects RX2 yX2_fuse yX2_fuse) := ⟨List.mem_of_getElem? (i := 721) (by decide +kernel), rfl⟩
theorem q_132 : zq (.methodLink RX6 211 yX2_fuse) := ⟨List.mem_of_getElem? (i := 719) (by decide +kernel), rfl⟩
theorem q_133 : zq (.instanceMethod yX6_jointAt) := ⟨List.mem_of_getElem? (i := 716) (by decide +kernel), rfl⟩
theorem q_134 : zq (.selects RX6 yX6_jointAt yX6_jointAt) := ⟨List.mem_of_getElem? (i := 12) (by decide +kernel), rfl⟩
theorem q_135 : zq (.methodLink RX6 200 yX6_jointAt) := ⟨List.mem_of_getElem? (i := 714) (by decide +kernel), rfl⟩
theorem pb_X6_204 : zPB RX6 204 2 0 false .char := ⟨_, _, _, _, zct_2, (Nat.le_of_ble_eq_true rfl), ⟨"SpoolwrightYard$Joint", Or.inl rfl, Or.inr ⟨"SpoolwrightYard", List.mem_of_getElem? (i := 141) (by decide +kernel), rfl⟩⟩, rfl, rfl, rfl⟩
theorem fb_X6_218 : zFB RX6 218 2 2 true := ⟨_, _, _, _, zct_2, (Nat.le_of_ble_eq_true rfl), ⟨"SpoolwrightYard$Joint", Or.inl rfl, Or.inr ⟨"SpoolwrightYard", List.mem_of_getElem? (i := 146) (by decide +kernel), rfl⟩⟩, rfl⟩
theorem fb_X6_224 : zFB RX6 224 5 2 false := ⟨_, _, _, _, zct_5, (Nat.le_of_ble_eq_true rfl), ⟨"SpoolwrightYard$Welder", Or.inl rfl, Or.inr ⟨"SpoolwrightYard", List.mem_of_getElem? (i := 247) (by decide +kernel), rfl⟩⟩, rfl⟩
theorem pb_X6_224 : zPB RX6 224 5 2 false .int := ⟨_, _, _, _, zct_5, (Nat.le_of_ble_eq_true rfl), ⟨"SpoolwrightYard$Welder", Or.inl rfl, Or.inr ⟨"SpoolwrightYard", List.mem_of_getElem? (i := 247) (by decide +kernel), rfl⟩⟩, rfl, rfl, rfl⟩
theorem fb_X6_227 : zFB RX6 227 3 6 false := ⟨_, _, _, _, zct_3, (Nat.le_of_ble_eq_true rfl), ⟨"SpoolwrightYard$Line", Or.inl rfl, Or.inr ⟨"SpoolwrightYard", List.mem_of_getElem? (i := 187) (by decide +kernel), rfl⟩⟩, rfl⟩
theorem pb_X6_227 : zPB RX6 227 3 6 false .int := ⟨_, _, _, _, zct_3, (Nat.le_of_ble_eq_true rfl), ⟨"SpoolwrightYard$Line", Or.inl rfl, Or.inr ⟨"SpoolwrightYard", List.mem_of_getElem? (i := 187) (by decide +kernel), rfl⟩⟩, rfl, rfl, rfl⟩
theorem tx_X6_222 : (RX6, 222, "this joint is not welded") ∈ ztx := List.mem_of_getElem? (i := 20) (by decide +kernel)
theorem tx_X6_231 : (RX6, 231, "this joint cannot be repaired") ∈ ztx := List.mem_of_getElem? (i := 21) (by decide +kernel)
theorem fb_X6_228 : zFB RX6 228 2 1 false := ⟨_, _, _, _, zct_2, (Nat.le_of_ble_eq_true rfl), ⟨"SpoolwrightYard$Joint", Or.inl rfl, Or.inr ⟨"SpoolwrightYard", List.mem_of_getElem? (i := 143) (by decide +kernel), rfl⟩⟩, rfl⟩
theorem pb_X6_228 : zPB RX6 228 2 1 false .int := ⟨_, _, _, _, zct_2, (Nat.le_of_ble_eq_true rfl), ⟨"SpoolwrightYard$Joint", Or.inl rfl, Or.inr ⟨"SpoolwrightYard", List.mem_of_getElem? (i := 143) (by decide +kernel), rfl⟩⟩, rfl, rfl, rfl⟩
theorem tx_X6_233 : (RX6, 233, "this joint cannot be cut out") ∈ ztx := List.mem_of_getElem? (i := 22) (by decide +kernel)
theorem fb_X6_238 : zFB RX6 238 6 10 false := ⟨_, _, _, _, zct_6, (Nat.le_of_ble_eq_true rfl), ⟨"SpoolwrightYard", Or.inl rfl, Or.inl ⟨List.mem_of_getElem? (i := 265) (by decide +kernel), rfl⟩⟩, rfl⟩
theorem pb_X6_238 : zPB RX6 238 6 10 false .int := ⟨_, _, _, _, zct_6, (Nat.le_of_ble_eq_true rfl), ⟨"SpoolwrightYard", Or.inl rfl, Or.inl ⟨List.mem_of_getElem? (i := 265) (by decide +kernel), rfl⟩⟩, rfl, rfl, rfl⟩
theorem q_136 : zq (.methodLink RX6 235 yX2_renew) := ⟨List.mem_of_getElem? (i := 751) (by decide +kernel), rfl⟩
theorem fb_X6_243 : zFB RX6 243 5 0 false := ⟨_, _, _, _, zct_5, (Nat.le_of_ble_eq_true rfl), ⟨"SpoolwrightYard$Welder", Or.inl rfl, Or.inr ⟨"SpoolwrightYard", List.mem_of_getElem? (i := 244) (by decide +kernel), rfl⟩⟩, rfl⟩
theorem tx_X6_241 : (RX6, 241, "this joint is new") ∈ ztx := List.mem_of_getElem? (i := 23) (by decide +kernel)
theorem q_137 : zq (.methodLink RX6 244 yX3_looksDue) := ⟨List.mem_of_getElem? (i := 774) (by decide +kernel), rfl⟩
theorem tx_X6_247 : (RX6, 247, "no such number of days") ∈ ztx := List.mem_of_getElem? (i := 24) (by decide +kernel)
theorem pb_X6_249 : zPB RX6 249 6 8 false .int := ⟨_, _, _, _, zct_6, (Nat.le_of_ble_eq_true rfl), ⟨"SpoolwrightYard", Or.inl rfl, Or.inl ⟨List.mem_of_getElem? (i := 263) (by decide +kernel), rfl⟩⟩, rfl, rfl, rfl⟩
theorem tx_X6_252 : (RX6, 252, "no such day") ∈ ztx := List.mem_of_getElem? (i := 25) (by decide +kernel)
theorem pb_X6_260 : zPB RX6 260 0 1 true (.object "SpoolwrightYard$End") := ⟨_, _, _, _, zct_0, (Nat.le_of_ble_eq_true rfl), ⟨"SpoolwrightYard$End", Or.inl rfl, Or.inr ⟨"SpoolwrightYard", List.mem_of_getElem? (i := 163) (by decide +kernel), rfl⟩⟩, rfl, rfl, rfl⟩
theorem tx_X6_270 : (RX6, 270, "these ends cannot be joined") ∈ ztx := List.mem_of_getElem? (i := 27) (by decide +kernel)
theorem q_138 : zq (.instanceMethod yX0_isFree) := ⟨List.mem_of_getElem? (i := 817) (by decide +kernel), rfl⟩
theorem q_139 : zq (.selects RX0 yX0_isFree yX0_isFree) := ⟨List.mem_of_getElem? (i := 818) (by decide +kernel), rfl⟩
theorem q_140 : zq (.methodLink RX6 266 yX0_isFree) := ⟨List.mem_of_getElem? (i := 816) (by decide +kernel), rfl⟩
theorem fb_X6_260 : zFB RX6 260 0 1 true := ⟨_, _, _, _, zct_0, (Nat.le_of_ble_eq_true rfl), ⟨"SpoolwrightYard$End", Or.inl rfl, Or.inr ⟨"SpoolwrightYard", List.mem_of_getElem? (i := 163) (by decide +kernel), rfl⟩⟩, rfl⟩
theorem tx_X6_258 : (RX6, 258, "a line is not joined to itself") ∈ ztx := List.mem_of_getElem? (i := 26) (by decide +kernel)
theorem q_141 : zq (.instanceMethod yX3_endAt) := ⟨List.mem_of_getElem? (i := 812) (by decide +kernel), rfl⟩
theorem q_142 : zq (.selects RX3 yX3_endAt yX3_endAt) := ⟨List.mem_of_getElem? (i := 813) (by decide +kernel), rfl⟩
theorem q_143 : zq (.methodLink RX6 254 yX3_endAt) := ⟨List.mem_of_getElem? (i := 811) (by decide +kernel), rfl⟩
theorem fb_X6_274 : zFB RX6 274 0 2 false := ⟨_, _, _, _, zct_0, (Nat.le_of_ble_eq_true rfl), ⟨"SpoolwrightYard$End", Or.inl rfl, Or.inr ⟨"SpoolwrightYard", List.mem_of_getElem? (i := 166) (by decide +kernel), rfl⟩⟩, rfl⟩
theorem pb_X6_274 : zPB RX6 274 0 2 false .boolean := ⟨_, _, _, _, zct_0, (Nat.le_of_ble_eq_true rfl), ⟨"SpoolwrightYard$End", Or.inl rfl, Or.inr ⟨"SpoolwrightYard", List.mem_of_getElem? (i := 166) (by decide +kernel), rfl⟩⟩, rfl, rfl, rfl⟩
theorem tx_X6_272 : (RX6, 272, "this end is joined") ∈ ztx := List.mem_of_getElem? (i := 28) (by decide +kernel)
theorem tx_X6_277 : (RX6, 277, "no such lines") ∈ ztx := List.mem_of_getElem? (i := 29) (by decide +kernel)
theorem fb_X6_279 : zFB RX6 279 6 7 false := ⟨_, _, _, _, zct_6, (Nat.le_of_ble_eq_true rfl), ⟨"SpoolwrightYard", Or.inl rfl, Or.inl ⟨List.mem_of_getElem? (i := 262) (by decide +kernel), rfl⟩⟩, rfl⟩
theorem fb_X6_27 : zFB RX6 27 6 3 true := ⟨_, _, _, _, zct_6, (Nat.le_of_ble_eq_true rfl), ⟨"SpoolwrightYard", Or.inl rfl, Or.inl ⟨List.mem_of_getElem? (i := 258) (by decide +kernel), rfl⟩⟩, rfl⟩
theorem pb_X6_279 : zPB RX6 279 6 7 false .int := ⟨_, _, _, _, zct_6, (Nat.le_of_ble_eq_true rfl), ⟨"SpoolwrightYard", Or.inl rfl, Or.inl ⟨List.mem_of_getElem? (i := 262) (by decide +kernel), rfl⟩⟩, rfl, rfl, rfl⟩
theorem tx_X6_282 : (RX6, 282, "no room for a circuit") ∈ ztx := List.mem_of_getElem? (i := 30) (by decide +kernel)
theorem tx_X6_387 : (RX6, 387, "no such circuit") ∈ ztx := List.mem_of_getElem? (i := 31) (by decide +kernel)
theorem fb_X6_367 : zFB RX6 367 3 3 true := ⟨_, _, _, _, zct_3, (Nat.le_of_ble_eq_true rfl), ⟨"SpoolwrightYard$Line", Or.inl rfl, Or.inr ⟨"SpoolwrightYard", List.mem_of_getElem? (i := 181) (by decide +kernel), rfl⟩⟩, rfl⟩
theorem fb_X6_389 : zFB RX6 389 0 0 false := ⟨_, _, _, _, zct_0, (Nat.le_of_ble_eq_true rfl), ⟨"SpoolwrightYard$End", Or.inl rfl, Or.inr ⟨"SpoolwrightYard", List.mem_of_getElem? (i := 161) (by decide +kernel), rfl⟩⟩, rfl⟩
theorem q_144 : zq (.static yX6_hasBit) := ⟨List.mem_of_getElem? (i := 325) (by decide +kernel), rfl⟩
theorem q_145 : zq (.methodLink RX6 295 yX6_hasBit) := ⟨List.mem_of_getElem? (i := 324) (by decide +kernel), rfl⟩
theorem q_146 : zq (.static yX6_isOpen) := ⟨List.mem_of_getElem? (i := 855) (by decide +kernel), rfl⟩
theorem q_147 : zq (.methodLink RX6 392 yX6_isOpen) := ⟨List.mem_of_getElem? (i := 854) (by decide +kernel), rfl⟩
theorem fb_X6_361 : zFB RX6 361 3 2 true := ⟨_, _, _, _, zct_3, (Nat.le_of_ble_eq_true rfl), ⟨"SpoolwrightYard$Line", Or.inl rfl, Or.inr ⟨"SpoolwrightYard", List.mem_of_getElem? (i := 179) (by decide +kernel), rfl⟩⟩, rfl⟩
theorem q_148 : zq (.instanceMethod yX6_countOpenEnds) := ⟨List.mem_of_getElem? (i := 852) (by decide +kernel), rfl⟩
theorem q_149 : zq (.selects RX6 yX6_countOpenEnds yX6_countOpenEnds) := ⟨List.mem_of_getElem? (i := 14) (by decide +kernel), rfl⟩
theorem q_150 : zq (.methodLink RX6 287 yX6_countOpenEnds) := ⟨List.mem_of_getElem? (i := 850) (by decide +kernel), rfl⟩
theorem q_151 : zq (.instanceMethod yX6_circuitAt) := ⟨List.mem_of_getElem? (i := 847) (by decide +kernel), rfl⟩
theorem q_152 : zq (.selects RX6 yX6_circuitAt yX6_circuitAt) := ⟨List.mem_of_getElem? (i := 13) (by decide +kernel), rfl⟩
theorem q_153 : zq (.methodLink RX6 284 yX6_circuitAt) := ⟨List.mem_of_getElem? (i := 845) (by decide +kernel), rfl⟩
theorem q_154 : zq (.instanceMethod yX3_canBeTested) := ⟨List.mem_of_getElem? (i := 869) (by decide +kernel), rfl⟩
theorem q_155 : zq (.selects RX3 yX3_canBeTested yX3_canBeTested) := ⟨List.mem_of_getElem? (i := 870) (by decide +kernel), rfl⟩
theorem q_156 : zq (.methodLink RX6 396 yX3_canBeTested) := ⟨List.mem_of_getElem? (i := 868) (by decide +kernel), rfl⟩
theorem q_157 : zq (.instanceMethod yX6_isTestable) := ⟨List.mem_of_getElem? (i := 866) (by decide +kernel), rfl⟩
theorem q_158 : zq (.selects RX6 yX6_isTestable yX6_isTestable) := ⟨List.mem_of_getElem? (i := 15) (by decide +kernel), rfl⟩
theorem q_159 : zq (.methodLink RX6 290 yX6_isTestable) := ⟨List.mem_of_getElem? (i := 864) (by decide +kernel), rfl⟩
theorem fb_X6_101 : zFB RX6 101 3 7 false := ⟨_, _, _, _, zct_3, (Nat.le_of_ble_eq_true rfl), ⟨"SpoolwrightYard$Line", Or.inl rfl, Or.inr ⟨"SpoolwrightYard", List.mem_of_getElem? (i := 189) (by decide +kernel), rfl⟩⟩, rfl⟩
theorem tx_X6_293 : (RX6, 293, "this circuit cannot be tested") ∈ ztx := List.mem_of_getElem? (i := 32) (by decide +kernel)
theorem q_160 : zq (.methodLink RX6 298 yX3_firstLack) := ⟨List.mem_of_getElem? (i := 895) (by decide +kernel), rfl⟩
theorem q_161 : zq (.instanceMethod yX6_countLacking) := ⟨List.mem_of_getElem? (i := 916) (by decide +kernel), rfl⟩
theorem q_162 : zq (.selects RX6 yX6_countLacking yX6_countLacking) := ⟨List.mem_of_getElem? (i := 16) (by decide +kernel), rfl⟩
theorem q_163 : zq (.methodLink RX6 308 yX6_countLacking) := ⟨List.mem_of_getElem? (i := 914) (by decide +kernel), rfl⟩
theorem tx_X6_306 : (RX6, 306, "no such lack") ∈ ztx := List.mem_of_getElem? (i := 33) (by decide +kernel)
theorem q_164 : zq (.static yX6_isLack) := ⟨List.mem_of_getElem? (i := 911) (by decide +kernel), rfl⟩
theorem q_165 : zq (.methodLink RX6 302 yX6_isLack) := ⟨List.mem_of_getElem? (i := 910) (by decide +kernel), rfl⟩
theorem fb_X6_322 : zFB RX6 322 3 8 false := ⟨_, _, _, _, zct_3, (Nat.le_of_ble_eq_true rfl), ⟨"SpoolwrightYard$Line", Or.inl rfl, Or.inr ⟨"SpoolwrightYard", List.mem_of_getElem? (i := 190) (by decide +kernel), rfl⟩⟩, rfl⟩
theorem pb_X6_322 : zPB RX6 322 3 8 false .int := ⟨_, _, _, _, zct_3, (Nat.le_of_ble_eq_true rfl), ⟨"SpoolwrightYard$Line", Or.inl rfl, Or.inr ⟨"SpoolwrightYard", List.mem_of_getElem? (i := 190) (by decide +kernel), rfl⟩⟩, rfl, rfl, rfl⟩
theorem tx_X6_320 : (RX6, 320, "a line would come ahead of itself") ∈ ztx := List.mem_of_getElem? (i := 35) (by decide +kernel)
theorem q_166 : zq (.instanceMethod yX6_allAheadOf) := ⟨List.mem_of_getElem? (i := 322) (by decide +kernel), rfl⟩
theorem q_167 : zq (.selects RX6 yX6_allAheadOf yX6_allAheadOf) := ⟨List.mem_of_getElem? (i := 1) (by decide +kernel), rfl⟩
theorem q_168 : zq (.methodLink RX6 317 yX6_allAheadOf) := ⟨List.mem_of_getElem? (i := 320) (by decide +kernel), rfl⟩
theorem tx_X6_315 : (RX6, 315, "a line is not ahead of itself") ∈ ztx := List.mem_of_getElem? (i := 34) (by decide +kernel)
theorem q_169 : zq (.instanceMethod yX3_isComplete) := ⟨List.mem_of_getElem? (i := 935) (by decide +kernel), rfl⟩
theorem q_170 : zq (.selects RX3 yX3_isComplete yX3_isComplete) := ⟨List.mem_of_getElem? (i := 936) (by decide +kernel), rfl⟩
theorem q_171 : zq (.methodLink RX6 325 yX3_isComplete) := ⟨List.mem_of_getElem? (i := 934) (by decide +kernel), rfl⟩
theorem q_172 : zq (.instanceMethod yX6_nextOver) := ⟨List.mem_of_getElem? (i := 949) (by decide +kernel), rfl⟩
theorem q_173 : zq (.selects RX6 yX6_nextOver yX6_nextOver) := ⟨List.mem_of_getElem? (i := 17) (by decide +kernel), rfl⟩
theorem q_174 : zq (.methodLink RX6 333 yX6_nextOver) := ⟨List.mem_of_getElem? (i := 947) (by decide +kernel), rfl⟩
theorem tx_X6_331 : (RX6, 331, "no such turnover") ∈ ztx := List.mem_of_getElem? (i := 36) (by decide +kernel)
theorem q_175 : zq (.constantLong RX6 341 31) := ⟨List.mem_of_getElem? (i := 302) (by decide +kernel), rfl⟩
theorem q_176 : zq (.constantLong RX6 336 7) := ⟨List.mem_of_getElem? (i := 297) (by decide +kernel), rfl⟩
theorem zx_X6_347 : zEX RX6 347 351 6 := ⟨⟨⟨List.mem_of_getElem? (i := 972) (by decide +kernel), rfl⟩, ⟨List.mem_of_getElem? (i := 89) (by decide +kernel), rfl⟩, fun w hw => (by decide +kernel : ∀ w ∈ vx_atS RX6 351 (zex 6) ["java/lang/RuntimeException", "java/lang/Exception"], w ∈ lw_tbl ∧ tbw w = true) w hw⟩, by decide +kernel, by decide +kernel, by decide +kernel⟩
theorem tx_X6_349 : (RX6, 349, "no joints") ∈ ztx := List.mem_of_getElem? (i := 37) (by decide +kernel)
theorem tx_X6_352 : (RX6, 352, "no spools") ∈ ztx := List.mem_of_getElem? (i := 38) (by decide +kernel)
theorem q_177 : zq (.instanceMethod yX0_isSoundEnd) := ⟨List.mem_of_getElem? (i := 317) (by decide +kernel), rfl⟩
theorem q_178 : zq (.selects RX0 yX0_isSoundEnd yX0_isSoundEnd) := ⟨List.mem_of_getElem? (i := 318) (by decide +kernel), rfl⟩
theorem q_179 : zq (.methodLink RX6 364 yX0_isSoundEnd) := ⟨List.mem_of_getElem? (i := 316) (by decide +kernel), rfl⟩
theorem q_180 : zq (.instanceMethod yX3_areJointsSound) := ⟨List.mem_of_getElem? (i := 312) (by decide +kernel), rfl⟩
theorem q_181 : zq (.selects RX3 yX3_areJointsSound yX3_areJointsSound) := ⟨List.mem_of_getElem? (i := 313) (by decide +kernel), rfl⟩
theorem q_182 : zq (.methodLink RX6 358 yX3_areJointsSound) := ⟨List.mem_of_getElem? (i := 311) (by decide +kernel), rfl⟩
theorem fb_X6_141 : zFB RX6 141 1 2 false := ⟨_, _, _, _, zct_1, (Nat.le_of_ble_eq_true rfl), ⟨"SpoolwrightYard$Heat", Or.inl rfl, Or.inr ⟨"SpoolwrightYard", List.mem_of_getElem? (i := 220) (by decide +kernel), rfl⟩⟩, rfl⟩
theorem q_183 : zq (.instanceMethod yX6_sizeGivenFrom) := ⟨List.mem_of_getElem? (i := 309) (by decide +kernel), rfl⟩
theorem q_184 : zq (.selects RX6 yX6_sizeGivenFrom yX6_sizeGivenFrom) := ⟨List.mem_of_getElem? (i := 0) (by decide +kernel), rfl⟩
theorem q_185 : zq (.methodLink RX6 354 yX6_sizeGivenFrom) := ⟨List.mem_of_getElem? (i := 307) (by decide +kernel), rfl⟩
theorem pf_X7_7 : zPF RX7 7 7 0 false .int := ⟨_, _, _, _, zct_7, (Nat.le_of_ble_eq_true rfl), ⟨"SpoolwrightYardModel$Heat", Or.inl rfl, Or.inl ⟨List.mem_of_getElem? (i := 1397) (by decide +kernel), rfl⟩⟩, rfl, ⟨rfl, rfl⟩, rfl⟩
theorem pb_X7_13 : zPB RX7 13 7 1 false .int := ⟨_, _, _, _, zct_7, (Nat.le_of_ble_eq_true rfl), ⟨"SpoolwrightYardModel$Heat", Or.inl rfl, Or.inl ⟨List.mem_of_getElem? (i := 1399) (by decide +kernel), rfl⟩⟩, rfl, rfl, rfl⟩
theorem pb_X7_16 : zPB RX7 16 7 2 false .boolean := ⟨_, _, _, _, zct_7, (Nat.le_of_ble_eq_true rfl), ⟨"SpoolwrightYardModel$Heat", Or.inl rfl, Or.inl ⟨List.mem_of_getElem? (i := 1401) (by decide +kernel), rfl⟩⟩, rfl, rfl, rfl⟩
theorem q_186 : zq (.methodLink RX7 1 objectInit) := ⟨List.mem_of_getElem? (i := 1396) (by decide +kernel), rfl⟩
theorem pb_X8_9 : zPB RX8 9 8 0 false .char := ⟨_, _, _, _, zct_8, (Nat.le_of_ble_eq_true rfl), ⟨"SpoolwrightYardModel$Joint", Or.inl rfl, Or.inl ⟨List.mem_of_getElem? (i := 1232) (by decide +kernel), rfl⟩⟩, rfl, rfl, rfl⟩
theorem pb_X8_15 : zPB RX8 15 8 2 false .int := ⟨_, _, _, _, zct_8, (Nat.le_of_ble_eq_true rfl), ⟨"SpoolwrightYardModel$Joint", Or.inl rfl, Or.inl ⟨List.mem_of_getElem? (i := 1236) (by decide +kernel), rfl⟩⟩, rfl, rfl, rfl⟩
theorem q_187 : zq (.methodLink RX8 3 objectInit) := ⟨List.mem_of_getElem? (i := 1231) (by decide +kernel), rfl⟩
theorem q_188 : zq (.classLink RX9 9 RJx4a65c) := ⟨List.mem_of_getElem? (i := 1074) (by decide +kernel), rfl⟩
theorem q_189 : zq (.instantiable RJx4a65c 3) := ⟨List.mem_of_getElem? (i := 990) (by decide +kernel), rfl⟩
theorem q_190 : zq (.initialized RJx4a65c) := ⟨List.mem_of_getElem? (i := 60) (by decide +kernel), rfl⟩
theorem q_191 : zq (.methodLink RJxa1e45 1 objectInit) := ⟨List.mem_of_getElem? (i := 1000) (by decide +kernel), rfl⟩
theorem pb_Jxc12de_7 : zPB RJxc12de 7 13 0 false .int := ⟨_, _, _, _, zct_13, (Nat.le_of_ble_eq_true rfl), ⟨"java/util/AbstractList", Or.inl rfl, Or.inl ⟨List.mem_of_getElem? (i := 1007) (by decide +kernel), rfl⟩⟩, rfl, rfl, rfl⟩
theorem q_192 : zq (.instanceMethod yJxa1e45_init_da8c8) := ⟨List.mem_of_getElem? (i := 998) (by decide +kernel), rfl⟩
theorem q_193 : zq (.methodLink RJxc12de 1 yJxa1e45_init_da8c8) := ⟨List.mem_of_getElem? (i := 997) (by decide +kernel), rfl⟩
theorem q_194 : zq (.fieldLink RJx4a65c 39 "java/util/ArrayList" "DEFAULTCAPACITY_EMPTY_ELEMENTDATA" "[Ljava/lang/Object;") := ⟨List.mem_of_getElem? (i := 1001) (by decide +kernel), rfl⟩
theorem pb_Jx4a65c_9 : zPB RJx4a65c 9 13 1 true (.array (.object "java/lang/Object")) := ⟨_, _, _, _, zct_13, (Nat.le_of_ble_eq_true rfl), ⟨"java/util/ArrayList", Or.inl rfl, Or.inl ⟨List.mem_of_getElem? (i := 1003) (by decide +kernel), rfl⟩⟩, rfl, rfl, rfl⟩
theorem q_195 : zq (.instanceMethod yJxc12de_init_da8c8) := ⟨List.mem_of_getElem? (i := 995) (by decide +kernel), rfl⟩
theorem q_196 : zq (.methodLink RJx4a65c 1 yJxc12de_init_da8c8) := ⟨List.mem_of_getElem? (i := 994) (by decide +kernel), rfl⟩
theorem pf_X9_12 : zPF RX9 12 9 1 true (.object "java/util/List") := ⟨_, _, _, _, zct_9, (Nat.le_of_ble_eq_true rfl), ⟨"SpoolwrightYardModel$Line", Or.inl rfl, Or.inl ⟨List.mem_of_getElem? (i := 1077) (by decide +kernel), rfl⟩⟩, rfl, ⟨rfl, rfl⟩, rfl⟩
theorem pf_X9_18 : zPF RX9 18 9 2 true (.object "java/util/List") := ⟨_, _, _, _, zct_9, (Nat.le_of_ble_eq_true rfl), ⟨"SpoolwrightYardModel$Line", Or.inl rfl, Or.inl ⟨List.mem_of_getElem? (i := 1079) (by decide +kernel), rfl⟩⟩, rfl, ⟨rfl, rfl⟩, rfl⟩
theorem pf_X9_21 : zPF RX9 21 9 3 true (.array .int) := ⟨_, _, _, _, zct_9, (Nat.le_of_ble_eq_true rfl), ⟨"SpoolwrightYardModel$Line", Or.inl rfl, Or.inl ⟨List.mem_of_getElem? (i := 1081) (by decide +kernel), rfl⟩⟩, rfl, ⟨rfl, rfl⟩, rfl⟩
theorem q_197 : zq (.arrayClass (newarray.typeOf .boolean)) := ⟨List.mem_of_getElem? (i := 1106) (by decide +kernel), rfl⟩
theorem pf_X9_25 : zPF RX9 25 9 4 true (.array .boolean) := ⟨_, _, _, _, zct_9, (Nat.le_of_ble_eq_true rfl), ⟨"SpoolwrightYardModel$Line", Or.inl rfl, Or.inl ⟨List.mem_of_getElem? (i := 1083) (by decide +kernel), rfl⟩⟩, rfl, ⟨rfl, rfl⟩, rfl⟩
theorem pf_X9_29 : zPF RX9 29 9 0 false .int := ⟨_, _, _, _, zct_9, (Nat.le_of_ble_eq_true rfl), ⟨"SpoolwrightYardModel$Line", Or.inl rfl, Or.inl ⟨List.mem_of_getElem? (i := 1076) (by decide +kernel), rfl⟩⟩, rfl, ⟨rfl, rfl⟩, rfl⟩
theorem q_198 : zq (.instanceMethod yJx4a65c_init_da8c8) := ⟨List.mem_of_getElem? (i := 992) (by decide +kernel), rfl⟩
theorem q_199 : zq (.methodLink RX9 11 yJx4a65c_init_da8c8) := ⟨List.mem_of_getElem? (i := 1075) (by decide +kernel), rfl⟩
theorem q_200 : zq (.methodLink RX9 3 objectInit) := ⟨List.mem_of_getElem? (i := 1073) (by decide +kernel), rfl⟩
theorem fb_Jx35411_25 : zFB RJx35411 25 14 0 false := ⟨_, _, _, _, zct_14, (Nat.le_of_ble_eq_true rfl), ⟨"java/util/ArrayList$Itr", Or.inl rfl, Or.inl ⟨List.mem_of_getElem? (i := 1306) (by decide +kernel), rfl⟩⟩, rfl⟩
theorem fb_Jx35411_1 : zFB RJx35411 1 14 3 true := ⟨_, _, _, _, zct_14, (Nat.le_of_ble_eq_true rfl), ⟨"java/util/ArrayList$Itr", Or.inl rfl, Or.inl ⟨List.mem_of_getElem? (i := 1309) (by decide +kernel), rfl⟩⟩, rfl⟩
theorem fb_Jx35411_28 : zFB RJx35411 28 13 2 false := ⟨_, _, _, _, zct_13, (Nat.le_of_ble_eq_true rfl), ⟨"java/util/ArrayList", Or.inl rfl, Or.inr ⟨"java/util/ArrayList", List.mem_of_getElem? (i := 1005) (by decide +kernel), rfl⟩⟩, rfl⟩
theorem fb_Jx35411_17 : zFB RJx35411 17 13 0 false := ⟨_, _, _, _, zct_13, (Nat.le_of_ble_eq_true rfl), ⟨"java/util/ArrayList", Or.inr ⟨List.mem_of_getElem? (i := 1009) (by decide +kernel), rfl⟩, Or.inl ⟨List.mem_of_getElem? (i := 1008) (by decide +kernel), rfl⟩⟩, rfl⟩
theorem fb_Jx35411_22 : zFB RJx35411 22 14 2 false := ⟨_, _, _, _, zct_14, (Nat.le_of_ble_eq_true rfl), ⟨"java/util/ArrayList$Itr", Or.inl rfl, Or.inl ⟨List.mem_of_getElem? (i := 1308) (by decide +kernel), rfl⟩⟩, rfl⟩
theorem fb_Jx35411_37 : zFB RJx35411 37 13 1 true := ⟨_, _, _, _, zct_13, (Nat.le_of_ble_eq_true rfl), ⟨"java/util/ArrayList", Or.inl rfl, Or.inl ⟨List.mem_of_getElem? (i := 1004) (by decide +kernel), rfl⟩⟩, rfl⟩
theorem pb_Jx35411_25 : zPB RJx35411 25 14 0 false .int := ⟨_, _, _, _, zct_14, (Nat.le_of_ble_eq_true rfl), ⟨"java/util/ArrayList$Itr", Or.inl rfl, Or.inl ⟨List.mem_of_getElem? (i := 1306) (by decide +kernel), rfl⟩⟩, rfl, rfl, rfl⟩
theorem pb_Jx35411_13 : zPB RJx35411 13 14 1 false .int := ⟨_, _, _, _, zct_14, (Nat.le_of_ble_eq_true rfl), ⟨"java/util/ArrayList$Itr", Or.inl rfl, Or.inl ⟨List.mem_of_getElem? (i := 1307) (by decide +kernel), rfl⟩⟩, rfl, rfl, rfl⟩
theorem q_201 : zq (.instanceMethod yJx35411_checkForComodification_da8c8) := ⟨List.mem_of_getElem? (i := 1339) (by decide +kernel), rfl⟩
theorem q_202 : zq (.selects RJx35411 yJx35411_checkForComodification_da8c8 yJx35411_checkForComodification_da8c8) := ⟨List.mem_of_getElem? (i := 1340) (by decide +kernel), rfl⟩
theorem q_203 : zq (.methodLink RJx35411 31 yJx35411_checkForComodification_da8c8) := ⟨List.mem_of_getElem? (i := 1338) (by decide +kernel), rfl⟩
theorem q_204 : zq (.classLink RX9 49 RX10) := ⟨List.mem_of_getElem? (i := 1353) (by decide +kernel), rfl⟩
theorem fb_X9_51 : zFB RX9 51 10 1 false := ⟨_, _, _, _, zct_10, (Nat.le_of_ble_eq_true rfl), ⟨"SpoolwrightYardModel$Part", Or.inl rfl, Or.inr ⟨"SpoolwrightYardModel", List.mem_of_getElem? (i := 1215) (by decide +kernel), rfl⟩⟩, rfl⟩
theorem q_205 : zq (.instanceMethod yJx35411_next_0502b) := ⟨List.mem_of_getElem? (i := 1335) (by decide +kernel), rfl⟩
theorem q_206 : zq (.selects RJx35411 ⟨"java/util/Iterator", "next", "()Ljava/lang/Object;"⟩ yJx35411_next_0502b) := ⟨List.mem_of_getElem? (i := 1333) (by decide +kernel), rfl⟩
theorem q_207 : zq (.methodLink RX9 45 ⟨"java/util/Iterator", "next", "()Ljava/lang/Object;"⟩) := ⟨List.mem_of_getElem? (i := 1330) (by decide +kernel), rfl⟩
theorem fw_0 : (RJx35411, (⟨"java/util/Iterator", "next", "()Ljava/lang/Object;"⟩ : MethodName), yJx35411_next_0502b) ∈ zfw := List.mem_of_getElem? (i := 6) (by decide +kernel)
theorem q_208 : zq (.instanceMethod yJx35411_hasNext_aae02) := ⟨List.mem_of_getElem? (i := 1326) (by decide +kernel), rfl⟩
theorem q_209 : zq (.selects RJx35411 ⟨"java/util/Iterator", "hasNext", "()Z"⟩ yJx35411_hasNext_aae02) := ⟨List.mem_of_getElem? (i := 1324) (by decide +kernel), rfl⟩
theorem q_210 : zq (.methodLink RX9 39 ⟨"java/util/Iterator", "hasNext", "()Z"⟩) := ⟨List.mem_of_getElem? (i := 1320) (by decide +kernel), rfl⟩
theorem fw_1 : (RJx35411, (⟨"java/util/Iterator", "hasNext", "()Z"⟩ : MethodName), yJx35411_hasNext_aae02) ∈ zfw := List.mem_of_getElem? (i := 5) (by decide +kernel)
theorem fb_X9_12 : zFB RX9 12 9 1 true := ⟨_, _, _, _, zct_9, (Nat.le_of_ble_eq_true rfl), ⟨"SpoolwrightYardModel$Line", Or.inl rfl, Or.inl ⟨List.mem_of_getElem? (i := 1077) (by decide +kernel), rfl⟩⟩, rfl⟩
theorem q_211 : zq (.classLink RJx4a65c 267 RJx35411) := ⟨List.mem_of_getElem? (i := 1300) (by decide +kernel), rfl⟩
theorem q_212 : zq (.instantiable RJx35411 4) := ⟨List.mem_of_getElem? (i := 1301) (by decide +kernel), rfl⟩
theorem q_213 : zq (.initialized RJx35411) := ⟨List.mem_of_getElem? (i := 79) (by decide +kernel), rfl⟩
theorem pf_Jx35411_1 : zPF RJx35411 1 14 3 true (.object "java/util/ArrayList") := ⟨_, _, _, _, zct_14, (Nat.le_of_ble_eq_true rfl), ⟨"java/util/ArrayList$Itr", Or.inl rfl, Or.inl ⟨List.mem_of_getElem? (i := 1309) (by decide +kernel), rfl⟩⟩, rfl, ⟨rfl, rfl⟩, rfl⟩
theorem pb_Jx35411_22 : zPB RJx35411 22 14 2 false .int := ⟨_, _, _, _, zct_14, (Nat.le_of_ble_eq_true rfl), ⟨"java/util/ArrayList$Itr", Or.inl rfl, Or.inl ⟨List.mem_of_getElem? (i := 1308) (by decide +kernel), rfl⟩⟩, rfl, rfl, rfl⟩
theorem q_214 : zq (.methodLink RJx35411 7 objectInit) := ⟨List.mem_of_getElem? (i := 1305) (by decide +kernel), rfl⟩
theorem q_215 : zq (.instanceMethod yJx35411_init_45d68) := ⟨List.mem_of_getElem? (i := 1303) (by decide +kernel), rfl⟩
theorem q_216 : zq (.methodLink RJx4a65c 269 yJx35411_init_45d68) := ⟨List.mem_of_getElem? (i := 1302) (by decide +kernel), rfl⟩
theorem q_217 : zq (.instanceMethod yJx4a65c_iterator_32c93) := ⟨List.mem_of_getElem? (i := 1297) (by decide +kernel), rfl⟩
theorem q_218 : zq (.selects RJx4a65c ⟨"java/util/List", "iterator", "()Ljava/util/Iterator;"⟩ yJx4a65c_iterator_32c93) := ⟨List.mem_of_getElem? (i := 1295) (by decide +kernel), rfl⟩
theorem q_219 : zq (.methodLink RX9 33 ⟨"java/util/List", "iterator", "()Ljava/util/Iterator;"⟩) := ⟨List.mem_of_getElem? (i := 1292) (by decide +kernel), rfl⟩
theorem fw_2 : (RJx4a65c, (⟨"java/util/List", "iterator", "()Ljava/util/Iterator;"⟩ : MethodName), yJx4a65c_iterator_32c93) ∈ zfw := List.mem_of_getElem? (i := 4) (by decide +kernel)
theorem fb_X9_62 : zFB RX9 62 10 0 false := ⟨_, _, _, _, zct_10, (Nat.le_of_ble_eq_true rfl), ⟨"SpoolwrightYardModel$Part", Or.inl rfl, Or.inr ⟨"SpoolwrightYardModel", List.mem_of_getElem? (i := 1212) (by decide +kernel), rfl⟩⟩, rfl⟩
theorem fb_Jx4a65c_48 : zFB RJx4a65c 48 13 2 false := ⟨_, _, _, _, zct_13, (Nat.le_of_ble_eq_true rfl), ⟨"java/util/ArrayList", Or.inl rfl, Or.inl ⟨List.mem_of_getElem? (i := 1006) (by decide +kernel), rfl⟩⟩, rfl⟩
theorem q_220 : zq (.static yJ3_checkIndex_8e157) := ⟨List.mem_of_getElem? (i := 1199) (by decide +kernel), rfl⟩
theorem q_221 : zq (.methodLink RJ15 105 yJ3_checkIndex_8e157) := ⟨List.mem_of_getElem? (i := 1198) (by decide +kernel), rfl⟩
theorem fb_Jx4a65c_9 : zFB RJx4a65c 9 13 1 true := ⟨_, _, _, _, zct_13, (Nat.le_of_ble_eq_true rfl), ⟨"java/util/ArrayList", Or.inl rfl, Or.inl ⟨List.mem_of_getElem? (i := 1003) (by decide +kernel), rfl⟩⟩, rfl⟩
theorem q_222 : zq (.instanceMethod yJx4a65c_elementData_915e3) := ⟨List.mem_of_getElem? (i := 1202) (by decide +kernel), rfl⟩
theorem q_223 : zq (.selects RJx4a65c yJx4a65c_elementData_915e3 yJx4a65c_elementData_915e3) := ⟨List.mem_of_getElem? (i := 1203) (by decide +kernel), rfl⟩
theorem q_224 : zq (.methodLink RJx4a65c 123 yJx4a65c_elementData_915e3) := ⟨List.mem_of_getElem? (i := 1201) (by decide +kernel), rfl⟩
theorem q_225 : zq (.static yJ15_checkIndex_7cf53) := ⟨List.mem_of_getElem? (i := 1196) (by decide +kernel), rfl⟩
theorem q_226 : zq (.methodLink RJx4a65c 118 yJ15_checkIndex_7cf53) := ⟨List.mem_of_getElem? (i := 1195) (by decide +kernel), rfl⟩
theorem q_227 : zq (.instanceMethod yJx4a65c_get_915e3) := ⟨List.mem_of_getElem? (i := 1192) (by decide +kernel), rfl⟩
theorem q_228 : zq (.selects RJx4a65c ⟨"java/util/List", "get", "(I)Ljava/lang/Object;"⟩ yJx4a65c_get_915e3) := ⟨List.mem_of_getElem? (i := 1190) (by decide +kernel), rfl⟩
theorem q_229 : zq (.methodLink RX9 58 ⟨"java/util/List", "get", "(I)Ljava/lang/Object;"⟩) := ⟨List.mem_of_getElem? (i := 1378) (by decide +kernel), rfl⟩
theorem fw_3 : (RJx4a65c, (⟨"java/util/List", "get", "(I)Ljava/lang/Object;"⟩ : MethodName), yJx4a65c_get_915e3) ∈ zfw := List.mem_of_getElem? (i := 2) (by decide +kernel)
theorem q_230 : zq (.instanceMethod yJx4a65c_size_8abf5) := ⟨List.mem_of_getElem? (i := 1061) (by decide +kernel), rfl⟩
theorem q_231 : zq (.selects RJx4a65c ⟨"java/util/List", "size", "()I"⟩ yJx4a65c_size_8abf5) := ⟨List.mem_of_getElem? (i := 1059) (by decide +kernel), rfl⟩
theorem q_232 : zq (.methodLink RX9 54 ⟨"java/util/List", "size", "()I"⟩) := ⟨List.mem_of_getElem? (i := 1372) (by decide +kernel), rfl⟩
theorem fw_4 : (RJx4a65c, (⟨"java/util/List", "size", "()I"⟩ : MethodName), yJx4a65c_size_8abf5) ∈ zfw := List.mem_of_getElem? (i := 0) (by decide +kernel)
theorem q_233 : zq (.instanceMethod yX9_spool) := ⟨List.mem_of_getElem? (i := 1375) (by decide +kernel), rfl⟩
theorem q_234 : zq (.selects RX9 yX9_spool yX9_spool) := ⟨List.mem_of_getElem? (i := 31) (by decide +kernel), rfl⟩
theorem q_235 : zq (.methodLink RX9 69 yX9_spool) := ⟨List.mem_of_getElem? (i := 1373) (by decide +kernel), rfl⟩
theorem q_236 : zq (.instanceMethod yJx4a65c_isEmpty_aae02) := ⟨List.mem_of_getElem? (i := 1368) (by decide +kernel), rfl⟩
theorem q_237 : zq (.selects RJx4a65c ⟨"java/util/List", "isEmpty", "()Z"⟩ yJx4a65c_isEmpty_aae02) := ⟨List.mem_of_getElem? (i := 1366) (by decide +kernel), rfl⟩
theorem q_238 : zq (.methodLink RX9 66 ⟨"java/util/List", "isEmpty", "()Z"⟩) := ⟨List.mem_of_getElem? (i := 1363) (by decide +kernel), rfl⟩
theorem fw_5 : (RJx4a65c, (⟨"java/util/List", "isEmpty", "()Z"⟩ : MethodName), yJx4a65c_isEmpty_aae02) ∈ zfw := List.mem_of_getElem? (i := 7) (by decide +kernel)
theorem q_239 : zq (.classLink RX9 73 RX8) := ⟨List.mem_of_getElem? (i := 1493) (by decide +kernel), rfl⟩
theorem fb_X9_75 : zFB RX9 75 8 0 false := ⟨_, _, _, _, zct_8, (Nat.le_of_ble_eq_true rfl), ⟨"SpoolwrightYardModel$Joint", Or.inl rfl, Or.inr ⟨"SpoolwrightYardModel", List.mem_of_getElem? (i := 1233) (by decide +kernel), rfl⟩⟩, rfl⟩
theorem q_240 : zq (.fieldLink RJ0 38 "java/lang/String" "COMPACT_STRINGS" "Z") := ⟨List.mem_of_getElem? (i := 1506) (by decide +kernel), rfl⟩
theorem q_241 : zq (.fieldLink RJ0 15 "java/lang/String" "coder" "B") := ⟨List.mem_of_getElem? (i := 1803) (by decide +kernel), rfl⟩
theorem q_242 : zq (.fieldLink RJ0 9 "java/lang/String" "value" "[B") := ⟨List.mem_of_getElem? (i := 1804) (by decide +kernel), rfl⟩
theorem q_243 : zq (.instanceMethod yJ0_coder_7d493) := ⟨List.mem_of_getElem? (i := 1513) (by decide +kernel), rfl⟩
theorem q_244 : zq (.selects RJ0 yJ0_coder_7d493 yJ0_coder_7d493) := ⟨List.mem_of_getElem? (i := 1514) (by decide +kernel), rfl⟩
theorem q_245 : zq (.methodLink RJ0 335 yJ0_coder_7d493) := ⟨List.mem_of_getElem? (i := 1512) (by decide +kernel), rfl⟩
theorem q_246 : zq (.instanceMethod yJ0_length_8abf5) := ⟨List.mem_of_getElem? (i := 1509) (by decide +kernel), rfl⟩
theorem q_247 : zq (.selects RJ0 yJ0_length_8abf5 yJ0_length_8abf5) := ⟨List.mem_of_getElem? (i := 1510) (by decide +kernel), rfl⟩
theorem q_248 : zq (.methodLink RJ0 505 yJ0_length_8abf5) := ⟨List.mem_of_getElem? (i := 1508) (by decide +kernel), rfl⟩
theorem q_249 : zq (.static yJ1_indexOfChar_4cfef) := ⟨List.mem_of_getElem? (i := 1525) (by decide +kernel), rfl⟩
theorem q_250 : zq (.methodLink RJ1 95 yJ1_indexOfChar_4cfef) := ⟨List.mem_of_getElem? (i := 1524) (by decide +kernel), rfl⟩
theorem q_251 : zq (.methodLink RJ1 38 yJ9_min_7cf53) := ⟨List.mem_of_getElem? (i := 1523) (by decide +kernel), rfl⟩
theorem q_252 : zq (.methodLink RJ1 92 yJ9_max_7cf53) := ⟨List.mem_of_getElem? (i := 1522) (by decide +kernel), rfl⟩
theorem q_253 : zq (.static yJ1_canEncode_9a6ad) := ⟨List.mem_of_getElem? (i := 1520) (by decide +kernel), rfl⟩
theorem q_254 : zq (.methodLink RJ1 88 yJ1_canEncode_9a6ad) := ⟨List.mem_of_getElem? (i := 1519) (by decide +kernel), rfl⟩
theorem q_255 : zq (.static yJ1_indexOf_4cfef) := ⟨List.mem_of_getElem? (i := 1517) (by decide +kernel), rfl⟩
theorem q_256 : zq (.methodLink RJ0 637 yJ1_indexOf_4cfef) := ⟨List.mem_of_getElem? (i := 1516) (by decide +kernel), rfl⟩
theorem q_257 : zq (.instanceMethod yJ0_isLatin1_aae02) := ⟨List.mem_of_getElem? (i := 1503) (by decide +kernel), rfl⟩
theorem q_258 : zq (.selects RJ0 yJ0_isLatin1_aae02 yJ0_isLatin1_aae02) := ⟨List.mem_of_getElem? (i := 1504) (by decide +kernel), rfl⟩
theorem q_259 : zq (.methodLink RJ0 492 yJ0_isLatin1_aae02) := ⟨List.mem_of_getElem? (i := 1502) (by decide +kernel), rfl⟩
theorem q_260 : zq (.instanceMethod yJ0_indexOf_7cf53) := ⟨List.mem_of_getElem? (i := 1499) (by decide +kernel), rfl⟩
theorem q_261 : zq (.selects RJ0 yJ0_indexOf_7cf53 yJ0_indexOf_7cf53) := ⟨List.mem_of_getElem? (i := 1500) (by decide +kernel), rfl⟩
theorem q_262 : zq (.methodLink RJ0 633 yJ0_indexOf_7cf53) := ⟨List.mem_of_getElem? (i := 1498) (by decide +kernel), rfl⟩
theorem q_263 : zq (.instanceMethod yJ0_indexOf_0f7a4) := ⟨List.mem_of_getElem? (i := 1495) (by decide +kernel), rfl⟩
theorem q_264 : zq (.selects RJ0 yJ0_indexOf_0f7a4 yJ0_indexOf_0f7a4) := ⟨List.mem_of_getElem? (i := 1496) (by decide +kernel), rfl⟩
theorem q_265 : zq (.methodLink RX9 78 yJ0_indexOf_0f7a4) := ⟨List.mem_of_getElem? (i := 1494) (by decide +kernel), rfl⟩
theorem fb_X9_18 : zFB RX9 18 9 2 true := ⟨_, _, _, _, zct_9, (Nat.le_of_ble_eq_true rfl), ⟨"SpoolwrightYardModel$Line", Or.inl rfl, Or.inl ⟨List.mem_of_getElem? (i := 1079) (by decide +kernel), rfl⟩⟩, rfl⟩
theorem q_266 : zq (.fieldLinkNest RX9 83 "SpoolwrightYardModel" "SHARES" "[I" "SpoolwrightYardModel") := ⟨List.mem_of_getElem? (i := 1604) (by decide +kernel), rfl⟩
theorem fb_X9_29 : zFB RX9 29 9 0 false := ⟨_, _, _, _, zct_9, (Nat.le_of_ble_eq_true rfl), ⟨"SpoolwrightYardModel$Line", Or.inl rfl, Or.inl ⟨List.mem_of_getElem? (i := 1076) (by decide +kernel), rfl⟩⟩, rfl⟩
theorem fb_X9_86 : zFB RX9 86 9 5 false := ⟨_, _, _, _, zct_9, (Nat.le_of_ble_eq_true rfl), ⟨"SpoolwrightYardModel$Line", Or.inl rfl, Or.inl ⟨List.mem_of_getElem? (i := 1085) (by decide +kernel), rfl⟩⟩, rfl⟩
theorem q_267 : zq (.methodLink RX9 101 yJ9_max_7cf53) := ⟨List.mem_of_getElem? (i := 1609) (by decide +kernel), rfl⟩
theorem q_268 : zq (.instanceMethod yX9_many) := ⟨List.mem_of_getElem? (i := 1491) (by decide +kernel), rfl⟩
theorem q_269 : zq (.selects RX9 yX9_many yX9_many) := ⟨List.mem_of_getElem? (i := 38) (by decide +kernel), rfl⟩
theorem q_270 : zq (.methodLink RX9 97 yX9_many) := ⟨List.mem_of_getElem? (i := 1608) (by decide +kernel), rfl⟩
theorem q_271 : zq (.methodLink RX9 89 yJ9_min_7cf53) := ⟨List.mem_of_getElem? (i := 1606) (by decide +kernel), rfl⟩
theorem fb_X9_25 : zFB RX9 25 9 4 true := ⟨_, _, _, _, zct_9, (Nat.le_of_ble_eq_true rfl), ⟨"SpoolwrightYardModel$Line", Or.inl rfl, Or.inl ⟨List.mem_of_getElem? (i := 1083) (by decide +kernel), rfl⟩⟩, rfl⟩
theorem pb_X10_9 : zPB RX10 9 10 2 false .int := ⟨_, _, _, _, zct_10, (Nat.le_of_ble_eq_true rfl), ⟨"SpoolwrightYardModel$Part", Or.inl rfl, Or.inl ⟨List.mem_of_getElem? (i := 1217) (by decide +kernel), rfl⟩⟩, rfl, rfl, rfl⟩
theorem pf_X10_15 : zPF RX10 15 10 0 false .char := ⟨_, _, _, _, zct_10, (Nat.le_of_ble_eq_true rfl), ⟨"SpoolwrightYardModel$Part", Or.inl rfl, Or.inl ⟨List.mem_of_getElem? (i := 1211) (by decide +kernel), rfl⟩⟩, rfl, ⟨rfl, rfl⟩, rfl⟩
theorem pb_X10_19 : zPB RX10 19 10 1 false .int := ⟨_, _, _, _, zct_10, (Nat.le_of_ble_eq_true rfl), ⟨"SpoolwrightYardModel$Part", Or.inl rfl, Or.inl ⟨List.mem_of_getElem? (i := 1214) (by decide +kernel), rfl⟩⟩, rfl, rfl, rfl⟩
theorem q_272 : zq (.methodLink RX10 3 objectInit) := ⟨List.mem_of_getElem? (i := 1210) (by decide +kernel), rfl⟩
theorem pf_X11_9 : zPF RX11 9 11 0 true (.array .int) := ⟨_, _, _, _, zct_11, (Nat.le_of_ble_eq_true rfl), ⟨"SpoolwrightYardModel$Welder", Or.inl rfl, Or.inl ⟨List.mem_of_getElem? (i := 1456) (by decide +kernel), rfl⟩⟩, rfl, ⟨rfl, rfl⟩, rfl⟩
theorem q_273 : zq (.methodLink RX11 3 objectInit) := ⟨List.mem_of_getElem? (i := 1455) (by decide +kernel), rfl⟩
theorem q_274 : zq (.classLink RX12 7 RJx4a65c) := ⟨List.mem_of_getElem? (i := 989) (by decide +kernel), rfl⟩
theorem pf_X12_10 : zPF RX12 10 12 0 true (.object "java/util/List") := ⟨_, _, _, _, zct_12, (Nat.le_of_ble_eq_true rfl), ⟨"SpoolwrightYardModel", Or.inl rfl, Or.inl ⟨List.mem_of_getElem? (i := 1018) (by decide +kernel), rfl⟩⟩, rfl, ⟨rfl, rfl⟩, rfl⟩
theorem pf_X12_16 : zPF RX12 16 12 1 true (.object "java/util/List") := ⟨_, _, _, _, zct_12, (Nat.le_of_ble_eq_true rfl), ⟨"SpoolwrightYardModel", Or.inl rfl, Or.inl ⟨List.mem_of_getElem? (i := 1019) (by decide +kernel), rfl⟩⟩, rfl, ⟨rfl, rfl⟩, rfl⟩
theorem pf_X12_19 : zPF RX12 19 12 2 true (.object "java/util/List") := ⟨_, _, _, _, zct_12, (Nat.le_of_ble_eq_true rfl), ⟨"SpoolwrightYardModel", Or.inl rfl, Or.inl ⟨List.mem_of_getElem? (i := 1020) (by decide +kernel), rfl⟩⟩, rfl, ⟨rfl, rfl⟩, rfl⟩
theorem pf_X12_22 : zPF RX12 22 12 3 true (.object "java/util/List") := ⟨_, _, _, _, zct_12, (Nat.le_of_ble_eq_true rfl), ⟨"SpoolwrightYardModel", Or.inl rfl, Or.inl ⟨List.mem_of_getElem? (i := 1021) (by decide +kernel), rfl⟩⟩, rfl, ⟨rfl, rfl⟩, rfl⟩
theorem q_275 : zq (.methodLink RX12 9 yJx4a65c_init_da8c8) := ⟨List.mem_of_getElem? (i := 991) (by decide +kernel), rfl⟩
theorem q_276 : zq (.methodLink RX12 1 objectInit) := ⟨List.mem_of_getElem? (i := 988) (by decide +kernel), rfl⟩
theorem fb_X12_25 : zFB RX12 25 12 7 false := ⟨_, _, _, _, zct_12, (Nat.le_of_ble_eq_true rfl), ⟨"SpoolwrightYardModel", Or.inl rfl, Or.inl ⟨List.mem_of_getElem? (i := 1025) (by decide +kernel), rfl⟩⟩, rfl⟩
theorem pb_X12_25 : zPB RX12 25 12 7 false .int := ⟨_, _, _, _, zct_12, (Nat.le_of_ble_eq_true rfl), ⟨"SpoolwrightYardModel", Or.inl rfl, Or.inl ⟨List.mem_of_getElem? (i := 1025) (by decide +kernel), rfl⟩⟩, rfl, rfl, rfl⟩
theorem fb_X12_10 : zFB RX12 10 12 0 true := ⟨_, _, _, _, zct_12, (Nat.le_of_ble_eq_true rfl), ⟨"SpoolwrightYardModel", Or.inl rfl, Or.inl ⟨List.mem_of_getElem? (i := 1018) (by decide +kernel), rfl⟩⟩, rfl⟩
theorem q_277 : zq (.static yX12_in) := ⟨List.mem_of_getElem? (i := 1052) (by decide +kernel), rfl⟩
theorem q_278 : zq (.methodLink RX12 35 yX12_in) := ⟨List.mem_of_getElem? (i := 1051) (by decide +kernel), rfl⟩
theorem q_279 : zq (.methodLink RX12 29 ⟨"java/util/List", "size", "()I"⟩) := ⟨List.mem_of_getElem? (i := 1055) (by decide +kernel), rfl⟩
theorem q_280 : zq (.classLink RX12 47 RX9) := ⟨List.mem_of_getElem? (i := 1068) (by decide +kernel), rfl⟩
theorem fb_X12_49 : zFB RX12 49 9 1 true := ⟨_, _, _, _, zct_9, (Nat.le_of_ble_eq_true rfl), ⟨"SpoolwrightYardModel$Line", Or.inl rfl, Or.inr ⟨"SpoolwrightYardModel", List.mem_of_getElem? (i := 1078) (by decide +kernel), rfl⟩⟩, rfl⟩
theorem q_281 : zq (.methodLink RX12 43 ⟨"java/util/List", "get", "(I)Ljava/lang/Object;"⟩) := ⟨List.mem_of_getElem? (i := 1187) (by decide +kernel), rfl⟩
theorem q_282 : zq (.instanceMethod yX12_isLine) := ⟨List.mem_of_getElem? (i := 1184) (by decide +kernel), rfl⟩
theorem q_283 : zq (.selects RX12 yX12_isLine yX12_isLine) := ⟨List.mem_of_getElem? (i := 22) (by decide +kernel), rfl⟩
theorem q_284 : zq (.methodLink RX12 39 yX12_isLine) := ⟨List.mem_of_getElem? (i := 1182) (by decide +kernel), rfl⟩
theorem fb_X12_52 : zFB RX12 52 9 2 true := ⟨_, _, _, _, zct_9, (Nat.le_of_ble_eq_true rfl), ⟨"SpoolwrightYardModel$Line", Or.inl rfl, Or.inr ⟨"SpoolwrightYardModel", List.mem_of_getElem? (i := 1080) (by decide +kernel), rfl⟩⟩, rfl⟩
theorem fb_X12_16 : zFB RX12 16 12 1 true := ⟨_, _, _, _, zct_12, (Nat.le_of_ble_eq_true rfl), ⟨"SpoolwrightYardModel", Or.inl rfl, Or.inl ⟨List.mem_of_getElem? (i := 1019) (by decide +kernel), rfl⟩⟩, rfl⟩
theorem fb_X12_19 : zFB RX12 19 12 2 true := ⟨_, _, _, _, zct_12, (Nat.le_of_ble_eq_true rfl), ⟨"SpoolwrightYardModel", Or.inl rfl, Or.inl ⟨List.mem_of_getElem? (i := 1020) (by decide +kernel), rfl⟩⟩, rfl⟩
theorem fb_X12_22 : zFB RX12 22 12 3 true := ⟨_, _, _, _, zct_12, (Nat.le_of_ble_eq_true rfl), ⟨"SpoolwrightYardModel", Or.inl rfl, Or.inl ⟨List.mem_of_getElem? (i := 1021) (by decide +kernel), rfl⟩⟩, rfl⟩
theorem q_285 : zq (.classLink RX12 55 RX10) := ⟨List.mem_of_getElem? (i := 1205) (by decide +kernel), rfl⟩
theorem q_286 : zq (.classLink RX12 57 RX8) := ⟨List.mem_of_getElem? (i := 1226) (by decide +kernel), rfl⟩
theorem q_287 : zq (.instantiable RX9 8) := ⟨List.mem_of_getElem? (i := 1069) (by decide +kernel), rfl⟩
theorem q_288 : zq (.initialized RX9) := ⟨List.mem_of_getElem? (i := 66) (by decide +kernel), rfl⟩
theorem fb_Jx4a65c_63 : zFB RJx4a65c 63 13 0 false := ⟨_, _, _, _, zct_13, (Nat.le_of_ble_eq_true rfl), ⟨"java/util/ArrayList", Or.inr ⟨List.mem_of_getElem? (i := 1009) (by decide +kernel), rfl⟩, Or.inl ⟨List.mem_of_getElem? (i := 1010) (by decide +kernel), rfl⟩⟩, rfl⟩
theorem pb_Jx4a65c_63 : zPB RJx4a65c 63 13 0 false .int := ⟨_, _, _, _, zct_13, (Nat.le_of_ble_eq_true rfl), ⟨"java/util/ArrayList", Or.inr ⟨List.mem_of_getElem? (i := 1009) (by decide +kernel), rfl⟩, Or.inl ⟨List.mem_of_getElem? (i := 1010) (by decide +kernel), rfl⟩⟩, rfl, rfl, rfl⟩
theorem pb_Jx4a65c_48 : zPB RJx4a65c 48 13 2 false .int := ⟨_, _, _, _, zct_13, (Nat.le_of_ble_eq_true rfl), ⟨"java/util/ArrayList", Or.inl rfl, Or.inl ⟨List.mem_of_getElem? (i := 1006) (by decide +kernel), rfl⟩⟩, rfl, rfl, rfl⟩
theorem q_289 : zq (.classLink RJx4a65c 7 "java/lang/Object") := ⟨List.mem_of_getElem? (i := 1177) (by decide +kernel), rfl⟩
theorem q_290 : zq (.arrayOver (.object "java/lang/Object")) := ⟨List.mem_of_getElem? (i := 1170) (by decide +kernel), rfl⟩
theorem q_291 : zq (.methodLink RJx4a65c 79 yJ9_max_7cf53) := ⟨List.mem_of_getElem? (i := 1176) (by decide +kernel), rfl⟩
theorem q_292 : zq (.instanceMethod yJx4a65c_grow_92f84) := ⟨List.mem_of_getElem? (i := 1126) (by decide +kernel), rfl⟩
theorem q_293 : zq (.selects RJx4a65c yJx4a65c_grow_92f84 yJx4a65c_grow_92f84) := ⟨List.mem_of_getElem? (i := 21) (by decide +kernel), rfl⟩
theorem q_294 : zq (.methodLink RJx4a65c 69 yJx4a65c_grow_92f84) := ⟨List.mem_of_getElem? (i := 1124) (by decide +kernel), rfl⟩
theorem q_295 : zq (.instanceMethod yJx4a65c_grow_d5877) := ⟨List.mem_of_getElem? (i := 1122) (by decide +kernel), rfl⟩
theorem q_296 : zq (.selects RJx4a65c yJx4a65c_grow_d5877 yJx4a65c_grow_d5877) := ⟨List.mem_of_getElem? (i := 20) (by decide +kernel), rfl⟩
theorem q_297 : zq (.methodLink RJx4a65c 129 yJx4a65c_grow_d5877) := ⟨List.mem_of_getElem? (i := 1120) (by decide +kernel), rfl⟩
theorem q_298 : zq (.instanceMethod yJx4a65c_add_72be8) := ⟨List.mem_of_getElem? (i := 1118) (by decide +kernel), rfl⟩
theorem q_299 : zq (.selects RJx4a65c yJx4a65c_add_72be8 yJx4a65c_add_72be8) := ⟨List.mem_of_getElem? (i := 19) (by decide +kernel), rfl⟩
theorem q_300 : zq (.methodLink RJx4a65c 131 yJx4a65c_add_72be8) := ⟨List.mem_of_getElem? (i := 1116) (by decide +kernel), rfl⟩
theorem q_301 : zq (.instanceMethod yJx4a65c_add_9ea2d) := ⟨List.mem_of_getElem? (i := 1113) (by decide +kernel), rfl⟩
theorem q_302 : zq (.selects RJx4a65c ⟨"java/util/List", "add", "(Ljava/lang/Object;)Z"⟩ yJx4a65c_add_9ea2d) := ⟨List.mem_of_getElem? (i := 1111) (by decide +kernel), rfl⟩
theorem q_303 : zq (.methodLink RX12 65 ⟨"java/util/List", "add", "(Ljava/lang/Object;)Z"⟩) := ⟨List.mem_of_getElem? (i := 1108) (by decide +kernel), rfl⟩
theorem fw_6 : (RJx4a65c, (⟨"java/util/List", "add", "(Ljava/lang/Object;)Z"⟩ : MethodName), yJx4a65c_add_9ea2d) ∈ zfw := List.mem_of_getElem? (i := 1) (by decide +kernel)
theorem q_304 : zq (.instanceMethod yX9_init) := ⟨List.mem_of_getElem? (i := 1071) (by decide +kernel), rfl⟩
theorem q_305 : zq (.methodLink RX12 62 yX9_init) := ⟨List.mem_of_getElem? (i := 1070) (by decide +kernel), rfl⟩
theorem q_306 : zq (.instanceMethod yX12_fails) := ⟨List.mem_of_getElem? (i := 1066) (by decide +kernel), rfl⟩
theorem q_307 : zq (.selects RX12 yX12_fails yX12_fails) := ⟨List.mem_of_getElem? (i := 18) (by decide +kernel), rfl⟩
theorem q_308 : zq (.methodLink RX12 59 yX12_fails) := ⟨List.mem_of_getElem? (i := 1064) (by decide +kernel), rfl⟩
theorem pb_X12_73 : zPB RX12 73 9 7 false .boolean := ⟨_, _, _, _, zct_9, (Nat.le_of_ble_eq_true rfl), ⟨"SpoolwrightYardModel$Line", Or.inl rfl, Or.inr ⟨"SpoolwrightYardModel", List.mem_of_getElem? (i := 1088) (by decide +kernel), rfl⟩⟩, rfl, rfl, rfl⟩
theorem q_309 : zq (.instantiable RX8 3) := ⟨List.mem_of_getElem? (i := 1227) (by decide +kernel), rfl⟩
theorem q_310 : zq (.initialized RX8) := ⟨List.mem_of_getElem? (i := 77) (by decide +kernel), rfl⟩
theorem q_311 : zq (.instanceMethod yX8_init) := ⟨List.mem_of_getElem? (i := 1229) (by decide +kernel), rfl⟩
theorem q_312 : zq (.methodLinkNest RX12 72 yX8_init "SpoolwrightYardModel") := ⟨List.mem_of_getElem? (i := 1228) (by decide +kernel), rfl⟩
theorem q_313 : zq (.instanceMethod yX10_init) := ⟨List.mem_of_getElem? (i := 1208) (by decide +kernel), rfl⟩
theorem q_314 : zq (.methodLink RX12 69 yX10_init) := ⟨List.mem_of_getElem? (i := 1207) (by decide +kernel), rfl⟩
theorem q_315 : zq (.instantiable RX10 3) := ⟨List.mem_of_getElem? (i := 1206) (by decide +kernel), rfl⟩
theorem q_316 : zq (.initialized RX10) := ⟨List.mem_of_getElem? (i := 76) (by decide +kernel), rfl⟩
theorem fb_X12_85 : zFB RX12 85 8 0 false := ⟨_, _, _, _, zct_8, (Nat.le_of_ble_eq_true rfl), ⟨"SpoolwrightYardModel$Joint", Or.inl rfl, Or.inr ⟨"SpoolwrightYardModel", List.mem_of_getElem? (i := 1234) (by decide +kernel), rfl⟩⟩, rfl⟩
theorem fb_X12_93 : zFB RX12 93 12 5 false := ⟨_, _, _, _, zct_12, (Nat.le_of_ble_eq_true rfl), ⟨"SpoolwrightYardModel", Or.inl rfl, Or.inl ⟨List.mem_of_getElem? (i := 1023) (by decide +kernel), rfl⟩⟩, rfl⟩
theorem pb_X12_93 : zPB RX12 93 12 5 false .int := ⟨_, _, _, _, zct_12, (Nat.le_of_ble_eq_true rfl), ⟨"SpoolwrightYardModel", Or.inl rfl, Or.inl ⟨List.mem_of_getElem? (i := 1023) (by decide +kernel), rfl⟩⟩, rfl, rfl, rfl⟩
theorem q_317 : zq (.instanceMethod yJx4a65c_set_bcc79) := ⟨List.mem_of_getElem? (i := 1280) (by decide +kernel), rfl⟩
theorem q_318 : zq (.selects RJx4a65c ⟨"java/util/List", "set", "(ILjava/lang/Object;)Ljava/lang/Object;"⟩ yJx4a65c_set_bcc79) := ⟨List.mem_of_getElem? (i := 1278) (by decide +kernel), rfl⟩
theorem q_319 : zq (.methodLink RX12 89 ⟨"java/util/List", "set", "(ILjava/lang/Object;)Ljava/lang/Object;"⟩) := ⟨List.mem_of_getElem? (i := 1275) (by decide +kernel), rfl⟩
theorem fw_7 : (RJx4a65c, (⟨"java/util/List", "set", "(ILjava/lang/Object;)Ljava/lang/Object;"⟩ : MethodName), yJx4a65c_set_bcc79) ∈ zfw := List.mem_of_getElem? (i := 3) (by decide +kernel)
theorem q_320 : zq (.instanceMethod yX12_at) := ⟨List.mem_of_getElem? (i := 1272) (by decide +kernel), rfl⟩
theorem q_321 : zq (.selects RX12 yX12_at yX12_at) := ⟨List.mem_of_getElem? (i := 28) (by decide +kernel), rfl⟩
theorem q_322 : zq (.methodLink RX12 81 yX12_at) := ⟨List.mem_of_getElem? (i := 1270) (by decide +kernel), rfl⟩
theorem q_323 : zq (.instanceMethod yX12_isJoint) := ⟨List.mem_of_getElem? (i := 1268) (by decide +kernel), rfl⟩
theorem q_324 : zq (.selects RX12 yX12_isJoint yX12_isJoint) := ⟨List.mem_of_getElem? (i := 27) (by decide +kernel), rfl⟩
theorem q_325 : zq (.methodLink RX12 77 yX12_isJoint) := ⟨List.mem_of_getElem? (i := 1266) (by decide +kernel), rfl⟩
theorem pb_X12_96 : zPB RX12 96 10 2 false .int := ⟨_, _, _, _, zct_10, (Nat.le_of_ble_eq_true rfl), ⟨"SpoolwrightYardModel$Part", Or.inl rfl, Or.inr ⟨"SpoolwrightYardModel", List.mem_of_getElem? (i := 1218) (by decide +kernel), rfl⟩⟩, rfl, rfl, rfl⟩
theorem fb_X12_96 : zFB RX12 96 10 2 false := ⟨_, _, _, _, zct_10, (Nat.le_of_ble_eq_true rfl), ⟨"SpoolwrightYardModel$Part", Or.inl rfl, Or.inr ⟨"SpoolwrightYardModel", List.mem_of_getElem? (i := 1218) (by decide +kernel), rfl⟩⟩, rfl⟩
theorem q_326 : zq (.classLink RX12 99 RX7) := ⟨List.mem_of_getElem? (i := 1261) (by decide +kernel), rfl⟩
theorem fb_X12_101 : zFB RX12 101 7 1 false := ⟨_, _, _, _, zct_7, (Nat.le_of_ble_eq_true rfl), ⟨"SpoolwrightYardModel$Heat", Or.inl rfl, Or.inr ⟨"SpoolwrightYardModel", List.mem_of_getElem? (i := 1400) (by decide +kernel), rfl⟩⟩, rfl⟩
theorem fb_X12_104 : zFB RX12 104 10 1 false := ⟨_, _, _, _, zct_10, (Nat.le_of_ble_eq_true rfl), ⟨"SpoolwrightYardModel$Part", Or.inl rfl, Or.inr ⟨"SpoolwrightYardModel", List.mem_of_getElem? (i := 1216) (by decide +kernel), rfl⟩⟩, rfl⟩
theorem pb_X12_101 : zPB RX12 101 7 1 false .int := ⟨_, _, _, _, zct_7, (Nat.le_of_ble_eq_true rfl), ⟨"SpoolwrightYardModel$Heat", Or.inl rfl, Or.inr ⟨"SpoolwrightYardModel", List.mem_of_getElem? (i := 1400) (by decide +kernel), rfl⟩⟩, rfl, rfl, rfl⟩
theorem pb_X12_104 : zPB RX12 104 10 1 false .int := ⟨_, _, _, _, zct_10, (Nat.le_of_ble_eq_true rfl), ⟨"SpoolwrightYardModel$Part", Or.inl rfl, Or.inr ⟨"SpoolwrightYardModel", List.mem_of_getElem? (i := 1216) (by decide +kernel), rfl⟩⟩, rfl, rfl, rfl⟩
theorem q_327 : zq (.instanceMethod yX12_undoes) := ⟨List.mem_of_getElem? (i := 1264) (by decide +kernel), rfl⟩
theorem q_328 : zq (.selects RX12 yX12_undoes yX12_undoes) := ⟨List.mem_of_getElem? (i := 26) (by decide +kernel), rfl⟩
theorem q_329 : zq (.methodLink RX12 121 yX12_undoes) := ⟨List.mem_of_getElem? (i := 1262) (by decide +kernel), rfl⟩
theorem q_330 : zq (.instanceMethod yX12_givesBack) := ⟨List.mem_of_getElem? (i := 1259) (by decide +kernel), rfl⟩
theorem q_331 : zq (.selects RX12 yX12_givesBack yX12_givesBack) := ⟨List.mem_of_getElem? (i := 25) (by decide +kernel), rfl⟩
theorem q_332 : zq (.methodLink RX12 117 yX12_givesBack) := ⟨List.mem_of_getElem? (i := 1257) (by decide +kernel), rfl⟩
theorem q_333 : zq (.instanceMethod yX12_part) := ⟨List.mem_of_getElem? (i := 1255) (by decide +kernel), rfl⟩
theorem q_334 : zq (.selects RX12 yX12_part yX12_part) := ⟨List.mem_of_getElem? (i := 24) (by decide +kernel), rfl⟩
theorem q_335 : zq (.methodLink RX12 110 yX12_part) := ⟨List.mem_of_getElem? (i := 1253) (by decide +kernel), rfl⟩
theorem fb_X12_114 : zFB RX12 114 10 0 false := ⟨_, _, _, _, zct_10, (Nat.le_of_ble_eq_true rfl), ⟨"SpoolwrightYardModel$Part", Or.inl rfl, Or.inr ⟨"SpoolwrightYardModel", List.mem_of_getElem? (i := 1213) (by decide +kernel), rfl⟩⟩, rfl⟩
theorem q_336 : zq (.instanceMethod yX12_isPart) := ⟨List.mem_of_getElem? (i := 1251) (by decide +kernel), rfl⟩
theorem q_337 : zq (.selects RX12 yX12_isPart yX12_isPart) := ⟨List.mem_of_getElem? (i := 23) (by decide +kernel), rfl⟩
theorem q_338 : zq (.methodLink RX12 107 yX12_isPart) := ⟨List.mem_of_getElem? (i := 1249) (by decide +kernel), rfl⟩
theorem q_339 : zq (.instanceMethod yX9_length) := ⟨List.mem_of_getElem? (i := 1289) (by decide +kernel), rfl⟩
theorem q_340 : zq (.selects RX9 yX9_length yX9_length) := ⟨List.mem_of_getElem? (i := 29) (by decide +kernel), rfl⟩
theorem q_341 : zq (.methodLinkNest RX12 125 yX9_length "SpoolwrightYardModel") := ⟨List.mem_of_getElem? (i := 1287) (by decide +kernel), rfl⟩
theorem q_342 : zq (.instanceMethod yX9_spools) := ⟨List.mem_of_getElem? (i := 1360) (by decide +kernel), rfl⟩
theorem q_343 : zq (.selects RX9 yX9_spools yX9_spools) := ⟨List.mem_of_getElem? (i := 30) (by decide +kernel), rfl⟩
theorem q_344 : zq (.methodLinkNest RX12 127 yX9_spools "SpoolwrightYardModel") := ⟨List.mem_of_getElem? (i := 1358) (by decide +kernel), rfl⟩
theorem q_345 : zq (.methodLinkNest RX12 130 yX9_spool "SpoolwrightYardModel") := ⟨List.mem_of_getElem? (i := 1383) (by decide +kernel), rfl⟩
theorem q_346 : zq (.instantiable RX7 3) := ⟨List.mem_of_getElem? (i := 1392) (by decide +kernel), rfl⟩
theorem q_347 : zq (.initialized RX7) := ⟨List.mem_of_getElem? (i := 81) (by decide +kernel), rfl⟩
theorem q_348 : zq (.instanceMethod yX7_init) := ⟨List.mem_of_getElem? (i := 1394) (by decide +kernel), rfl⟩
theorem q_349 : zq (.methodLink RX12 134 yX7_init) := ⟨List.mem_of_getElem? (i := 1393) (by decide +kernel), rfl⟩
theorem q_350 : zq (.instanceMethod yX12_isHeat) := ⟨List.mem_of_getElem? (i := 1416) (by decide +kernel), rfl⟩
theorem q_351 : zq (.selects RX12 yX12_isHeat yX12_isHeat) := ⟨List.mem_of_getElem? (i := 32) (by decide +kernel), rfl⟩
theorem q_352 : zq (.methodLink RX12 137 yX12_isHeat) := ⟨List.mem_of_getElem? (i := 1414) (by decide +kernel), rfl⟩
theorem fb_X12_140 : zFB RX12 140 7 2 false := ⟨_, _, _, _, zct_7, (Nat.le_of_ble_eq_true rfl), ⟨"SpoolwrightYardModel$Heat", Or.inl rfl, Or.inr ⟨"SpoolwrightYardModel", List.mem_of_getElem? (i := 1402) (by decide +kernel), rfl⟩⟩, rfl⟩
theorem pb_X12_140 : zPB RX12 140 7 2 false .boolean := ⟨_, _, _, _, zct_7, (Nat.le_of_ble_eq_true rfl), ⟨"SpoolwrightYardModel$Heat", Or.inl rfl, Or.inr ⟨"SpoolwrightYardModel", List.mem_of_getElem? (i := 1402) (by decide +kernel), rfl⟩⟩, rfl, rfl, rfl⟩
theorem q_353 : zq (.instanceMethod yX12_papers) := ⟨List.mem_of_getElem? (i := 1424) (by decide +kernel), rfl⟩
theorem q_354 : zq (.selects RX12 yX12_papers yX12_papers) := ⟨List.mem_of_getElem? (i := 33) (by decide +kernel), rfl⟩
theorem q_355 : zq (.methodLink RX12 143 yX12_papers) := ⟨List.mem_of_getElem? (i := 1422) (by decide +kernel), rfl⟩
theorem fb_X12_147 : zFB RX12 147 7 0 false := ⟨_, _, _, _, zct_7, (Nat.le_of_ble_eq_true rfl), ⟨"SpoolwrightYardModel$Heat", Or.inl rfl, Or.inr ⟨"SpoolwrightYardModel", List.mem_of_getElem? (i := 1398) (by decide +kernel), rfl⟩⟩, rfl⟩
theorem q_356 : zq (.instanceMethod yX12_best) := ⟨List.mem_of_getElem? (i := 1444) (by decide +kernel), rfl⟩
theorem q_357 : zq (.selects RX12 yX12_best yX12_best) := ⟨List.mem_of_getElem? (i := 34) (by decide +kernel), rfl⟩
theorem q_358 : zq (.methodLink RX12 150 yX12_best) := ⟨List.mem_of_getElem? (i := 1442) (by decide +kernel), rfl⟩
theorem q_359 : zq (.classLink RX12 154 RX11) := ⟨List.mem_of_getElem? (i := 1450) (by decide +kernel), rfl⟩
theorem q_360 : zq (.instantiable RX11 2) := ⟨List.mem_of_getElem? (i := 1451) (by decide +kernel), rfl⟩
theorem q_361 : zq (.initialized RX11) := ⟨List.mem_of_getElem? (i := 82) (by decide +kernel), rfl⟩
theorem q_362 : zq (.instanceMethod yX11_init) := ⟨List.mem_of_getElem? (i := 1453) (by decide +kernel), rfl⟩
theorem q_363 : zq (.methodLinkNest RX12 156 yX11_init "SpoolwrightYardModel") := ⟨List.mem_of_getElem? (i := 1452) (by decide +kernel), rfl⟩
theorem fb_X12_160 : zFB RX12 160 11 0 true := ⟨_, _, _, _, zct_11, (Nat.le_of_ble_eq_true rfl), ⟨"SpoolwrightYardModel$Welder", Or.inl rfl, Or.inr ⟨"SpoolwrightYardModel", List.mem_of_getElem? (i := 1457) (by decide +kernel), rfl⟩⟩, rfl⟩
theorem q_364 : zq (.instanceMethod yX12_isWelder) := ⟨List.mem_of_getElem? (i := 1470) (by decide +kernel), rfl⟩
theorem q_365 : zq (.selects RX12 yX12_isWelder yX12_isWelder) := ⟨List.mem_of_getElem? (i := 35) (by decide +kernel), rfl⟩
theorem q_366 : zq (.methodLink RX12 157 yX12_isWelder) := ⟨List.mem_of_getElem? (i := 1468) (by decide +kernel), rfl⟩
theorem fb_X12_164 : zFB RX12 164 12 4 false := ⟨_, _, _, _, zct_12, (Nat.le_of_ble_eq_true rfl), ⟨"SpoolwrightYardModel", Or.inl rfl, Or.inl ⟨List.mem_of_getElem? (i := 1022) (by decide +kernel), rfl⟩⟩, rfl⟩
theorem q_367 : zq (.instanceMethod yX12_may) := ⟨List.mem_of_getElem? (i := 1478) (by decide +kernel), rfl⟩
theorem q_368 : zq (.selects RX12 yX12_may yX12_may) := ⟨List.mem_of_getElem? (i := 36) (by decide +kernel), rfl⟩
theorem q_369 : zq (.methodLink RX12 167 yX12_may) := ⟨List.mem_of_getElem? (i := 1476) (by decide +kernel), rfl⟩
theorem pb_X12_85 : zPB RX12 85 8 0 false .char := ⟨_, _, _, _, zct_8, (Nat.le_of_ble_eq_true rfl), ⟨"SpoolwrightYardModel$Joint", Or.inl rfl, Or.inr ⟨"SpoolwrightYardModel", List.mem_of_getElem? (i := 1234) (by decide +kernel), rfl⟩⟩, rfl, rfl, rfl⟩
theorem pb_X12_170 : zPB RX12 170 8 2 false .int := ⟨_, _, _, _, zct_8, (Nat.le_of_ble_eq_true rfl), ⟨"SpoolwrightYardModel$Joint", Or.inl rfl, Or.inr ⟨"SpoolwrightYardModel", List.mem_of_getElem? (i := 1237) (by decide +kernel), rfl⟩⟩, rfl, rfl, rfl⟩
theorem q_370 : zq (.methodLinkNest RX12 179 yX9_many "SpoolwrightYardModel") := ⟨List.mem_of_getElem? (i := 1489) (by decide +kernel), rfl⟩
theorem q_371 : zq (.instanceMethod yX12_welds) := ⟨List.mem_of_getElem? (i := 1486) (by decide +kernel), rfl⟩
theorem q_372 : zq (.selects RX12 yX12_welds yX12_welds) := ⟨List.mem_of_getElem? (i := 37) (by decide +kernel), rfl⟩
theorem q_373 : zq (.methodLink RX12 173 yX12_welds) := ⟨List.mem_of_getElem? (i := 1484) (by decide +kernel), rfl⟩
theorem fb_X12_170 : zFB RX12 170 8 2 false := ⟨_, _, _, _, zct_8, (Nat.le_of_ble_eq_true rfl), ⟨"SpoolwrightYardModel$Joint", Or.inl rfl, Or.inr ⟨"SpoolwrightYardModel", List.mem_of_getElem? (i := 1237) (by decide +kernel), rfl⟩⟩, rfl⟩
theorem fb_X12_183 : zFB RX12 183 11 1 false := ⟨_, _, _, _, zct_11, (Nat.le_of_ble_eq_true rfl), ⟨"SpoolwrightYardModel$Welder", Or.inl rfl, Or.inr ⟨"SpoolwrightYardModel", List.mem_of_getElem? (i := 1458) (by decide +kernel), rfl⟩⟩, rfl⟩
theorem pb_X12_183 : zPB RX12 183 11 1 false .int := ⟨_, _, _, _, zct_11, (Nat.le_of_ble_eq_true rfl), ⟨"SpoolwrightYardModel$Welder", Or.inl rfl, Or.inr ⟨"SpoolwrightYardModel", List.mem_of_getElem? (i := 1458) (by decide +kernel), rfl⟩⟩, rfl, rfl, rfl⟩
theorem fb_X12_186 : zFB RX12 186 9 5 false := ⟨_, _, _, _, zct_9, (Nat.le_of_ble_eq_true rfl), ⟨"SpoolwrightYardModel$Line", Or.inl rfl, Or.inr ⟨"SpoolwrightYardModel", List.mem_of_getElem? (i := 1086) (by decide +kernel), rfl⟩⟩, rfl⟩
theorem pb_X12_186 : zPB RX12 186 9 5 false .int := ⟨_, _, _, _, zct_9, (Nat.le_of_ble_eq_true rfl), ⟨"SpoolwrightYardModel$Line", Or.inl rfl, Or.inr ⟨"SpoolwrightYardModel", List.mem_of_getElem? (i := 1086) (by decide +kernel), rfl⟩⟩, rfl, rfl, rfl⟩
theorem fb_X12_189 : zFB RX12 189 8 1 false := ⟨_, _, _, _, zct_8, (Nat.le_of_ble_eq_true rfl), ⟨"SpoolwrightYardModel$Joint", Or.inl rfl, Or.inr ⟨"SpoolwrightYardModel", List.mem_of_getElem? (i := 1235) (by decide +kernel), rfl⟩⟩, rfl⟩
theorem pb_X12_189 : zPB RX12 189 8 1 false .int := ⟨_, _, _, _, zct_8, (Nat.le_of_ble_eq_true rfl), ⟨"SpoolwrightYardModel$Joint", Or.inl rfl, Or.inr ⟨"SpoolwrightYardModel", List.mem_of_getElem? (i := 1235) (by decide +kernel), rfl⟩⟩, rfl, rfl, rfl⟩
theorem fb_X12_192 : zFB RX12 192 12 6 false := ⟨_, _, _, _, zct_12, (Nat.le_of_ble_eq_true rfl), ⟨"SpoolwrightYardModel", Or.inl rfl, Or.inl ⟨List.mem_of_getElem? (i := 1024) (by decide +kernel), rfl⟩⟩, rfl⟩
theorem pb_X12_192 : zPB RX12 192 12 6 false .int := ⟨_, _, _, _, zct_12, (Nat.le_of_ble_eq_true rfl), ⟨"SpoolwrightYardModel", Or.inl rfl, Or.inl ⟨List.mem_of_getElem? (i := 1024) (by decide +kernel), rfl⟩⟩, rfl, rfl, rfl⟩
theorem q_374 : zq (.instanceMethod yX9_toLook) := ⟨List.mem_of_getElem? (i := 1602) (by decide +kernel), rfl⟩
theorem q_375 : zq (.selects RX9 yX9_toLook yX9_toLook) := ⟨List.mem_of_getElem? (i := 39) (by decide +kernel), rfl⟩
theorem q_376 : zq (.methodLinkNest RX12 195 yX9_toLook "SpoolwrightYardModel") := ⟨List.mem_of_getElem? (i := 1600) (by decide +kernel), rfl⟩
theorem pb_X12_164 : zPB RX12 164 12 4 false .int := ⟨_, _, _, _, zct_12, (Nat.le_of_ble_eq_true rfl), ⟨"SpoolwrightYardModel", Or.inl rfl, Or.inl ⟨List.mem_of_getElem? (i := 1022) (by decide +kernel), rfl⟩⟩, rfl, rfl, rfl⟩
theorem fb_X12_198 : zFB RX12 198 9 3 true := ⟨_, _, _, _, zct_9, (Nat.le_of_ble_eq_true rfl), ⟨"SpoolwrightYardModel$Line", Or.inl rfl, Or.inr ⟨"SpoolwrightYardModel", List.mem_of_getElem? (i := 1082) (by decide +kernel), rfl⟩⟩, rfl⟩
theorem fb_X12_201 : zFB RX12 201 9 4 true := ⟨_, _, _, _, zct_9, (Nat.le_of_ble_eq_true rfl), ⟨"SpoolwrightYardModel$Line", Or.inl rfl, Or.inr ⟨"SpoolwrightYardModel", List.mem_of_getElem? (i := 1084) (by decide +kernel), rfl⟩⟩, rfl⟩
theorem q_377 : zq (.fieldLink RJ6 191 "java/lang/Integer$IntegerCache" "high" "I") := ⟨List.mem_of_getElem? (i := 1633) (by decide +kernel), rfl⟩
theorem q_378 : zq (.fieldLink RJ6 195 "java/lang/Integer$IntegerCache" "cache" "[Ljava/lang/Integer;") := ⟨List.mem_of_getElem? (i := 1635) (by decide +kernel), rfl⟩
theorem q_379 : zq (.static yJ6_valueOf_2dffe) := ⟨List.mem_of_getElem? (i := 1631) (by decide +kernel), rfl⟩
theorem q_380 : zq (.methodLink RX12 205 yJ6_valueOf_2dffe) := ⟨List.mem_of_getElem? (i := 1630) (by decide +kernel), rfl⟩
theorem q_381 : zq (.classLink RX12 206 RJ6) := ⟨List.mem_of_getElem? (i := 1666) (by decide +kernel), rfl⟩
theorem q_382 : zq (.fieldLink RJ6 205 "java/lang/Integer" "value" "I") := ⟨List.mem_of_getElem? (i := 1646) (by decide +kernel), rfl⟩
theorem q_383 : zq (.instanceMethod yJ6_intValue_8abf5) := ⟨List.mem_of_getElem? (i := 1668) (by decide +kernel), rfl⟩
theorem q_384 : zq (.selects RJ6 yJ6_intValue_8abf5 yJ6_intValue_8abf5) := ⟨List.mem_of_getElem? (i := 1669) (by decide +kernel), rfl⟩
theorem q_385 : zq (.methodLink RX12 211 yJ6_intValue_8abf5) := ⟨List.mem_of_getElem? (i := 1667) (by decide +kernel), rfl⟩
theorem q_386 : zq (.instanceMethod yX12_isOf) := ⟨List.mem_of_getElem? (i := 1664) (by decide +kernel), rfl⟩
theorem q_387 : zq (.selects RX12 yX12_isOf yX12_isOf) := ⟨List.mem_of_getElem? (i := 42) (by decide +kernel), rfl⟩
theorem q_388 : zq (.methodLink RX12 214 yX12_isOf) := ⟨List.mem_of_getElem? (i := 1662) (by decide +kernel), rfl⟩
theorem q_389 : zq (.instanceMethod yX12_openOf) := ⟨List.mem_of_getElem? (i := 1660) (by decide +kernel), rfl⟩
theorem q_390 : zq (.selects RX12 yX12_openOf yX12_openOf) := ⟨List.mem_of_getElem? (i := 41) (by decide +kernel), rfl⟩
theorem q_391 : zq (.methodLink RX12 220 yX12_openOf) := ⟨List.mem_of_getElem? (i := 1658) (by decide +kernel), rfl⟩
theorem q_392 : zq (.instanceMethod yX12_isCircuit) := ⟨List.mem_of_getElem? (i := 1656) (by decide +kernel), rfl⟩
theorem q_393 : zq (.selects RX12 yX12_isCircuit yX12_isCircuit) := ⟨List.mem_of_getElem? (i := 40) (by decide +kernel), rfl⟩
theorem q_394 : zq (.methodLink RX12 217 yX12_isCircuit) := ⟨List.mem_of_getElem? (i := 1654) (by decide +kernel), rfl⟩
theorem q_395 : zq (.instanceMethod yX12_can) := ⟨List.mem_of_getElem? (i := 1677) (by decide +kernel), rfl⟩
theorem q_396 : zq (.selects RX12 yX12_can yX12_can) := ⟨List.mem_of_getElem? (i := 43) (by decide +kernel), rfl⟩
theorem q_397 : zq (.methodLink RX12 225 yX12_can) := ⟨List.mem_of_getElem? (i := 1675) (by decide +kernel), rfl⟩
theorem fb_X12_73 : zFB RX12 73 9 7 false := ⟨_, _, _, _, zct_9, (Nat.le_of_ble_eq_true rfl), ⟨"SpoolwrightYardModel$Line", Or.inl rfl, Or.inr ⟨"SpoolwrightYardModel", List.mem_of_getElem? (i := 1088) (by decide +kernel), rfl⟩⟩, rfl⟩
theorem q_398 : zq (.instanceMethod yX9_isBlind) := ⟨List.mem_of_getElem? (i := 1698) (by decide +kernel), rfl⟩
theorem q_399 : zq (.selects RX9 yX9_isBlind yX9_isBlind) := ⟨List.mem_of_getElem? (i := 45) (by decide +kernel), rfl⟩
theorem q_400 : zq (.methodLinkNest RX12 228 yX9_isBlind "SpoolwrightYardModel") := ⟨List.mem_of_getElem? (i := 1696) (by decide +kernel), rfl⟩
theorem q_401 : zq (.instanceMethod yX12_lackOf) := ⟨List.mem_of_getElem? (i := 1694) (by decide +kernel), rfl⟩
theorem q_402 : zq (.selects RX12 yX12_lackOf yX12_lackOf) := ⟨List.mem_of_getElem? (i := 44) (by decide +kernel), rfl⟩
theorem q_403 : zq (.methodLink RX12 232 yX12_lackOf) := ⟨List.mem_of_getElem? (i := 1692) (by decide +kernel), rfl⟩
theorem q_404 : zq (.instanceMethod yX12_many) := ⟨List.mem_of_getElem? (i := 1708) (by decide +kernel), rfl⟩
theorem q_405 : zq (.selects RX12 yX12_many yX12_many) := ⟨List.mem_of_getElem? (i := 46) (by decide +kernel), rfl⟩
theorem q_406 : zq (.methodLink RX12 243 yX12_many) := ⟨List.mem_of_getElem? (i := 1706) (by decide +kernel), rfl⟩
theorem q_407 : zq (.methodLink RX12 238 yJ0_indexOf_0f7a4) := ⟨List.mem_of_getElem? (i := 1705) (by decide +kernel), rfl⟩
theorem fb_X12_246 : zFB RX12 246 9 6 false := ⟨_, _, _, _, zct_9, (Nat.le_of_ble_eq_true rfl), ⟨"SpoolwrightYardModel$Line", Or.inl rfl, Or.inr ⟨"SpoolwrightYardModel", List.mem_of_getElem? (i := 1087) (by decide +kernel), rfl⟩⟩, rfl⟩
theorem pb_X12_246 : zPB RX12 246 9 6 false .int := ⟨_, _, _, _, zct_9, (Nat.le_of_ble_eq_true rfl), ⟨"SpoolwrightYardModel$Line", Or.inl rfl, Or.inr ⟨"SpoolwrightYardModel", List.mem_of_getElem? (i := 1087) (by decide +kernel), rfl⟩⟩, rfl, rfl, rfl⟩
theorem q_408 : zq (.instanceMethod yX12_allAhead) := ⟨List.mem_of_getElem? (i := 1720) (by decide +kernel), rfl⟩
theorem q_409 : zq (.selects RX12 yX12_allAhead yX12_allAhead) := ⟨List.mem_of_getElem? (i := 47) (by decide +kernel), rfl⟩
theorem q_410 : zq (.methodLink RX12 249 yX12_allAhead) := ⟨List.mem_of_getElem? (i := 1718) (by decide +kernel), rfl⟩
theorem q_411 : zq (.instanceMethod yX12_isDone) := ⟨List.mem_of_getElem? (i := 1728) (by decide +kernel), rfl⟩
theorem q_412 : zq (.selects RX12 yX12_isDone yX12_isDone) := ⟨List.mem_of_getElem? (i := 48) (by decide +kernel), rfl⟩
theorem q_413 : zq (.methodLink RX12 252 yX12_isDone) := ⟨List.mem_of_getElem? (i := 1726) (by decide +kernel), rfl⟩
theorem q_414 : zq (.constantLong RX12 270 31) := ⟨List.mem_of_getElem? (i := 1745) (by decide +kernel), rfl⟩
theorem q_415 : zq (.methodLink RX12 266 ⟨"java/util/Iterator", "next", "()Ljava/lang/Object;"⟩) := ⟨List.mem_of_getElem? (i := 1744) (by decide +kernel), rfl⟩
theorem q_416 : zq (.methodLink RX12 261 ⟨"java/util/Iterator", "hasNext", "()Z"⟩) := ⟨List.mem_of_getElem? (i := 1742) (by decide +kernel), rfl⟩
theorem q_417 : zq (.methodLink RX12 257 ⟨"java/util/List", "iterator", "()Ljava/util/Iterator;"⟩) := ⟨List.mem_of_getElem? (i := 1740) (by decide +kernel), rfl⟩
theorem q_418 : zq (.constantLong RX12 255 7) := ⟨List.mem_of_getElem? (i := 1738) (by decide +kernel), rfl⟩
theorem q_419 : zq (.methodLink RX12 272 ⟨"java/util/List", "isEmpty", "()Z"⟩) := ⟨List.mem_of_getElem? (i := 1755) (by decide +kernel), rfl⟩
theorem mi_X0_init : zMI yX0_init cX0_init 2 (none) 1 := ⟨⟨List.mem_of_getElem? (i := 158) (by decide +kernel), rfl⟩, ⟨List.mem_of_getElem? (i := 54) (by decide +kernel), rfl⟩, rfl, by decide, by decide, by decide +kernel⟩
theorem mi_X0_isFree : zMI yX0_isFree cX0_isFree 1 (some .boolean) 0 := ⟨⟨List.mem_of_getElem? (i := 819) (by decide +kernel), rfl⟩, ⟨List.mem_of_getElem? (i := 54) (by decide +kernel), rfl⟩, rfl, by decide, by decide, by decide +kernel⟩
theorem mi_X0_isSoundEnd : zMI yX0_isSoundEnd cX0_isSoundEnd 1 (some .boolean) 0 := ⟨⟨List.mem_of_getElem? (i := 319) (by decide +kernel), rfl⟩, ⟨List.mem_of_getElem? (i := 54) (by decide +kernel), rfl⟩, rfl, by decide, by decide, by decide +kernel⟩
theorem mi_X1_init : zMI yX1_init cX1_init 2 (none) 1 := ⟨⟨List.mem_of_getElem? (i := 213) (by decide +kernel), rfl⟩, ⟨List.mem_of_getElem? (i := 55) (by decide +kernel), rfl⟩, rfl, by decide, by decide, by decide +kernel⟩
theorem mi_X1_putPaper : zMI yX1_putPaper cX1_putPaper 3 (some .boolean) 1 := ⟨⟨List.mem_of_getElem? (i := 618) (by decide +kernel), rfl⟩, ⟨List.mem_of_getElem? (i := 55) (by decide +kernel), rfl⟩, rfl, by decide, by decide, by decide +kernel⟩
theorem mi_X1_canServe : zMI yX1_canServe cX1_canServe 3 (some .boolean) 2 := ⟨⟨List.mem_of_getElem? (i := 673) (by decide +kernel), rfl⟩, ⟨List.mem_of_getElem? (i := 55) (by decide +kernel), rfl⟩, rfl, by decide, by decide, by decide +kernel⟩
theorem mi_X2_init : zMI yX2_init cX2_init 1 (none) 0 := ⟨⟨List.mem_of_getElem? (i := 137) (by decide +kernel), rfl⟩, ⟨List.mem_of_getElem? (i := 53) (by decide +kernel), rfl⟩, rfl, by decide, by decide, by decide +kernel⟩
theorem mi_X2_fuse : zMI yX2_fuse cX2_fuse 2 (none) 1 := ⟨⟨List.mem_of_getElem? (i := 722) (by decide +kernel), rfl⟩, ⟨List.mem_of_getElem? (i := 53) (by decide +kernel), rfl⟩, rfl, by decide, by decide, by decide +kernel⟩
theorem mi_X2_renew : zMI yX2_renew cX2_renew 1 (none) 0 := ⟨⟨List.mem_of_getElem? (i := 537) (by decide +kernel), rfl⟩, ⟨List.mem_of_getElem? (i := 53) (by decide +kernel), rfl⟩, rfl, by decide, by decide, by decide +kernel⟩
theorem mi_X2_isLookedAt : zMI yX2_isLookedAt cX2_isLookedAt 1 (some .boolean) 0 := ⟨⟨List.mem_of_getElem? (i := 781) (by decide +kernel), rfl⟩, ⟨List.mem_of_getElem? (i := 53) (by decide +kernel), rfl⟩, rfl, by decide, by decide, by decide +kernel⟩
theorem mi_X4_init : zMI yX4_init cX4_init 1 (none) 0 := ⟨⟨List.mem_of_getElem? (i := 116) (by decide +kernel), rfl⟩, ⟨List.mem_of_getElem? (i := 52) (by decide +kernel), rfl⟩, rfl, by decide, by decide, by decide +kernel⟩
theorem mi_X3_init : zMI yX3_init cX3_init 3 (none) 1 := ⟨⟨List.mem_of_getElem? (i := 107) (by decide +kernel), rfl⟩, ⟨List.mem_of_getElem? (i := 51) (by decide +kernel), rfl⟩, rfl, by decide, by decide, by decide +kernel⟩
theorem mi_X3_append : zMI yX3_append cX3_append 3 (none) 2 := ⟨⟨List.mem_of_getElem? (i := 492) (by decide +kernel), rfl⟩, ⟨List.mem_of_getElem? (i := 51) (by decide +kernel), rfl⟩, rfl, by decide, by decide, by decide +kernel⟩
theorem mi_X3_endAt : zMI yX3_endAt cX3_endAt 2 (some (.object "SpoolwrightYard$End")) 1 := ⟨⟨List.mem_of_getElem? (i := 814) (by decide +kernel), rfl⟩, ⟨List.mem_of_getElem? (i := 51) (by decide +kernel), rfl⟩, rfl, by decide, by decide, by decide +kernel⟩
theorem mi_X3_jointCount : zMI yX3_jointCount cX3_jointCount 1 (some .int) 0 := ⟨⟨List.mem_of_getElem? (i := 301) (by decide +kernel), rfl⟩, ⟨List.mem_of_getElem? (i := 51) (by decide +kernel), rfl⟩, rfl, by decide, by decide, by decide +kernel⟩
theorem mi_X3_totalSize : zMI yX3_totalSize cX3_totalSize 3 (some .int) 0 := ⟨⟨List.mem_of_getElem? (i := 548) (by decide +kernel), rfl⟩, ⟨List.mem_of_getElem? (i := 51) (by decide +kernel), rfl⟩, rfl, by decide, by decide, by decide +kernel⟩
theorem mi_X3_spoolWith : zMI yX3_spoolWith cX3_spoolWith 7 (some .int) 1 := ⟨⟨List.mem_of_getElem? (i := 563) (by decide +kernel), rfl⟩, ⟨List.mem_of_getElem? (i := 51) (by decide +kernel), rfl⟩, rfl, by decide, by decide, by decide +kernel⟩
theorem mi_X3_spoolCount : zMI yX3_spoolCount cX3_spoolCount 1 (some .int) 0 := ⟨⟨List.mem_of_getElem? (i := 559) (by decide +kernel), rfl⟩, ⟨List.mem_of_getElem? (i := 51) (by decide +kernel), rfl⟩, rfl, by decide, by decide, by decide +kernel⟩
theorem mi_X3_undoBeside : zMI yX3_undoBeside cX3_undoBeside 4 (some .int) 1 := ⟨⟨List.mem_of_getElem? (i := 533) (by decide +kernel), rfl⟩, ⟨List.mem_of_getElem? (i := 51) (by decide +kernel), rfl⟩, rfl, by decide, by decide, by decide +kernel⟩
theorem mi_X3_countNotNew : zMI yX3_countNotNew cX3_countNotNew 3 (some .int) 0 := ⟨⟨List.mem_of_getElem? (i := 726) (by decide +kernel), rfl⟩, ⟨List.mem_of_getElem? (i := 51) (by decide +kernel), rfl⟩, rfl, by decide, by decide, by decide +kernel⟩
theorem mi_J9_min_7cf53 : zMI yJ9_min_7cf53 cJ9_min_7cf53 2 (some .int) 2 := ⟨⟨List.mem_of_getElem? (i := 784) (by decide +kernel), rfl⟩, ⟨List.mem_of_getElem? (i := 68) (by decide +kernel), rfl⟩, rfl, by decide, by decide, by decide +kernel⟩
theorem mi_J9_max_7cf53 : zMI yJ9_max_7cf53 cJ9_max_7cf53 2 (some .int) 2 := ⟨⟨List.mem_of_getElem? (i := 787) (by decide +kernel), rfl⟩, ⟨List.mem_of_getElem? (i := 68) (by decide +kernel), rfl⟩, rfl, by decide, by decide, by decide +kernel⟩
theorem mi_X3_looksDue : zMI yX3_looksDue cX3_looksDue 5 (some .int) 0 := ⟨⟨List.mem_of_getElem? (i := 777) (by decide +kernel), rfl⟩, ⟨List.mem_of_getElem? (i := 51) (by decide +kernel), rfl⟩, rfl, by decide, by decide, by decide +kernel⟩
theorem mi_X3_canBeTested : zMI yX3_canBeTested cX3_canBeTested 2 (some .boolean) 0 := ⟨⟨List.mem_of_getElem? (i := 871) (by decide +kernel), rfl⟩, ⟨List.mem_of_getElem? (i := 51) (by decide +kernel), rfl⟩, rfl, by decide, by decide, by decide +kernel⟩
theorem mi_X4_hasPaper : zMI yX4_hasPaper cX4_hasPaper 1 (some .boolean) 0 := ⟨⟨List.mem_of_getElem? (i := 902) (by decide +kernel), rfl⟩, ⟨List.mem_of_getElem? (i := 52) (by decide +kernel), rfl⟩, rfl, by decide, by decide, by decide +kernel⟩
theorem mi_X3_firstLack : zMI yX3_firstLack cX3_firstLack 5 (some .char) 1 := ⟨⟨List.mem_of_getElem? (i := 898) (by decide +kernel), rfl⟩, ⟨List.mem_of_getElem? (i := 51) (by decide +kernel), rfl⟩, rfl, by decide, by decide, by decide +kernel⟩
theorem mi_X3_isComplete : zMI yX3_isComplete cX3_isComplete 2 (some .boolean) 0 := ⟨⟨List.mem_of_getElem? (i := 937) (by decide +kernel), rfl⟩, ⟨List.mem_of_getElem? (i := 51) (by decide +kernel), rfl⟩, rfl, by decide, by decide, by decide +kernel⟩
theorem mi_X3_areJointsSound : zMI yX3_areJointsSound cX3_areJointsSound 5 (some .boolean) 0 := ⟨⟨List.mem_of_getElem? (i := 314) (by decide +kernel), rfl⟩, ⟨List.mem_of_getElem? (i := 51) (by decide +kernel), rfl⟩, rfl, by decide, by decide, by decide +kernel⟩
theorem mi_X4_returnSteel : zMI yX4_returnSteel cX4_returnSteel 1 (none) 0 := ⟨⟨List.mem_of_getElem? (i := 529) (by decide +kernel), rfl⟩, ⟨List.mem_of_getElem? (i := 52) (by decide +kernel), rfl⟩, rfl, by decide, by decide, by decide +kernel⟩
theorem mi_X4_takeSteel : zMI yX4_takeSteel cX4_takeSteel 2 (none) 1 := ⟨⟨List.mem_of_getElem? (i := 637) (by decide +kernel), rfl⟩, ⟨List.mem_of_getElem? (i := 52) (by decide +kernel), rfl⟩, rfl, by decide, by decide, by decide +kernel⟩
theorem mi_X5_init : zMI yX5_init cX5_init 3 (none) 1 := ⟨⟨List.mem_of_getElem? (i := 241) (by decide +kernel), rfl⟩, ⟨List.mem_of_getElem? (i := 56) (by decide +kernel), rfl⟩, rfl, by decide, by decide, by decide +kernel⟩
theorem mi_X6_init : zMI yX6_init cX6_init 2 (none) 0 := ⟨⟨List.mem_of_getElem? (i := 94) (by decide +kernel), rfl⟩, ⟨List.mem_of_getElem? (i := 50) (by decide +kernel), rfl⟩, rfl, by decide, by decide, by decide +kernel⟩
theorem mi_X6_lookShareOf : zMI yX6_lookShareOf cX6_lookShareOf 1 (some .int) 1 := ⟨⟨List.mem_of_getElem? (i := 426) (by decide +kernel), rfl⟩, ⟨List.mem_of_getElem? (i := 50) (by decide +kernel), rfl⟩, rfl, by decide, by decide, by decide +kernel⟩
theorem mi_X6_addLine : zMI yX6_addLine cX6_addLine 2 (some .int) 1 := ⟨⟨List.mem_of_getElem? (i := 335) (by decide +kernel), rfl⟩, ⟨List.mem_of_getElem? (i := 50) (by decide +kernel), rfl⟩, rfl, by decide, by decide, by decide +kernel⟩
theorem mi_X6_isPartLength : zMI yX6_isPartLength cX6_isPartLength 1 (some .boolean) 1 := ⟨⟨List.mem_of_getElem? (i := 486) (by decide +kernel), rfl⟩, ⟨List.mem_of_getElem? (i := 50) (by decide +kernel), rfl⟩, rfl, by decide, by decide, by decide +kernel⟩
theorem mi_X6_isLine : zMI yX6_isLine cX6_isLine 2 (some .boolean) 1 := ⟨⟨List.mem_of_getElem? (i := 469) (by decide +kernel), rfl⟩, ⟨List.mem_of_getElem? (i := 50) (by decide +kernel), rfl⟩, rfl, by decide, by decide, by decide +kernel⟩
theorem mi_X6_checkLine : zMI yX6_checkLine cX6_checkLine 2 (none) 1 := ⟨⟨List.mem_of_getElem? (i := 465) (by decide +kernel), rfl⟩, ⟨List.mem_of_getElem? (i := 50) (by decide +kernel), rfl⟩, rfl, by decide, by decide, by decide +kernel⟩
theorem mi_X6_lineAt : zMI yX6_lineAt cX6_lineAt 2 (some (.object "SpoolwrightYard$Line")) 1 := ⟨⟨List.mem_of_getElem? (i := 461) (by decide +kernel), rfl⟩, ⟨List.mem_of_getElem? (i := 50) (by decide +kernel), rfl⟩, rfl, by decide, by decide, by decide +kernel⟩
theorem mi_X6_addPart : zMI yX6_addPart cX6_addPart 5 (some .int) 3 := ⟨⟨List.mem_of_getElem? (i := 457) (by decide +kernel), rfl⟩, ⟨List.mem_of_getElem? (i := 50) (by decide +kernel), rfl⟩, rfl, by decide, by decide, by decide +kernel⟩
theorem mi_X6_checkPart : zMI yX6_checkPart cX6_checkPart 3 (none) 2 := ⟨⟨List.mem_of_getElem? (i := 508) (by decide +kernel), rfl⟩, ⟨List.mem_of_getElem? (i := 50) (by decide +kernel), rfl⟩, rfl, by decide, by decide, by decide +kernel⟩
theorem mi_X6_partAt : zMI yX6_partAt cX6_partAt 3 (some (.object "SpoolwrightYard$Part")) 2 := ⟨⟨List.mem_of_getElem? (i := 504) (by decide +kernel), rfl⟩, ⟨List.mem_of_getElem? (i := 50) (by decide +kernel), rfl⟩, rfl, by decide, by decide, by decide +kernel⟩
theorem mi_X6_setLength : zMI yX6_setLength cX6_setLength 6 (some .int) 3 := ⟨⟨List.mem_of_getElem? (i := 500) (by decide +kernel), rfl⟩, ⟨List.mem_of_getElem? (i := 50) (by decide +kernel), rfl⟩, rfl, by decide, by decide, by decide +kernel⟩
theorem mi_X6_length : zMI yX6_length cX6_length 2 (some .int) 1 := ⟨⟨List.mem_of_getElem? (i := 544) (by decide +kernel), rfl⟩, ⟨List.mem_of_getElem? (i := 50) (by decide +kernel), rfl⟩, rfl, by decide, by decide, by decide +kernel⟩
theorem mi_X6_spools : zMI yX6_spools cX6_spools 2 (some .int) 1 := ⟨⟨List.mem_of_getElem? (i := 555) (by decide +kernel), rfl⟩, ⟨List.mem_of_getElem? (i := 50) (by decide +kernel), rfl⟩, rfl, by decide, by decide, by decide +kernel⟩
theorem mi_X6_spoolOf : zMI yX6_spoolOf cX6_spoolOf 3 (some .int) 2 := ⟨⟨List.mem_of_getElem? (i := 570) (by decide +kernel), rfl⟩, ⟨List.mem_of_getElem? (i := 50) (by decide +kernel), rfl⟩, rfl, by decide, by decide, by decide +kernel⟩
theorem mi_X6_checkJoint : zMI yX6_checkJoint cX6_checkJoint 3 (none) 2 := ⟨⟨List.mem_of_getElem? (i := 582) (by decide +kernel), rfl⟩, ⟨List.mem_of_getElem? (i := 50) (by decide +kernel), rfl⟩, rfl, by decide, by decide, by decide +kernel⟩
theorem mi_X6_isField : zMI yX6_isField cX6_isField 3 (some .boolean) 2 := ⟨⟨List.mem_of_getElem? (i := 578) (by decide +kernel), rfl⟩, ⟨List.mem_of_getElem? (i := 50) (by decide +kernel), rfl⟩, rfl, by decide, by decide, by decide +kernel⟩
theorem mi_X6_isAlloy : zMI yX6_isAlloy cX6_isAlloy 1 (some .boolean) 1 := ⟨⟨List.mem_of_getElem? (i := 593) (by decide +kernel), rfl⟩, ⟨List.mem_of_getElem? (i := 50) (by decide +kernel), rfl⟩, rfl, by decide, by decide, by decide +kernel⟩
theorem mi_X6_addHeat : zMI yX6_addHeat cX6_addHeat 5 (some .int) 3 := ⟨⟨List.mem_of_getElem? (i := 590) (by decide +kernel), rfl⟩, ⟨List.mem_of_getElem? (i := 50) (by decide +kernel), rfl⟩, rfl, by decide, by decide, by decide +kernel⟩
theorem mi_X6_heatAt : zMI yX6_heatAt cX6_heatAt 2 (some (.object "SpoolwrightYard$Heat")) 1 := ⟨⟨List.mem_of_getElem? (i := 606) (by decide +kernel), rfl⟩, ⟨List.mem_of_getElem? (i := 50) (by decide +kernel), rfl⟩, rfl, by decide, by decide, by decide +kernel⟩
theorem mi_X6_left : zMI yX6_left cX6_left 2 (some .int) 1 := ⟨⟨List.mem_of_getElem? (i := 602) (by decide +kernel), rfl⟩, ⟨List.mem_of_getElem? (i := 50) (by decide +kernel), rfl⟩, rfl, by decide, by decide, by decide +kernel⟩
theorem mi_X6_losePaper : zMI yX6_losePaper cX6_losePaper 2 (some .boolean) 1 := ⟨⟨List.mem_of_getElem? (i := 614) (by decide +kernel), rfl⟩, ⟨List.mem_of_getElem? (i := 50) (by decide +kernel), rfl⟩, rfl, by decide, by decide, by decide +kernel⟩
theorem mi_X6_test : zMI yX6_test cX6_test 2 (some .boolean) 1 := ⟨⟨List.mem_of_getElem? (i := 625) (by decide +kernel), rfl⟩, ⟨List.mem_of_getElem? (i := 50) (by decide +kernel), rfl⟩, rfl, by decide, by decide, by decide +kernel⟩
theorem mi_X6_give : zMI yX6_give cX6_give 6 (some .int) 3 := ⟨⟨List.mem_of_getElem? (i := 632) (by decide +kernel), rfl⟩, ⟨List.mem_of_getElem? (i := 50) (by decide +kernel), rfl⟩, rfl, by decide, by decide, by decide +kernel⟩
theorem mi_X6_heatOf : zMI yX6_heatOf cX6_heatOf 4 (some .int) 2 := ⟨⟨List.mem_of_getElem? (i := 645) (by decide +kernel), rfl⟩, ⟨List.mem_of_getElem? (i := 50) (by decide +kernel), rfl⟩, rfl, by decide, by decide, by decide +kernel⟩
theorem mi_X6_bestHeat : zMI yX6_bestHeat cX6_bestHeat 8 (some .int) 3 := ⟨⟨List.mem_of_getElem? (i := 668) (by decide +kernel), rfl⟩, ⟨List.mem_of_getElem? (i := 50) (by decide +kernel), rfl⟩, rfl, by decide, by decide, by decide +kernel⟩
theorem mi_X6_addWelder : zMI yX6_addWelder cX6_addWelder 1 (some .int) 0 := ⟨⟨List.mem_of_getElem? (i := 681) (by decide +kernel), rfl⟩, ⟨List.mem_of_getElem? (i := 50) (by decide +kernel), rfl⟩, rfl, by decide, by decide, by decide +kernel⟩
theorem mi_X6_welderAt : zMI yX6_welderAt cX6_welderAt 2 (some (.object "SpoolwrightYard$Welder")) 1 := ⟨⟨List.mem_of_getElem? (i := 693) (by decide +kernel), rfl⟩, ⟨List.mem_of_getElem? (i := 50) (by decide +kernel), rfl⟩, rfl, by decide, by decide, by decide +kernel⟩
theorem mi_X6_ticket : zMI yX6_ticket cX6_ticket 6 (some .int) 3 := ⟨⟨List.mem_of_getElem? (i := 689) (by decide +kernel), rfl⟩, ⟨List.mem_of_getElem? (i := 50) (by decide +kernel), rfl⟩, rfl, by decide, by decide, by decide +kernel⟩
theorem mi_X6_isAllowed : zMI yX6_isAllowed cX6_isAllowed 6 (some .boolean) 3 := ⟨⟨List.mem_of_getElem? (i := 706) (by decide +kernel), rfl⟩, ⟨List.mem_of_getElem? (i := 50) (by decide +kernel), rfl⟩, rfl, by decide, by decide, by decide +kernel⟩
theorem mi_X6_mayWeld : zMI yX6_mayWeld cX6_mayWeld 4 (some .boolean) 3 := ⟨⟨List.mem_of_getElem? (i := 702) (by decide +kernel), rfl⟩, ⟨List.mem_of_getElem? (i := 50) (by decide +kernel), rfl⟩, rfl, by decide, by decide, by decide +kernel⟩
theorem mi_X6_jointAt : zMI yX6_jointAt cX6_jointAt 3 (some (.object "SpoolwrightYard$Joint")) 2 := ⟨⟨List.mem_of_getElem? (i := 717) (by decide +kernel), rfl⟩, ⟨List.mem_of_getElem? (i := 50) (by decide +kernel), rfl⟩, rfl, by decide, by decide, by decide +kernel⟩
theorem mi_X6_weld : zMI yX6_weld cX6_weld 6 (some .int) 3 := ⟨⟨List.mem_of_getElem? (i := 713) (by decide +kernel), rfl⟩, ⟨List.mem_of_getElem? (i := 50) (by decide +kernel), rfl⟩, rfl, by decide, by decide, by decide +kernel⟩
theorem mi_X6_look : zMI yX6_look cX6_look 5 (some .char) 3 := ⟨⟨List.mem_of_getElem? (i := 733) (by decide +kernel), rfl⟩, ⟨List.mem_of_getElem? (i := 50) (by decide +kernel), rfl⟩, rfl, by decide, by decide, by decide +kernel⟩
theorem mi_X6_repair : zMI yX6_repair cX6_repair 6 (some .int) 3 := ⟨⟨List.mem_of_getElem? (i := 741) (by decide +kernel), rfl⟩, ⟨List.mem_of_getElem? (i := 50) (by decide +kernel), rfl⟩, rfl, by decide, by decide, by decide +kernel⟩
theorem mi_X6_cutOut : zMI yX6_cutOut cX6_cutOut 4 (some .int) 2 := ⟨⟨List.mem_of_getElem? (i := 749) (by decide +kernel), rfl⟩, ⟨List.mem_of_getElem? (i := 50) (by decide +kernel), rfl⟩, rfl, by decide, by decide, by decide +kernel⟩
theorem mi_X6_joint : zMI yX6_joint cX6_joint 3 (some .char) 2 := ⟨⟨List.mem_of_getElem? (i := 758) (by decide +kernel), rfl⟩, ⟨List.mem_of_getElem? (i := 50) (by decide +kernel), rfl⟩, rfl, by decide, by decide, by decide +kernel⟩
theorem mi_X6_welderOf : zMI yX6_welderOf cX6_welderOf 4 (some .int) 2 := ⟨⟨List.mem_of_getElem? (i := 765) (by decide +kernel), rfl⟩, ⟨List.mem_of_getElem? (i := 50) (by decide +kernel), rfl⟩, rfl, by decide, by decide, by decide +kernel⟩
theorem mi_X6_toLook : zMI yX6_toLook cX6_toLook 2 (some .int) 1 := ⟨⟨List.mem_of_getElem? (i := 773) (by decide +kernel), rfl⟩, ⟨List.mem_of_getElem? (i := 50) (by decide +kernel), rfl⟩, rfl, by decide, by decide, by decide +kernel⟩
theorem mi_X6_failed : zMI yX6_failed cX6_failed 2 (some .int) 1 := ⟨⟨List.mem_of_getElem? (i := 794) (by decide +kernel), rfl⟩, ⟨List.mem_of_getElem? (i := 50) (by decide +kernel), rfl⟩, rfl, by decide, by decide, by decide +kernel⟩
theorem mi_X6_pass : zMI yX6_pass cX6_pass 2 (some .int) 1 := ⟨⟨List.mem_of_getElem? (i := 801) (by decide +kernel), rfl⟩, ⟨List.mem_of_getElem? (i := 50) (by decide +kernel), rfl⟩, rfl, by decide, by decide, by decide +kernel⟩
theorem mi_X6_join : zMI yX6_join cX6_join 8 (some .boolean) 4 := ⟨⟨List.mem_of_getElem? (i := 810) (by decide +kernel), rfl⟩, ⟨List.mem_of_getElem? (i := 50) (by decide +kernel), rfl⟩, rfl, by decide, by decide, by decide +kernel⟩
theorem mi_X6_blind : zMI yX6_blind cX6_blind 6 (some .boolean) 3 := ⟨⟨List.mem_of_getElem? (i := 827) (by decide +kernel), rfl⟩, ⟨List.mem_of_getElem? (i := 50) (by decide +kernel), rfl⟩, rfl, by decide, by decide, by decide +kernel⟩
theorem mi_X6_addCircuit : zMI yX6_addCircuit cX6_addCircuit 2 (some .int) 1 := ⟨⟨List.mem_of_getElem? (i := 835) (by decide +kernel), rfl⟩, ⟨List.mem_of_getElem? (i := 50) (by decide +kernel), rfl⟩, rfl, by decide, by decide, by decide +kernel⟩
theorem mi_X6_circuitAt : zMI yX6_circuitAt cX6_circuitAt 2 (some .int) 1 := ⟨⟨List.mem_of_getElem? (i := 848) (by decide +kernel), rfl⟩, ⟨List.mem_of_getElem? (i := 50) (by decide +kernel), rfl⟩, rfl, by decide, by decide, by decide +kernel⟩
theorem mi_X6_hasBit : zMI yX6_hasBit cX6_hasBit 2 (some .boolean) 2 := ⟨⟨List.mem_of_getElem? (i := 326) (by decide +kernel), rfl⟩, ⟨List.mem_of_getElem? (i := 50) (by decide +kernel), rfl⟩, rfl, by decide, by decide, by decide +kernel⟩
theorem mi_X6_isOpen : zMI yX6_isOpen cX6_isOpen 2 (some .boolean) 2 := ⟨⟨List.mem_of_getElem? (i := 856) (by decide +kernel), rfl⟩, ⟨List.mem_of_getElem? (i := 50) (by decide +kernel), rfl⟩, rfl, by decide, by decide, by decide +kernel⟩
theorem mi_X6_countOpenEnds : zMI yX6_countOpenEnds cX6_countOpenEnds 4 (some .int) 1 := ⟨⟨List.mem_of_getElem? (i := 853) (by decide +kernel), rfl⟩, ⟨List.mem_of_getElem? (i := 50) (by decide +kernel), rfl⟩, rfl, by decide, by decide, by decide +kernel⟩
theorem mi_X6_open : zMI yX6_open cX6_open 2 (some .int) 1 := ⟨⟨List.mem_of_getElem? (i := 844) (by decide +kernel), rfl⟩, ⟨List.mem_of_getElem? (i := 50) (by decide +kernel), rfl⟩, rfl, by decide, by decide, by decide +kernel⟩
theorem mi_X6_isTestable : zMI yX6_isTestable cX6_isTestable 3 (some .boolean) 1 := ⟨⟨List.mem_of_getElem? (i := 867) (by decide +kernel), rfl⟩, ⟨List.mem_of_getElem? (i := 50) (by decide +kernel), rfl⟩, rfl, by decide, by decide, by decide +kernel⟩
theorem mi_X6_canTest : zMI yX6_canTest cX6_canTest 2 (some .boolean) 1 := ⟨⟨List.mem_of_getElem? (i := 863) (by decide +kernel), rfl⟩, ⟨List.mem_of_getElem? (i := 50) (by decide +kernel), rfl⟩, rfl, by decide, by decide, by decide +kernel⟩
theorem mi_X6_testAll : zMI yX6_testAll cX6_testAll 5 (some .int) 1 := ⟨⟨List.mem_of_getElem? (i := 879) (by decide +kernel), rfl⟩, ⟨List.mem_of_getElem? (i := 50) (by decide +kernel), rfl⟩, rfl, by decide, by decide, by decide +kernel⟩
theorem mi_X6_isTested : zMI yX6_isTested cX6_isTested 2 (some .boolean) 1 := ⟨⟨List.mem_of_getElem? (i := 887) (by decide +kernel), rfl⟩, ⟨List.mem_of_getElem? (i := 50) (by decide +kernel), rfl⟩, rfl, by decide, by decide, by decide +kernel⟩
theorem mi_X6_lack : zMI yX6_lack cX6_lack 3 (some .char) 2 := ⟨⟨List.mem_of_getElem? (i := 894) (by decide +kernel), rfl⟩, ⟨List.mem_of_getElem? (i := 50) (by decide +kernel), rfl⟩, rfl, by decide, by decide, by decide +kernel⟩
theorem mi_X6_isLack : zMI yX6_isLack cX6_isLack 1 (some .boolean) 1 := ⟨⟨List.mem_of_getElem? (i := 912) (by decide +kernel), rfl⟩, ⟨List.mem_of_getElem? (i := 50) (by decide +kernel), rfl⟩, rfl, by decide, by decide, by decide +kernel⟩
theorem mi_X6_countLacking : zMI yX6_countLacking cX6_countLacking 5 (some .int) 1 := ⟨⟨List.mem_of_getElem? (i := 917) (by decide +kernel), rfl⟩, ⟨List.mem_of_getElem? (i := 50) (by decide +kernel), rfl⟩, rfl, by decide, by decide, by decide +kernel⟩
theorem mi_X6_lacks : zMI yX6_lacks cX6_lacks 2 (some .int) 1 := ⟨⟨List.mem_of_getElem? (i := 909) (by decide +kernel), rfl⟩, ⟨List.mem_of_getElem? (i := 50) (by decide +kernel), rfl⟩, rfl, by decide, by decide, by decide +kernel⟩
theorem mi_X6_undone : zMI yX6_undone cX6_undone 1 (some .int) 0 := ⟨⟨List.mem_of_getElem? (i := 292) (by decide +kernel), rfl⟩, ⟨List.mem_of_getElem? (i := 50) (by decide +kernel), rfl⟩, rfl, by decide, by decide, by decide +kernel⟩
theorem mi_X6_allAheadOf : zMI yX6_allAheadOf cX6_allAheadOf 5 (some .int) 1 := ⟨⟨List.mem_of_getElem? (i := 323) (by decide +kernel), rfl⟩, ⟨List.mem_of_getElem? (i := 50) (by decide +kernel), rfl⟩, rfl, by decide, by decide, by decide +kernel⟩
theorem mi_X6_ahead : zMI yX6_ahead cX6_ahead 5 (some .boolean) 2 := ⟨⟨List.mem_of_getElem? (i := 924) (by decide +kernel), rfl⟩, ⟨List.mem_of_getElem? (i := 50) (by decide +kernel), rfl⟩, rfl, by decide, by decide, by decide +kernel⟩
theorem mi_X6_isReady : zMI yX6_isReady cX6_isReady 4 (some .boolean) 1 := ⟨⟨List.mem_of_getElem? (i := 933) (by decide +kernel), rfl⟩, ⟨List.mem_of_getElem? (i := 50) (by decide +kernel), rfl⟩, rfl, by decide, by decide, by decide +kernel⟩
theorem mi_X6_nextOver : zMI yX6_nextOver cX6_nextOver 3 (some .int) 1 := ⟨⟨List.mem_of_getElem? (i := 950) (by decide +kernel), rfl⟩, ⟨List.mem_of_getElem? (i := 50) (by decide +kernel), rfl⟩, rfl, by decide, by decide, by decide +kernel⟩
theorem mi_X6_turnover : zMI yX6_turnover cX6_turnover 4 (some .int) 1 := ⟨⟨List.mem_of_getElem? (i := 945) (by decide +kernel), rfl⟩, ⟨List.mem_of_getElem? (i := 50) (by decide +kernel), rfl⟩, rfl, by decide, by decide, by decide +kernel⟩
theorem mi_X6_checksum : zMI yX6_checksum cX6_checksum 5 (some .long) 0 := ⟨⟨List.mem_of_getElem? (i := 296) (by decide +kernel), rfl⟩, ⟨List.mem_of_getElem? (i := 50) (by decide +kernel), rfl⟩, rfl, by decide, by decide, by decide +kernel⟩
theorem mi_X6_doneShare : zMI yX6_doneShare cX6_doneShare 3 (some .float) 0 := ⟨⟨List.mem_of_getElem? (i := 971) (by decide +kernel), rfl⟩, ⟨List.mem_of_getElem? (i := 50) (by decide +kernel), rfl⟩, rfl, by decide, by decide, by decide +kernel⟩
theorem mi_X6_meanSpool : zMI yX6_meanSpool cX6_meanSpool 4 (some .double) 1 := ⟨⟨List.mem_of_getElem? (i := 981) (by decide +kernel), rfl⟩, ⟨List.mem_of_getElem? (i := 50) (by decide +kernel), rfl⟩, rfl, by decide, by decide, by decide +kernel⟩
theorem mi_X6_sizeGivenFrom : zMI yX6_sizeGivenFrom cX6_sizeGivenFrom 6 (some .int) 1 := ⟨⟨List.mem_of_getElem? (i := 310) (by decide +kernel), rfl⟩, ⟨List.mem_of_getElem? (i := 50) (by decide +kernel), rfl⟩, rfl, by decide, by decide, by decide +kernel⟩
theorem mi_X6_isSound : zMI yX6_isSound cX6_isSound 2 (some .boolean) 0 := ⟨⟨List.mem_of_getElem? (i := 306) (by decide +kernel), rfl⟩, ⟨List.mem_of_getElem? (i := 50) (by decide +kernel), rfl⟩, rfl, by decide, by decide, by decide +kernel⟩
theorem mi_X7_init : zMI yX7_init cX7_init 4 (none) 3 := ⟨⟨List.mem_of_getElem? (i := 1395) (by decide +kernel), rfl⟩, ⟨List.mem_of_getElem? (i := 81) (by decide +kernel), rfl⟩, rfl, by decide, by decide, by decide +kernel⟩
theorem mi_X8_init : zMI yX8_init cX8_init 1 (none) 0 := ⟨⟨List.mem_of_getElem? (i := 1230) (by decide +kernel), rfl⟩, ⟨List.mem_of_getElem? (i := 77) (by decide +kernel), rfl⟩, rfl, by decide, by decide, by decide +kernel⟩
theorem mi_Jxa1e45_init_da8c8 : zMI yJxa1e45_init_da8c8 cJxa1e45_init_da8c8 1 (none) 0 := ⟨⟨List.mem_of_getElem? (i := 999) (by decide +kernel), rfl⟩, ⟨List.mem_of_getElem? (i := 58) (by decide +kernel), rfl⟩, rfl, by decide, by decide, by decide +kernel⟩
theorem mi_Jxc12de_init_da8c8 : zMI yJxc12de_init_da8c8 cJxc12de_init_da8c8 1 (none) 0 := ⟨⟨List.mem_of_getElem? (i := 996) (by decide +kernel), rfl⟩, ⟨List.mem_of_getElem? (i := 59) (by decide +kernel), rfl⟩, rfl, by decide, by decide, by decide +kernel⟩
theorem mi_Jx4a65c_init_da8c8 : zMI yJx4a65c_init_da8c8 cJx4a65c_init_da8c8 1 (none) 0 := ⟨⟨List.mem_of_getElem? (i := 993) (by decide +kernel), rfl⟩, ⟨List.mem_of_getElem? (i := 60) (by decide +kernel), rfl⟩, rfl, by decide, by decide, by decide +kernel⟩
theorem mi_X9_init : zMI yX9_init cX9_init 2 (none) 1 := ⟨⟨List.mem_of_getElem? (i := 1072) (by decide +kernel), rfl⟩, ⟨List.mem_of_getElem? (i := 66) (by decide +kernel), rfl⟩, rfl, by decide, by decide, by decide +kernel⟩
theorem mi_Jx35411_hasNext_aae02 : zMI yJx35411_hasNext_aae02 cJx35411_hasNext_aae02 1 (some .boolean) 0 := ⟨⟨List.mem_of_getElem? (i := 1328) (by decide +kernel), rfl⟩, ⟨List.mem_of_getElem? (i := 79) (by decide +kernel), rfl⟩, rfl, by decide, by decide, by decide +kernel⟩
theorem mi_Jx35411_checkForComodification_da8c8 : zMI yJx35411_checkForComodification_da8c8 cJx35411_checkForComodification_da8c8 1 (none) 0 := ⟨⟨List.mem_of_getElem? (i := 1341) (by decide +kernel), rfl⟩, ⟨List.mem_of_getElem? (i := 79) (by decide +kernel), rfl⟩, rfl, by decide, by decide, by decide +kernel⟩
theorem mi_Jx35411_next_0502b : zMI yJx35411_next_0502b cJx35411_next_0502b 3 (some (.object "java/lang/Object")) 0 := ⟨⟨List.mem_of_getElem? (i := 1337) (by decide +kernel), rfl⟩, ⟨List.mem_of_getElem? (i := 79) (by decide +kernel), rfl⟩, rfl, by decide, by decide, by decide +kernel⟩
theorem mi_Jx35411_init_45d68 : zMI yJx35411_init_45d68 cJx35411_init_45d68 2 (none) 1 := ⟨⟨List.mem_of_getElem? (i := 1304) (by decide +kernel), rfl⟩, ⟨List.mem_of_getElem? (i := 79) (by decide +kernel), rfl⟩, rfl, by decide, by decide, by decide +kernel⟩
theorem mi_Jx4a65c_iterator_32c93 : zMI yJx4a65c_iterator_32c93 cJx4a65c_iterator_32c93 1 (some (.object "java/util/Iterator")) 0 := ⟨⟨List.mem_of_getElem? (i := 1299) (by decide +kernel), rfl⟩, ⟨List.mem_of_getElem? (i := 60) (by decide +kernel), rfl⟩, rfl, by decide, by decide, by decide +kernel⟩
theorem mi_X9_length : zMI yX9_length cX9_length 4 (some .int) 0 := ⟨⟨List.mem_of_getElem? (i := 1290) (by decide +kernel), rfl⟩, ⟨List.mem_of_getElem? (i := 66) (by decide +kernel), rfl⟩, rfl, by decide, by decide, by decide +kernel⟩
theorem mi_Jx4a65c_size_8abf5 : zMI yJx4a65c_size_8abf5 cJx4a65c_size_8abf5 1 (some .int) 0 := ⟨⟨List.mem_of_getElem? (i := 1063) (by decide +kernel), rfl⟩, ⟨List.mem_of_getElem? (i := 60) (by decide +kernel), rfl⟩, rfl, by decide, by decide, by decide +kernel⟩
theorem mi_J3_checkIndex_8e157 : zMI yJ3_checkIndex_8e157 cJ3_checkIndex_8e157 3 (some .int) 3 := ⟨⟨List.mem_of_getElem? (i := 1200) (by decide +kernel), rfl⟩, ⟨List.mem_of_getElem? (i := 75) (by decide +kernel), rfl⟩, rfl, by decide, by decide, by decide +kernel⟩
theorem mi_J15_checkIndex_7cf53 : zMI yJ15_checkIndex_7cf53 cJ15_checkIndex_7cf53 2 (some .int) 2 := ⟨⟨List.mem_of_getElem? (i := 1197) (by decide +kernel), rfl⟩, ⟨List.mem_of_getElem? (i := 74) (by decide +kernel), rfl⟩, rfl, by decide, by decide, by decide +kernel⟩
theorem mi_Jx4a65c_elementData_915e3 : zMI yJx4a65c_elementData_915e3 cJx4a65c_elementData_915e3 2 (some (.object "java/lang/Object")) 1 := ⟨⟨List.mem_of_getElem? (i := 1204) (by decide +kernel), rfl⟩, ⟨List.mem_of_getElem? (i := 60) (by decide +kernel), rfl⟩, rfl, by decide, by decide, by decide +kernel⟩
theorem mi_Jx4a65c_get_915e3 : zMI yJx4a65c_get_915e3 cJx4a65c_get_915e3 2 (some (.object "java/lang/Object")) 1 := ⟨⟨List.mem_of_getElem? (i := 1194) (by decide +kernel), rfl⟩, ⟨List.mem_of_getElem? (i := 60) (by decide +kernel), rfl⟩, rfl, by decide, by decide, by decide +kernel⟩
theorem mi_X9_spool : zMI yX9_spool cX9_spool 8 (some .int) 1 := ⟨⟨List.mem_of_getElem? (i := 1376) (by decide +kernel), rfl⟩, ⟨List.mem_of_getElem? (i := 66) (by decide +kernel), rfl⟩, rfl, by decide, by decide, by decide +kernel⟩
theorem mi_Jx4a65c_isEmpty_aae02 : zMI yJx4a65c_isEmpty_aae02 cJx4a65c_isEmpty_aae02 1 (some .boolean) 0 := ⟨⟨List.mem_of_getElem? (i := 1370) (by decide +kernel), rfl⟩, ⟨List.mem_of_getElem? (i := 60) (by decide +kernel), rfl⟩, rfl, by decide, by decide, by decide +kernel⟩
theorem mi_X9_spools : zMI yX9_spools cX9_spools 1 (some .int) 0 := ⟨⟨List.mem_of_getElem? (i := 1361) (by decide +kernel), rfl⟩, ⟨List.mem_of_getElem? (i := 66) (by decide +kernel), rfl⟩, rfl, by decide, by decide, by decide +kernel⟩
theorem mi_J0_isLatin1_aae02 : zMI yJ0_isLatin1_aae02 cJ0_isLatin1_aae02 1 (some .boolean) 0 := ⟨⟨List.mem_of_getElem? (i := 1505) (by decide +kernel), rfl⟩, ⟨List.mem_of_getElem? (i := 73) (by decide +kernel), rfl⟩, rfl, by decide, by decide, by decide +kernel⟩
theorem mi_J0_coder_7d493 : zMI yJ0_coder_7d493 cJ0_coder_7d493 1 (some .byte) 0 := ⟨⟨List.mem_of_getElem? (i := 1515) (by decide +kernel), rfl⟩, ⟨List.mem_of_getElem? (i := 73) (by decide +kernel), rfl⟩, rfl, by decide, by decide, by decide +kernel⟩
theorem mi_J0_length_8abf5 : zMI yJ0_length_8abf5 cJ0_length_8abf5 1 (some .int) 0 := ⟨⟨List.mem_of_getElem? (i := 1511) (by decide +kernel), rfl⟩, ⟨List.mem_of_getElem? (i := 73) (by decide +kernel), rfl⟩, rfl, by decide, by decide, by decide +kernel⟩
theorem mi_J1_canEncode_9a6ad : zMI yJ1_canEncode_9a6ad cJ1_canEncode_9a6ad 1 (some .boolean) 1 := ⟨⟨List.mem_of_getElem? (i := 1521) (by decide +kernel), rfl⟩, ⟨List.mem_of_getElem? (i := 83) (by decide +kernel), rfl⟩, rfl, by decide, by decide, by decide +kernel⟩
theorem mi_J1_indexOfChar_4cfef : zMI yJ1_indexOfChar_4cfef cJ1_indexOfChar_4cfef 6 (some .int) 4 := ⟨⟨List.mem_of_getElem? (i := 1526) (by decide +kernel), rfl⟩, ⟨List.mem_of_getElem? (i := 83) (by decide +kernel), rfl⟩, rfl, by decide, by decide, by decide +kernel⟩
theorem mi_J1_indexOf_4cfef : zMI yJ1_indexOf_4cfef cJ1_indexOf_4cfef 4 (some .int) 4 := ⟨⟨List.mem_of_getElem? (i := 1518) (by decide +kernel), rfl⟩, ⟨List.mem_of_getElem? (i := 83) (by decide +kernel), rfl⟩, rfl, by decide, by decide, by decide +kernel⟩
theorem mi_J0_indexOf_7cf53 : zMI yJ0_indexOf_7cf53 cJ0_indexOf_7cf53 3 (some .int) 2 := ⟨⟨List.mem_of_getElem? (i := 1501) (by decide +kernel), rfl⟩, ⟨List.mem_of_getElem? (i := 73) (by decide +kernel), rfl⟩, rfl, by decide, by decide, by decide +kernel⟩
theorem mi_J0_indexOf_0f7a4 : zMI yJ0_indexOf_0f7a4 cJ0_indexOf_0f7a4 2 (some .int) 1 := ⟨⟨List.mem_of_getElem? (i := 1497) (by decide +kernel), rfl⟩, ⟨List.mem_of_getElem? (i := 73) (by decide +kernel), rfl⟩, rfl, by decide, by decide, by decide +kernel⟩
theorem mi_X9_many : zMI yX9_many cX9_many 5 (some .int) 1 := ⟨⟨List.mem_of_getElem? (i := 1492) (by decide +kernel), rfl⟩, ⟨List.mem_of_getElem? (i := 66) (by decide +kernel), rfl⟩, rfl, by decide, by decide, by decide +kernel⟩
theorem mi_X9_toLook : zMI yX9_toLook cX9_toLook 1 (some .int) 0 := ⟨⟨List.mem_of_getElem? (i := 1603) (by decide +kernel), rfl⟩, ⟨List.mem_of_getElem? (i := 66) (by decide +kernel), rfl⟩, rfl, by decide, by decide, by decide +kernel⟩
theorem mi_X9_isBlind : zMI yX9_isBlind cX9_isBlind 1 (some .boolean) 0 := ⟨⟨List.mem_of_getElem? (i := 1699) (by decide +kernel), rfl⟩, ⟨List.mem_of_getElem? (i := 66) (by decide +kernel), rfl⟩, rfl, by decide, by decide, by decide +kernel⟩
theorem mi_X10_init : zMI yX10_init cX10_init 3 (none) 2 := ⟨⟨List.mem_of_getElem? (i := 1209) (by decide +kernel), rfl⟩, ⟨List.mem_of_getElem? (i := 76) (by decide +kernel), rfl⟩, rfl, by decide, by decide, by decide +kernel⟩
theorem mi_X11_init : zMI yX11_init cX11_init 1 (none) 0 := ⟨⟨List.mem_of_getElem? (i := 1454) (by decide +kernel), rfl⟩, ⟨List.mem_of_getElem? (i := 82) (by decide +kernel), rfl⟩, rfl, by decide, by decide, by decide +kernel⟩
theorem mi_X12_init : zMI yX12_init cX12_init 1 (none) 0 := ⟨⟨List.mem_of_getElem? (i := 987) (by decide +kernel), rfl⟩, ⟨List.mem_of_getElem? (i := 57) (by decide +kernel), rfl⟩, rfl, by decide, by decide, by decide +kernel⟩
theorem mi_X12_thrown : zMI yX12_thrown cX12_thrown 1 (some .int) 0 := ⟨⟨List.mem_of_getElem? (i := 1046) (by decide +kernel), rfl⟩, ⟨List.mem_of_getElem? (i := 57) (by decide +kernel), rfl⟩, rfl, by decide, by decide, by decide +kernel⟩
theorem mi_X12_fails : zMI yX12_fails cX12_fails 2 (some .boolean) 1 := ⟨⟨List.mem_of_getElem? (i := 1067) (by decide +kernel), rfl⟩, ⟨List.mem_of_getElem? (i := 57) (by decide +kernel), rfl⟩, rfl, by decide, by decide, by decide +kernel⟩
theorem mi_X12_in : zMI yX12_in cX12_in 3 (some .boolean) 3 := ⟨⟨List.mem_of_getElem? (i := 1053) (by decide +kernel), rfl⟩, ⟨List.mem_of_getElem? (i := 57) (by decide +kernel), rfl⟩, rfl, by decide, by decide, by decide +kernel⟩
theorem mi_X12_isLine : zMI yX12_isLine cX12_isLine 2 (some .boolean) 1 := ⟨⟨List.mem_of_getElem? (i := 1185) (by decide +kernel), rfl⟩, ⟨List.mem_of_getElem? (i := 57) (by decide +kernel), rfl⟩, rfl, by decide, by decide, by decide +kernel⟩
theorem mi_X12_isPart : zMI yX12_isPart cX12_isPart 3 (some .boolean) 2 := ⟨⟨List.mem_of_getElem? (i := 1252) (by decide +kernel), rfl⟩, ⟨List.mem_of_getElem? (i := 57) (by decide +kernel), rfl⟩, rfl, by decide, by decide, by decide +kernel⟩
theorem mi_X12_isJoint : zMI yX12_isJoint cX12_isJoint 3 (some .boolean) 2 := ⟨⟨List.mem_of_getElem? (i := 1269) (by decide +kernel), rfl⟩, ⟨List.mem_of_getElem? (i := 57) (by decide +kernel), rfl⟩, rfl, by decide, by decide, by decide +kernel⟩
theorem mi_X12_isHeat : zMI yX12_isHeat cX12_isHeat 2 (some .boolean) 1 := ⟨⟨List.mem_of_getElem? (i := 1417) (by decide +kernel), rfl⟩, ⟨List.mem_of_getElem? (i := 57) (by decide +kernel), rfl⟩, rfl, by decide, by decide, by decide +kernel⟩
theorem mi_X12_isWelder : zMI yX12_isWelder cX12_isWelder 2 (some .boolean) 1 := ⟨⟨List.mem_of_getElem? (i := 1471) (by decide +kernel), rfl⟩, ⟨List.mem_of_getElem? (i := 57) (by decide +kernel), rfl⟩, rfl, by decide, by decide, by decide +kernel⟩
theorem mi_X12_isCircuit : zMI yX12_isCircuit cX12_isCircuit 2 (some .boolean) 1 := ⟨⟨List.mem_of_getElem? (i := 1657) (by decide +kernel), rfl⟩, ⟨List.mem_of_getElem? (i := 57) (by decide +kernel), rfl⟩, rfl, by decide, by decide, by decide +kernel⟩
theorem mi_X12_part : zMI yX12_part cX12_part 3 (some (.object "SpoolwrightYardModel$Part")) 2 := ⟨⟨List.mem_of_getElem? (i := 1256) (by decide +kernel), rfl⟩, ⟨List.mem_of_getElem? (i := 57) (by decide +kernel), rfl⟩, rfl, by decide, by decide, by decide +kernel⟩
theorem mi_X12_at : zMI yX12_at cX12_at 3 (some (.object "SpoolwrightYardModel$Joint")) 2 := ⟨⟨List.mem_of_getElem? (i := 1273) (by decide +kernel), rfl⟩, ⟨List.mem_of_getElem? (i := 57) (by decide +kernel), rfl⟩, rfl, by decide, by decide, by decide +kernel⟩
theorem mi_Jx4a65c_grow_92f84 : zMI yJx4a65c_grow_92f84 cJx4a65c_grow_92f84 4 (some (.array (.object "java/lang/Object"))) 1 := ⟨⟨List.mem_of_getElem? (i := 1127) (by decide +kernel), rfl⟩, ⟨List.mem_of_getElem? (i := 60) (by decide +kernel), rfl⟩, rfl, by decide, by decide, by decide +kernel⟩
theorem mi_Jx4a65c_grow_d5877 : zMI yJx4a65c_grow_d5877 cJx4a65c_grow_d5877 1 (some (.array (.object "java/lang/Object"))) 0 := ⟨⟨List.mem_of_getElem? (i := 1123) (by decide +kernel), rfl⟩, ⟨List.mem_of_getElem? (i := 60) (by decide +kernel), rfl⟩, rfl, by decide, by decide, by decide +kernel⟩
theorem mi_Jx4a65c_add_72be8 : zMI yJx4a65c_add_72be8 cJx4a65c_add_72be8 4 (none) 3 := ⟨⟨List.mem_of_getElem? (i := 1119) (by decide +kernel), rfl⟩, ⟨List.mem_of_getElem? (i := 60) (by decide +kernel), rfl⟩, rfl, by decide, by decide, by decide +kernel⟩
theorem mi_Jx4a65c_add_9ea2d : zMI yJx4a65c_add_9ea2d cJx4a65c_add_9ea2d 2 (some .boolean) 1 := ⟨⟨List.mem_of_getElem? (i := 1115) (by decide +kernel), rfl⟩, ⟨List.mem_of_getElem? (i := 60) (by decide +kernel), rfl⟩, rfl, by decide, by decide, by decide +kernel⟩
theorem mi_X12_addLine : zMI yX12_addLine cX12_addLine 2 (some .int) 1 := ⟨⟨List.mem_of_getElem? (i := 1050) (by decide +kernel), rfl⟩, ⟨List.mem_of_getElem? (i := 57) (by decide +kernel), rfl⟩, rfl, by decide, by decide, by decide +kernel⟩
theorem mi_X12_addPart : zMI yX12_addPart cX12_addPart 6 (some .int) 3 := ⟨⟨List.mem_of_getElem? (i := 1181) (by decide +kernel), rfl⟩, ⟨List.mem_of_getElem? (i := 57) (by decide +kernel), rfl⟩, rfl, by decide, by decide, by decide +kernel⟩
theorem mi_Jx4a65c_set_bcc79 : zMI yJx4a65c_set_bcc79 cJx4a65c_set_bcc79 4 (some (.object "java/lang/Object")) 2 := ⟨⟨List.mem_of_getElem? (i := 1282) (by decide +kernel), rfl⟩, ⟨List.mem_of_getElem? (i := 60) (by decide +kernel), rfl⟩, rfl, by decide, by decide, by decide +kernel⟩
theorem mi_X12_undoes : zMI yX12_undoes cX12_undoes 4 (none) 2 := ⟨⟨List.mem_of_getElem? (i := 1265) (by decide +kernel), rfl⟩, ⟨List.mem_of_getElem? (i := 57) (by decide +kernel), rfl⟩, rfl, by decide, by decide, by decide +kernel⟩
theorem mi_X12_givesBack : zMI yX12_givesBack cX12_givesBack 2 (none) 1 := ⟨⟨List.mem_of_getElem? (i := 1260) (by decide +kernel), rfl⟩, ⟨List.mem_of_getElem? (i := 57) (by decide +kernel), rfl⟩, rfl, by decide, by decide, by decide +kernel⟩
theorem mi_X12_setLength : zMI yX12_setLength cX12_setLength 6 (some .int) 3 := ⟨⟨List.mem_of_getElem? (i := 1248) (by decide +kernel), rfl⟩, ⟨List.mem_of_getElem? (i := 57) (by decide +kernel), rfl⟩, rfl, by decide, by decide, by decide +kernel⟩
theorem mi_X12_length : zMI yX12_length cX12_length 2 (some .int) 1 := ⟨⟨List.mem_of_getElem? (i := 1286) (by decide +kernel), rfl⟩, ⟨List.mem_of_getElem? (i := 57) (by decide +kernel), rfl⟩, rfl, by decide, by decide, by decide +kernel⟩
theorem mi_X12_spools : zMI yX12_spools cX12_spools 2 (some .int) 1 := ⟨⟨List.mem_of_getElem? (i := 1357) (by decide +kernel), rfl⟩, ⟨List.mem_of_getElem? (i := 57) (by decide +kernel), rfl⟩, rfl, by decide, by decide, by decide +kernel⟩
theorem mi_X12_spoolOf : zMI yX12_spoolOf cX12_spoolOf 3 (some .int) 2 := ⟨⟨List.mem_of_getElem? (i := 1382) (by decide +kernel), rfl⟩, ⟨List.mem_of_getElem? (i := 57) (by decide +kernel), rfl⟩, rfl, by decide, by decide, by decide +kernel⟩
theorem mi_X12_isField : zMI yX12_isField cX12_isField 3 (some .boolean) 2 := ⟨⟨List.mem_of_getElem? (i := 1387) (by decide +kernel), rfl⟩, ⟨List.mem_of_getElem? (i := 57) (by decide +kernel), rfl⟩, rfl, by decide, by decide, by decide +kernel⟩
theorem mi_X12_addHeat : zMI yX12_addHeat cX12_addHeat 4 (some .int) 3 := ⟨⟨List.mem_of_getElem? (i := 1391) (by decide +kernel), rfl⟩, ⟨List.mem_of_getElem? (i := 57) (by decide +kernel), rfl⟩, rfl, by decide, by decide, by decide +kernel⟩
theorem mi_X12_left : zMI yX12_left cX12_left 2 (some .int) 1 := ⟨⟨List.mem_of_getElem? (i := 1413) (by decide +kernel), rfl⟩, ⟨List.mem_of_getElem? (i := 57) (by decide +kernel), rfl⟩, rfl, by decide, by decide, by decide +kernel⟩
theorem mi_X12_papers : zMI yX12_papers cX12_papers 4 (some .boolean) 2 := ⟨⟨List.mem_of_getElem? (i := 1425) (by decide +kernel), rfl⟩, ⟨List.mem_of_getElem? (i := 57) (by decide +kernel), rfl⟩, rfl, by decide, by decide, by decide +kernel⟩
theorem mi_X12_losePaper : zMI yX12_losePaper cX12_losePaper 2 (some .boolean) 1 := ⟨⟨List.mem_of_getElem? (i := 1421) (by decide +kernel), rfl⟩, ⟨List.mem_of_getElem? (i := 57) (by decide +kernel), rfl⟩, rfl, by decide, by decide, by decide +kernel⟩
theorem mi_X12_test : zMI yX12_test cX12_test 2 (some .boolean) 1 := ⟨⟨List.mem_of_getElem? (i := 1429) (by decide +kernel), rfl⟩, ⟨List.mem_of_getElem? (i := 57) (by decide +kernel), rfl⟩, rfl, by decide, by decide, by decide +kernel⟩
theorem mi_X12_give : zMI yX12_give cX12_give 5 (some .int) 3 := ⟨⟨List.mem_of_getElem? (i := 1433) (by decide +kernel), rfl⟩, ⟨List.mem_of_getElem? (i := 57) (by decide +kernel), rfl⟩, rfl, by decide, by decide, by decide +kernel⟩
theorem mi_X12_heatOf : zMI yX12_heatOf cX12_heatOf 3 (some .int) 2 := ⟨⟨List.mem_of_getElem? (i := 1437) (by decide +kernel), rfl⟩, ⟨List.mem_of_getElem? (i := 57) (by decide +kernel), rfl⟩, rfl, by decide, by decide, by decide +kernel⟩
theorem mi_X12_best : zMI yX12_best cX12_best 6 (some .int) 2 := ⟨⟨List.mem_of_getElem? (i := 1445) (by decide +kernel), rfl⟩, ⟨List.mem_of_getElem? (i := 57) (by decide +kernel), rfl⟩, rfl, by decide, by decide, by decide +kernel⟩
theorem mi_X12_bestHeat : zMI yX12_bestHeat cX12_bestHeat 5 (some .int) 3 := ⟨⟨List.mem_of_getElem? (i := 1441) (by decide +kernel), rfl⟩, ⟨List.mem_of_getElem? (i := 57) (by decide +kernel), rfl⟩, rfl, by decide, by decide, by decide +kernel⟩
theorem mi_X12_addWelder : zMI yX12_addWelder cX12_addWelder 1 (some .int) 0 := ⟨⟨List.mem_of_getElem? (i := 1449) (by decide +kernel), rfl⟩, ⟨List.mem_of_getElem? (i := 57) (by decide +kernel), rfl⟩, rfl, by decide, by decide, by decide +kernel⟩
theorem mi_X12_ticket : zMI yX12_ticket cX12_ticket 5 (some .int) 3 := ⟨⟨List.mem_of_getElem? (i := 1467) (by decide +kernel), rfl⟩, ⟨List.mem_of_getElem? (i := 57) (by decide +kernel), rfl⟩, rfl, by decide, by decide, by decide +kernel⟩
theorem mi_X12_may : zMI yX12_may cX12_may 6 (some .boolean) 3 := ⟨⟨List.mem_of_getElem? (i := 1479) (by decide +kernel), rfl⟩, ⟨List.mem_of_getElem? (i := 57) (by decide +kernel), rfl⟩, rfl, by decide, by decide, by decide +kernel⟩
theorem mi_X12_mayWeld : zMI yX12_mayWeld cX12_mayWeld 4 (some .boolean) 3 := ⟨⟨List.mem_of_getElem? (i := 1475) (by decide +kernel), rfl⟩, ⟨List.mem_of_getElem? (i := 57) (by decide +kernel), rfl⟩, rfl, by decide, by decide, by decide +kernel⟩
theorem mi_X12_welds : zMI yX12_welds cX12_welds 4 (none) 3 := ⟨⟨List.mem_of_getElem? (i := 1487) (by decide +kernel), rfl⟩, ⟨List.mem_of_getElem? (i := 57) (by decide +kernel), rfl⟩, rfl, by decide, by decide, by decide +kernel⟩
theorem mi_X12_weld : zMI yX12_weld cX12_weld 4 (some .int) 3 := ⟨⟨List.mem_of_getElem? (i := 1483) (by decide +kernel), rfl⟩, ⟨List.mem_of_getElem? (i := 57) (by decide +kernel), rfl⟩, rfl, by decide, by decide, by decide +kernel⟩
theorem mi_X12_look : zMI yX12_look cX12_look 5 (some .char) 3 := ⟨⟨List.mem_of_getElem? (i := 1579) (by decide +kernel), rfl⟩, ⟨List.mem_of_getElem? (i := 57) (by decide +kernel), rfl⟩, rfl, by decide, by decide, by decide +kernel⟩
theorem mi_X12_repair : zMI yX12_repair cX12_repair 4 (some .int) 3 := ⟨⟨List.mem_of_getElem? (i := 1583) (by decide +kernel), rfl⟩, ⟨List.mem_of_getElem? (i := 57) (by decide +kernel), rfl⟩, rfl, by decide, by decide, by decide +kernel⟩
theorem mi_X12_cutOut : zMI yX12_cutOut cX12_cutOut 3 (some .int) 2 := ⟨⟨List.mem_of_getElem? (i := 1587) (by decide +kernel), rfl⟩, ⟨List.mem_of_getElem? (i := 57) (by decide +kernel), rfl⟩, rfl, by decide, by decide, by decide +kernel⟩
theorem mi_X12_joint : zMI yX12_joint cX12_joint 3 (some .char) 2 := ⟨⟨List.mem_of_getElem? (i := 1591) (by decide +kernel), rfl⟩, ⟨List.mem_of_getElem? (i := 57) (by decide +kernel), rfl⟩, rfl, by decide, by decide, by decide +kernel⟩
theorem mi_X12_welderOf : zMI yX12_welderOf cX12_welderOf 3 (some .int) 2 := ⟨⟨List.mem_of_getElem? (i := 1595) (by decide +kernel), rfl⟩, ⟨List.mem_of_getElem? (i := 57) (by decide +kernel), rfl⟩, rfl, by decide, by decide, by decide +kernel⟩
theorem mi_X12_toLook : zMI yX12_toLook cX12_toLook 2 (some .int) 1 := ⟨⟨List.mem_of_getElem? (i := 1599) (by decide +kernel), rfl⟩, ⟨List.mem_of_getElem? (i := 57) (by decide +kernel), rfl⟩, rfl, by decide, by decide, by decide +kernel⟩
theorem mi_X12_failed : zMI yX12_failed cX12_failed 2 (some .int) 1 := ⟨⟨List.mem_of_getElem? (i := 1613) (by decide +kernel), rfl⟩, ⟨List.mem_of_getElem? (i := 57) (by decide +kernel), rfl⟩, rfl, by decide, by decide, by decide +kernel⟩
theorem mi_X12_pass : zMI yX12_pass cX12_pass 2 (some .int) 1 := ⟨⟨List.mem_of_getElem? (i := 1617) (by decide +kernel), rfl⟩, ⟨List.mem_of_getElem? (i := 57) (by decide +kernel), rfl⟩, rfl, by decide, by decide, by decide +kernel⟩
theorem mi_X12_join : zMI yX12_join cX12_join 11 (some .boolean) 4 := ⟨⟨List.mem_of_getElem? (i := 1621) (by decide +kernel), rfl⟩, ⟨List.mem_of_getElem? (i := 57) (by decide +kernel), rfl⟩, rfl, by decide, by decide, by decide +kernel⟩
theorem mi_X12_blind : zMI yX12_blind cX12_blind 6 (some .boolean) 3 := ⟨⟨List.mem_of_getElem? (i := 1625) (by decide +kernel), rfl⟩, ⟨List.mem_of_getElem? (i := 57) (by decide +kernel), rfl⟩, rfl, by decide, by decide, by decide +kernel⟩
theorem mi_J6_valueOf_2dffe : zMI yJ6_valueOf_2dffe cJ6_valueOf_2dffe 1 (some (.object "java/lang/Integer")) 1 := ⟨⟨List.mem_of_getElem? (i := 1632) (by decide +kernel), rfl⟩, ⟨List.mem_of_getElem? (i := 87) (by decide +kernel), rfl⟩, rfl, by decide, by decide, by decide +kernel⟩
theorem mi_X12_addCircuit : zMI yX12_addCircuit cX12_addCircuit 2 (some .int) 1 := ⟨⟨List.mem_of_getElem? (i := 1629) (by decide +kernel), rfl⟩, ⟨List.mem_of_getElem? (i := 57) (by decide +kernel), rfl⟩, rfl, by decide, by decide, by decide +kernel⟩
theorem mi_J6_intValue_8abf5 : zMI yJ6_intValue_8abf5 cJ6_intValue_8abf5 1 (some .int) 0 := ⟨⟨List.mem_of_getElem? (i := 1670) (by decide +kernel), rfl⟩, ⟨List.mem_of_getElem? (i := 87) (by decide +kernel), rfl⟩, rfl, by decide, by decide, by decide +kernel⟩
theorem mi_X12_isOf : zMI yX12_isOf cX12_isOf 3 (some .boolean) 2 := ⟨⟨List.mem_of_getElem? (i := 1665) (by decide +kernel), rfl⟩, ⟨List.mem_of_getElem? (i := 57) (by decide +kernel), rfl⟩, rfl, by decide, by decide, by decide +kernel⟩
theorem mi_X12_openOf : zMI yX12_openOf cX12_openOf 7 (some .int) 1 := ⟨⟨List.mem_of_getElem? (i := 1661) (by decide +kernel), rfl⟩, ⟨List.mem_of_getElem? (i := 57) (by decide +kernel), rfl⟩, rfl, by decide, by decide, by decide +kernel⟩
theorem mi_X12_open : zMI yX12_open cX12_open 2 (some .int) 1 := ⟨⟨List.mem_of_getElem? (i := 1653) (by decide +kernel), rfl⟩, ⟨List.mem_of_getElem? (i := 57) (by decide +kernel), rfl⟩, rfl, by decide, by decide, by decide +kernel⟩
theorem mi_X12_can : zMI yX12_can cX12_can 4 (some .boolean) 1 := ⟨⟨List.mem_of_getElem? (i := 1678) (by decide +kernel), rfl⟩, ⟨List.mem_of_getElem? (i := 57) (by decide +kernel), rfl⟩, rfl, by decide, by decide, by decide +kernel⟩
theorem mi_X12_canTest : zMI yX12_canTest cX12_canTest 2 (some .boolean) 1 := ⟨⟨List.mem_of_getElem? (i := 1674) (by decide +kernel), rfl⟩, ⟨List.mem_of_getElem? (i := 57) (by decide +kernel), rfl⟩, rfl, by decide, by decide, by decide +kernel⟩
theorem mi_X12_testAll : zMI yX12_testAll cX12_testAll 4 (some .int) 1 := ⟨⟨List.mem_of_getElem? (i := 1683) (by decide +kernel), rfl⟩, ⟨List.mem_of_getElem? (i := 57) (by decide +kernel), rfl⟩, rfl, by decide, by decide, by decide +kernel⟩
theorem mi_X12_isTested : zMI yX12_isTested cX12_isTested 2 (some .boolean) 1 := ⟨⟨List.mem_of_getElem? (i := 1687) (by decide +kernel), rfl⟩, ⟨List.mem_of_getElem? (i := 57) (by decide +kernel), rfl⟩, rfl, by decide, by decide, by decide +kernel⟩
theorem mi_X12_lackOf : zMI yX12_lackOf cX12_lackOf 7 (some .char) 2 := ⟨⟨List.mem_of_getElem? (i := 1695) (by decide +kernel), rfl⟩, ⟨List.mem_of_getElem? (i := 57) (by decide +kernel), rfl⟩, rfl, by decide, by decide, by decide +kernel⟩
theorem mi_X12_lack : zMI yX12_lack cX12_lack 3 (some .char) 2 := ⟨⟨List.mem_of_getElem? (i := 1691) (by decide +kernel), rfl⟩, ⟨List.mem_of_getElem? (i := 57) (by decide +kernel), rfl⟩, rfl, by decide, by decide, by decide +kernel⟩
theorem mi_X12_many : zMI yX12_many cX12_many 5 (some .int) 1 := ⟨⟨List.mem_of_getElem? (i := 1709) (by decide +kernel), rfl⟩, ⟨List.mem_of_getElem? (i := 57) (by decide +kernel), rfl⟩, rfl, by decide, by decide, by decide +kernel⟩
theorem mi_X12_lacks : zMI yX12_lacks cX12_lacks 2 (some .int) 1 := ⟨⟨List.mem_of_getElem? (i := 1703) (by decide +kernel), rfl⟩, ⟨List.mem_of_getElem? (i := 57) (by decide +kernel), rfl⟩, rfl, by decide, by decide, by decide +kernel⟩
theorem mi_X12_undone : zMI yX12_undone cX12_undone 1 (some .int) 0 := ⟨⟨List.mem_of_getElem? (i := 1713) (by decide +kernel), rfl⟩, ⟨List.mem_of_getElem? (i := 57) (by decide +kernel), rfl⟩, rfl, by decide, by decide, by decide +kernel⟩
theorem mi_X12_allAhead : zMI yX12_allAhead cX12_allAhead 5 (some .int) 1 := ⟨⟨List.mem_of_getElem? (i := 1721) (by decide +kernel), rfl⟩, ⟨List.mem_of_getElem? (i := 57) (by decide +kernel), rfl⟩, rfl, by decide, by decide, by decide +kernel⟩
theorem mi_X12_ahead : zMI yX12_ahead cX12_ahead 4 (some .boolean) 2 := ⟨⟨List.mem_of_getElem? (i := 1717) (by decide +kernel), rfl⟩, ⟨List.mem_of_getElem? (i := 57) (by decide +kernel), rfl⟩, rfl, by decide, by decide, by decide +kernel⟩
theorem mi_X12_isDone : zMI yX12_isDone cX12_isDone 5 (some .boolean) 1 := ⟨⟨List.mem_of_getElem? (i := 1729) (by decide +kernel), rfl⟩, ⟨List.mem_of_getElem? (i := 57) (by decide +kernel), rfl⟩, rfl, by decide, by decide, by decide +kernel⟩
theorem mi_X12_isReady : zMI yX12_isReady cX12_isReady 4 (some .boolean) 1 := ⟨⟨List.mem_of_getElem? (i := 1725) (by decide +kernel), rfl⟩, ⟨List.mem_of_getElem? (i := 57) (by decide +kernel), rfl⟩, rfl, by decide, by decide, by decide +kernel⟩
theorem mi_X12_turnover : zMI yX12_turnover cX12_turnover 5 (some .int) 1 := ⟨⟨List.mem_of_getElem? (i := 1733) (by decide +kernel), rfl⟩, ⟨List.mem_of_getElem? (i := 57) (by decide +kernel), rfl⟩, rfl, by decide, by decide, by decide +kernel⟩
theorem mi_X12_checksum : zMI yX12_checksum cX12_checksum 7 (some .long) 0 := ⟨⟨List.mem_of_getElem? (i := 1737) (by decide +kernel), rfl⟩, ⟨List.mem_of_getElem? (i := 57) (by decide +kernel), rfl⟩, rfl, by decide, by decide, by decide +kernel⟩
theorem mi_X12_doneShare : zMI yX12_doneShare cX12_doneShare 4 (some .float) 0 := ⟨⟨List.mem_of_getElem? (i := 1749) (by decide +kernel), rfl⟩, ⟨List.mem_of_getElem? (i := 57) (by decide +kernel), rfl⟩, rfl, by decide, by decide, by decide +kernel⟩
theorem mi_X12_meanSpool : zMI yX12_meanSpool cX12_meanSpool 2 (some .double) 1 := ⟨⟨List.mem_of_getElem? (i := 1753) (by decide +kernel), rfl⟩, ⟨List.mem_of_getElem? (i := 57) (by decide +kernel), rfl⟩, rfl, by decide, by decide, by decide +kernel⟩
theorem mi_X12_isSound : zMI yX12_isSound cX12_isSound 1 (some .boolean) 0 := ⟨⟨List.mem_of_getElem? (i := 1759) (by decide +kernel), rfl⟩, ⟨List.mem_of_getElem? (i := 57) (by decide +kernel), rfl⟩, rfl, by decide, by decide, by decide +kernel⟩

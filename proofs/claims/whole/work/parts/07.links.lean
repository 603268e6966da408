/-! what the tables say, by places -/
theorem inT1 {w : Cond} (h : w ∈ tables_1_1) : w ∈ lw_tbl := List.mem_append_right _ (List.mem_append_left _ h)
theorem inT2 {w : Cond} (h : w ∈ tables_1_2) : w ∈ lw_tbl := List.mem_append_right _ (List.mem_append_right _ (List.mem_append_left _ h))
theorem inT3 {w : Cond} (h : w ∈ tables_1_3) : w ∈ lw_tbl := List.mem_append_right _ (List.mem_append_right _ (List.mem_append_right _ (List.mem_append_left _ h)))
theorem inT4 {w : Cond} (h : w ∈ tables_1_4) : w ∈ lw_tbl := List.mem_append_right _ (List.mem_append_right _ (List.mem_append_right _ (List.mem_append_right _ (List.mem_append_left _ h))))
theorem inT5 {w : Cond} (h : w ∈ tables_1_5) : w ∈ lw_tbl := List.mem_append_right _ (List.mem_append_right _ (List.mem_append_right _ (List.mem_append_right _ (List.mem_append_right _ (List.mem_append_left _ h)))))
theorem inT6 {w : Cond} (h : w ∈ tables_1_6) : w ∈ lw_tbl := List.mem_append_right _ (List.mem_append_right _ (List.mem_append_right _ (List.mem_append_right _ (List.mem_append_right _ (List.mem_append_right _ (List.mem_append_left _ h))))))
theorem inT7 {w : Cond} (h : w ∈ tables_1_7) : w ∈ lw_tbl := List.mem_append_right _ (List.mem_append_right _ (List.mem_append_right _ (List.mem_append_right _ (List.mem_append_right _ (List.mem_append_right _ (List.mem_append_right _ (List.mem_append_left _ h)))))))
theorem inT8 {w : Cond} (h : w ∈ tables_1_8) : w ∈ lw_tbl := List.mem_append_right _ (List.mem_append_right _ (List.mem_append_right _ (List.mem_append_right _ (List.mem_append_right _ (List.mem_append_right _ (List.mem_append_right _ (List.mem_append_right _ h)))))))
theorem inP {w : Cond} (h : w ∈ k2_sels lw_privs) : w ∈ lw_tbl := List.mem_append_left _ h
theorem ok0 : ClsOk 0 RX0 TX0 6 tyX0 := ⟨rfl, by decide +kernel, by decide, by decide +kernel, tyX0_ok, nmX0⟩
theorem ok1 : ClsOk 1 RX1 TX1 1 tyX1 := ⟨rfl, by decide +kernel, by decide, by decide +kernel, tyX1_ok, nmX1⟩
theorem ok2 : ClsOk 2 RX2 TX2 3 tyX2 := ⟨rfl, by decide +kernel, by decide, by decide +kernel, tyX2_ok, nmX2⟩
theorem ok3 : ClsOk 3 RX3 TX3 15 tyX3 := ⟨rfl, by decide +kernel, by decide, by decide +kernel, tyX3_ok, nmX3⟩
theorem ok4 : ClsOk 4 RX4 TX4 7 tyX4 := ⟨rfl, by decide +kernel, by decide, by decide +kernel, tyX4_ok, nmX4⟩
theorem ok5 : ClsOk 5 RX5 TX5 3 tyX5 := ⟨rfl, by decide +kernel, by decide, by decide +kernel, tyX5_ok, nmX5⟩
theorem ok6 : ClsOk 6 RX6 TX6 2 tyX6 := ⟨rfl, by decide +kernel, by decide, by decide +kernel, tyX6_ok, nmX6⟩
theorem ok7 : ClsOk 7 RX7 TX7 6 tyX7 := ⟨rfl, by decide +kernel, by decide, by decide +kernel, tyX7_ok, nmX7⟩
theorem ok8 : ClsOk 8 RX8 TX8 7 tyX8 := ⟨rfl, by decide +kernel, by decide, by decide +kernel, tyX8_ok, nmX8⟩
theorem ok9 : ClsOk 9 RX9 TX9 8 tyX9 := ⟨rfl, by decide +kernel, by decide, by decide +kernel, tyX9_ok, nmX9⟩
theorem ok10 : ClsOk 10 RX10 TX10 4 tyX10 := ⟨rfl, by decide +kernel, by decide, by decide +kernel, tyX10_ok, nmX10⟩
theorem ok11 : ClsOk 11 RX11 TX11 16 tyX11 := ⟨rfl, by decide +kernel, by decide, by decide +kernel, tyX11_ok, nmX11⟩
theorem ok12 : ClsOk 12 RX12 TX12 32 tyX12 := ⟨rfl, by decide +kernel, by decide, by decide +kernel, tyX12_ok, nmX12⟩
theorem ow_0_5 {o : Int} (h : isK o 0) : isK (o + 1) 10009 := ow_of (f := 1) h (by decide) (by decide +kernel)
theorem ow_1_0 {o : Int} (h : isK o 1) : isK (o + 1) 10512 := ow_of (f := 1) h (by decide) (by decide +kernel)
theorem ow_2_0 {o : Int} (h : isK o 2) : isK (o + 1) 60010 := ow_of (f := 1) h (by decide) (by decide +kernel)
theorem ow_3_8 {o : Int} (h : isK o 3) : isK (o + 1) 10009 := ow_of (f := 1) h (by decide) (by decide +kernel)
theorem ow_3_9 {o : Int} (h : isK o 3) : isK (o + 2) 10009 := ow_of (f := 2) h (by decide) (by decide +kernel)
theorem ow_3_10 {o : Int} (h : isK o 3) : isK (o + 3) 10009 := ow_of (f := 3) h (by decide) (by decide +kernel)
theorem ow_3_11 {o : Int} (h : isK o 3) : isK (o + 4) 10009 := ow_of (f := 4) h (by decide) (by decide +kernel)
theorem ow_3_12 {o : Int} (h : isK o 3) : isK (o + 5) 10009 := ow_of (f := 5) h (by decide) (by decide +kernel)
theorem ow_3_13 {o : Int} (h : isK o 3) : isK (o + 6) 10008 := ow_of (f := 6) h (by decide) (by decide +kernel)
theorem ow_3_14 {o : Int} (h : isK o 3) : isK (o + 7) 4 := ow_of (f := 7) h (by decide) (by decide +kernel)
theorem ow_4_0 {o : Int} (h : isK o 4) : isK (o + 1) 10900 := ow_of (f := 1) h (by decide) (by decide +kernel)
theorem ow_4_2 {o : Int} (h : isK o 4) : isK (o + 2) 10002 := ow_of (f := 2) h (by decide) (by decide +kernel)
theorem ow_4_3 {o : Int} (h : isK o 4) : isK (o + 3) 10002 := ow_of (f := 3) h (by decide) (by decide +kernel)
theorem ow_4_4 {o : Int} (h : isK o 4) : isK (o + 4) 10006 := ow_of (f := 4) h (by decide) (by decide +kernel)
theorem ow_4_5 {o : Int} (h : isK o 4) : isK (o + 5) 10064 := ow_of (f := 5) h (by decide) (by decide +kernel)
theorem ow_6_0 {o : Int} (h : isK o 6) : isK (o + 1) 10009 := ow_of (f := 1) h (by decide) (by decide +kernel)
theorem ow_6_1 {o : Int} (h : isK o 6) : isK (o + 2) 10007 := ow_of (f := 2) h (by decide) (by decide +kernel)
theorem ow_7_0 {o : Int} (h : isK o 7) : isK (o + 1) 9 := ow_of (f := 1) h (by decide) (by decide +kernel)
theorem ow_8_0 {o : Int} (h : isK o 8) : isK (o + 1) 30063 := ow_of (f := 1) h (by decide) (by decide +kernel)
theorem ow_8_1 {o : Int} (h : isK o 8) : isK (o + 2) 10063 := ow_of (f := 2) h (by decide) (by decide +kernel)
theorem ow_8_2 {o : Int} (h : isK o 8) : isK (o + 3) 10009 := ow_of (f := 3) h (by decide) (by decide +kernel)
theorem ow_8_3 {o : Int} (h : isK o 8) : isK (o + 4) 10007 := ow_of (f := 4) h (by decide) (by decide +kernel)
theorem ow_9_5 {o : Int} (h : isK o 9) : isK (o + 1) 10901 := ow_of (f := 1) h (by decide) (by decide +kernel)
theorem ow_10_3 {o : Int} (h : isK o 10) : isK (o + 1) 40040 := ow_of (f := 1) h (by decide) (by decide +kernel)
theorem ow_11_0 {o : Int} (h : isK o 11) : isK (o + 1) 20900 := ow_of (f := 1) h (by decide) (by decide +kernel)
theorem ow_11_2 {o : Int} (h : isK o 11) : isK (o + 2) 7 := ow_of (f := 2) h (by decide) (by decide +kernel)
theorem ow_11_5 {o : Int} (h : isK o 11) : isK (o + 5) 50004 := ow_of (f := 5) h (by decide) (by decide +kernel)
theorem ow_11_6 {o : Int} (h : isK o 11) : isK (o + 58) 0 := ow_of (f := 58) h (by decide) (by decide +kernel)
theorem ow_11_7 {o : Int} (h : isK o 11) : isK (o + 60) 0 := ow_of (f := 60) h (by decide) (by decide +kernel)
theorem ow_11_8 {o : Int} (h : isK o 11) : isK (o + 62) 2 := ow_of (f := 62) h (by decide) (by decide +kernel)
theorem ow_11_9 {o : Int} (h : isK o 11) : isK (o + 84) 60002 := ow_of (f := 84) h (by decide) (by decide +kernel)
theorem ow_11_11 {o : Int} (h : isK o 11) : isK (o + 89) 70004 := ow_of (f := 89) h (by decide) (by decide +kernel)
theorem ow_11_12 {o : Int} (h : isK o 11) : isK (o + 98) 6 := ow_of (f := 98) h (by decide) (by decide +kernel)
theorem ow_11_13 {o : Int} (h : isK o 11) : isK (o + 101) 8 := ow_of (f := 101) h (by decide) (by decide +kernel)
theorem ow_11_14 {o : Int} (h : isK o 11) : isK (o + 106) 1 := ow_of (f := 106) h (by decide) (by decide +kernel)
theorem ow_11_15 {o : Int} (h : isK o 11) : isK (o + 108) 5 := ow_of (f := 108) h (by decide) (by decide +kernel)
theorem ow_12_1 {o : Int} (h : isK o 12) : isK (o + 1) 13300 := ow_of (f := 1) h (by decide) (by decide +kernel)
theorem ow_12_2 {o : Int} (h : isK o 12) : isK (o + 2) 30002 := ow_of (f := 2) h (by decide) (by decide +kernel)
theorem ow_12_3 {o : Int} (h : isK o 12) : isK (o + 3) 10900 := ow_of (f := 3) h (by decide) (by decide +kernel)
theorem ow_12_4 {o : Int} (h : isK o 12) : isK (o + 4) 11100 := ow_of (f := 4) h (by decide) (by decide +kernel)
theorem ow_12_16 {o : Int} (h : isK o 12) : isK (o + 5) 10900 := ow_of (f := 5) h (by decide) (by decide +kernel)
theorem ow_12_17 {o : Int} (h : isK o 12) : isK (o + 6) 10006 := ow_of (f := 6) h (by decide) (by decide +kernel)
theorem ow_12_18 {o : Int} (h : isK o 12) : isK (o + 7) 10013 := ow_of (f := 7) h (by decide) (by decide +kernel)
theorem ow_12_21 {o : Int} (h : isK o 12) : isK (o + 8) 10007 := ow_of (f := 8) h (by decide) (by decide +kernel)
theorem ow_12_22 {o : Int} (h : isK o 12) : isK (o + 9) 10006 := ow_of (f := 9) h (by decide) (by decide +kernel)
theorem ow_12_23 {o : Int} (h : isK o 12) : isK (o + 10) 10007 := ow_of (f := 10) h (by decide) (by decide +kernel)
theorem ow_12_25 {o : Int} (h : isK o 12) : isK (o + 11) 10007 := ow_of (f := 11) h (by decide) (by decide +kernel)
theorem ow_12_26 {o : Int} (h : isK o 12) : isK (o + 12) 33584 := ow_of (f := 12) h (by decide) (by decide +kernel)
theorem ow_12_27 {o : Int} (h : isK o 12) : isK (o + 13) 33584 := ow_of (f := 13) h (by decide) (by decide +kernel)
theorem ow_12_28 {o : Int} (h : isK o 12) : isK (o + 14) 10056 := ow_of (f := 14) h (by decide) (by decide +kernel)
theorem ow_12_29 {o : Int} (h : isK o 12) : isK (o + 15) 10004 := ow_of (f := 15) h (by decide) (by decide +kernel)
theorem ow_12_30 {o : Int} (h : isK o 12) : isK (o + 16) 10004 := ow_of (f := 16) h (by decide) (by decide +kernel)
theorem ow_12_31 {o : Int} (h : isK o 12) : isK (o + 17) 40160 := ow_of (f := 17) h (by decide) (by decide +kernel)
theorem el_50004 {o i : Int} (h : isK o 50004) (hi : 0 ≤ i ∧ i < 4) : isK (o + 1 + 13 * i) 3 := el_of (st := 13) (n := 4) h (by decide) hi (by decide +kernel)
theorem el_60010 {o i : Int} (h : isK o 60010) (hi : 0 ≤ i ∧ i < 10) : isK (o + 1 + 2 * i) 0 := el_of (st := 2) (n := 10) h (by decide) hi (by decide +kernel)
theorem el_60002 {o i : Int} (h : isK o 60002) (hi : 0 ≤ i ∧ i < 2) : isK (o + 1 + 2 * i) 0 := el_of (st := 2) (n := 2) h (by decide) hi (by decide +kernel)
theorem el_70004 {o i : Int} (h : isK o 70004) (hi : 0 ≤ i ∧ i < 4) : isK (o + 1 + 2 * i) 10 := el_of (st := 2) (n := 4) h (by decide) hi (by decide +kernel)
theorem kn_copy : Cond.native arraycopyName ∈ gT := gT_in (inT3 (List.mem_of_getElem? (i := 223) rfl)) rfl
theorem ks_copy : Cond.static arraycopyName ∈ gT := gT_in (inT3 (List.mem_of_getElem? (i := 222) rfl)) rfl
theorem ki_copy : Cond.initialized "java/lang/System" ∈ gT := gT_in (inT1 (List.mem_of_getElem? (i := 21) rfl)) rfl
theorem kc_X0_beginIn : Cond.code yX0_beginIn cX0_beginIn 2 (none) ∈ gT := gT_in (inT3 (List.mem_of_getElem? (i := 220) rfl)) rfl
theorem kc_X0_takeOver : Cond.code yX0_takeOver cX0_takeOver 2 (none) ∈ gT := gT_in (inT4 (List.mem_of_getElem? (i := 93) rfl)) rfl
theorem kc_X0_depthOf : Cond.code yX0_depthOf cX0_depthOf 2 (some .int) ∈ gT := gT_in (inT4 (List.mem_of_getElem? (i := 81) rfl)) rfl
theorem kc_X0_allDepths : Cond.code yX0_allDepths cX0_allDepths 3 (some .int) ∈ gT := gT_in (inT4 (List.mem_of_getElem? (i := 177) rfl)) rfl
theorem kc_X0_isOpen : Cond.code yX0_isOpen cX0_isOpen 2 (some .boolean) ∈ gT := gT_in (inT4 (List.mem_of_getElem? (i := 3) rfl)) rfl
theorem kc_X0_openLanes : Cond.code yX0_openLanes cX0_openLanes 3 (some .int) ∈ gT := gT_in (inT4 (List.mem_of_getElem? (i := 200) rfl)) rfl
theorem kc_X0_fillingsOf : Cond.code yX0_fillingsOf cX0_fillingsOf 3 (some .int) ∈ gT := gT_in (inT4 (List.mem_of_getElem? (i := 77) rfl)) rfl
theorem kc_X0_whyNoGoing : Cond.code yX0_whyNoGoing cX0_whyNoGoing 2 (some .int) ∈ gT := gT_in (inT4 (List.mem_of_getElem? (i := 55) rfl)) rfl
theorem kc_X0_tryDeed : Cond.code yX0_tryDeed cX0_tryDeed 5 (some .int) ∈ gT := gT_in (inT4 (List.mem_of_getElem? (i := 97) rfl)) rfl
theorem kc_X0_goBy : Cond.code yX0_goBy cX0_goBy 3 (none) ∈ gT := gT_in (inT4 (List.mem_of_getElem? (i := 104) rfl)) rfl
theorem kc_X0_tryDepth : Cond.code yX0_tryDepth cX0_tryDepth 3 (some .int) ∈ gT := gT_in (inT4 (List.mem_of_getElem? (i := 109) rfl)) rfl
theorem kc_X0_tryTurning : Cond.code yX0_tryTurning cX0_tryTurning 2 (some .int) ∈ gT := gT_in (inT4 (List.mem_of_getElem? (i := 113) rfl)) rfl
theorem kc_X1_firstWinning : Cond.code yX1_firstWinning cX1_firstWinning 5 (some .int) ∈ gT := gT_in (inT5 (List.mem_of_getElem? (i := 151) rfl)) rfl
theorem kc_X1_wonBehind : Cond.code yX1_wonBehind cX1_wonBehind 6 (some .int) ∈ gT := gT_in (inT5 (List.mem_of_getElem? (i := 156) rfl)) rfl
theorem kc_X1_leadsToLoss : Cond.code yX1_leadsToLoss cX1_leadsToLoss 8 (some .boolean) ∈ gT := gT_in (inT5 (List.mem_of_getElem? (i := 160) rfl)) rfl
theorem kc_X2_kept : Cond.code yX2_kept cX2_kept 1 (some .int) ∈ gT := gT_in (inT4 (List.mem_of_getElem? (i := 154) rfl)) rfl
theorem kc_X2_forgetAll : Cond.code yX2_forgetAll cX2_forgetAll 1 (none) ∈ gT := gT_in (inT3 (List.mem_of_getElem? (i := 227) rfl)) rfl
theorem kc_X2_keep : Cond.code yX2_keep cX2_keep 2 (none) ∈ gT := gT_in (inT4 (List.mem_of_getElem? (i := 121) rfl)) rfl
theorem kc_X2_bringBack : Cond.code yX2_bringBack cX2_bringBack 4 (none) ∈ gT := gT_in (inT4 (List.mem_of_getElem? (i := 158) rfl)) rfl
theorem kc_X3_makeEmpty : Cond.code yX3_makeEmpty cX3_makeEmpty 1 (none) ∈ gT := gT_in (inT2 (List.mem_of_getElem? (i := 198) rfl)) rfl
theorem kc_X3_hasPlace : Cond.code yX3_hasPlace cX3_hasPlace 2 (some .boolean) ∈ gT := gT_in (inT4 (List.mem_of_getElem? (i := 212) rfl)) rfl
theorem kc_X3_hasLane : Cond.code yX3_hasLane cX3_hasLane 2 (some .boolean) ∈ gT := gT_in (inT3 (List.mem_of_getElem? (i := 239) rfl)) rfl
theorem kc_X3_otherEnd : Cond.code yX3_otherEnd cX3_otherEnd 3 (some .int) ∈ gT := gT_in (inT4 (List.mem_of_getElem? (i := 59) rfl)) rfl
theorem kc_X3_mayGo : Cond.code yX3_mayGo cX3_mayGo 4 (some .boolean) ∈ gT := gT_in (inT4 (List.mem_of_getElem? (i := 8) rfl)) rfl
theorem kc_X3_wornFrom : Cond.code yX3_wornFrom cX3_wornFrom 4 (some .int) ∈ gT := gT_in (inT4 (List.mem_of_getElem? (i := 67) rfl)) rfl
theorem kc_X3_comingFrom : Cond.code yX3_comingFrom cX3_comingFrom 8 (some .int) ∈ gT := gT_in (inT4 (List.mem_of_getElem? (i := 204) rfl)) rfl
theorem kc_X3_backBehindSeason : Cond.code yX3_backBehindSeason cX3_backBehindSeason 5 (some .int) ∈ gT := gT_in (inT4 (List.mem_of_getElem? (i := 117) rfl)) rfl
theorem kc_X3_backInTheEnd : Cond.code yX3_backInTheEnd cX3_backInTheEnd 4 (some .int) ∈ gT := gT_in (inT5 (List.mem_of_getElem? (i := 98) rfl)) rfl
theorem kc_X4_makeEmpty : Cond.code yX4_makeEmpty cX4_makeEmpty 1 (none) ∈ gT := gT_in (inT2 (List.mem_of_getElem? (i := 205) rfl)) rfl
theorem kc_X4_stepsNow : Cond.code yX4_stepsNow cX4_stepsNow 1 (some .int) ∈ gT := gT_in (inT3 (List.mem_of_getElem? (i := 164) rfl)) rfl
theorem kc_X4_addStep : Cond.code yX4_addStep cX4_addStep 3 (none) ∈ gT := gT_in (inT3 (List.mem_of_getElem? (i := 184) rfl)) rfl
theorem kc_X4_enact : Cond.code yX4_enact cX4_enact 3 (none) ∈ gT := gT_in (inT3 (List.mem_of_getElem? (i := 208) rfl)) rfl
theorem kc_X4_hasLaw : Cond.code yX4_hasLaw cX4_hasLaw 2 (some .boolean) ∈ gT := gT_in (inT4 (List.mem_of_getElem? (i := 13) rfl)) rfl
theorem kc_X4_look : Cond.code yX4_look cX4_look 7 (none) ∈ gT := gT_in (inT4 (List.mem_of_getElem? (i := 23) rfl)) rfl
theorem kc_X4_tell : Cond.code yX4_tell cX4_tell 9 (some .int) ∈ gT := gT_in (inT4 (List.mem_of_getElem? (i := 27) rfl)) rfl
theorem kc_X4_reckon : Cond.code yX4_reckon cX4_reckon 5 (some .int) ∈ gT := gT_in (inT4 (List.mem_of_getElem? (i := 40) rfl)) rfl
theorem kc_X4_compare : Cond.code yX4_compare cX4_compare 3 (some .int) ∈ gT := gT_in (inT4 (List.mem_of_getElem? (i := 47) rfl)) rfl
theorem kc_X4_push : Cond.code yX4_push cX4_push 2 (none) ∈ gT := gT_in (inT4 (List.mem_of_getElem? (i := 33) rfl)) rfl
theorem kc_X4_pop : Cond.code yX4_pop cX4_pop 1 (some .int) ∈ gT := gT_in (inT4 (List.mem_of_getElem? (i := 37) rfl)) rfl
theorem kc_X5_aboveAt : Cond.code yX5_aboveAt cX5_aboveAt 2 (some .int) ∈ gT := gT_in (inT5 (List.mem_of_getElem? (i := 193) rfl)) rfl
theorem kc_X5_belowAll : Cond.code yX5_belowAll cX5_belowAll 1 (some .int) ∈ gT := gT_in (inT5 (List.mem_of_getElem? (i := 197) rfl)) rfl
theorem kc_X5_weigh : Cond.code yX5_weigh cX5_weigh 9 (none) ∈ gT := gT_in (inT5 (List.mem_of_getElem? (i := 173) rfl)) rfl
theorem kc_X5_putWhole : Cond.code yX5_putWhole cX5_putWhole 2 (none) ∈ gT := gT_in (inT5 (List.mem_of_getElem? (i := 179) rfl)) rfl
theorem kc_X5_raise : Cond.code yX5_raise cX5_raise 3 (none) ∈ gT := gT_in (inT5 (List.mem_of_getElem? (i := 188) rfl)) rfl
theorem kc_X5_throughTo : Cond.code yX5_throughTo cX5_throughTo 4 (some .int) ∈ gT := gT_in (inT5 (List.mem_of_getElem? (i := 183) rfl)) rfl
theorem kc_X5_firstLikeliest : Cond.code yX5_firstLikeliest cX5_firstLikeliest 7 (some .int) ∈ gT := gT_in (inT5 (List.mem_of_getElem? (i := 208) rfl)) rfl
theorem kc_X5_commonOf : Cond.code yX5_commonOf cX5_commonOf 6 (some .int) ∈ gT := gT_in (inT5 (List.mem_of_getElem? (i := 200) rfl)) rfl
theorem kc_X6_fillingsIn : Cond.code yX6_fillingsIn cX6_fillingsIn 1 (some .int) ∈ gT := gT_in (inT5 (List.mem_of_getElem? (i := 60) rfl)) rfl
theorem kc_X6_lanesIn : Cond.code yX6_lanesIn cX6_lanesIn 1 (some .int) ∈ gT := gT_in (inT5 (List.mem_of_getElem? (i := 63) rfl)) rfl
theorem kc_X6_measureOpen : Cond.code yX6_measureOpen cX6_measureOpen 4 (none) ∈ gT := gT_in (inT4 (List.mem_of_getElem? (i := 216) rfl)) rfl
theorem kc_X6_measureFillings : Cond.code yX6_measureFillings cX6_measureFillings 3 (none) ∈ gT := gT_in (inT5 (List.mem_of_getElem? (i := 51) rfl)) rfl
theorem kc_X6_weighFillings : Cond.code yX6_weighFillings cX6_weighFillings 4 (none) ∈ gT := gT_in (inT5 (List.mem_of_getElem? (i := 55) rfl)) rfl
theorem kc_X6_measure : Cond.code yX6_measure cX6_measure 5 (none) ∈ gT := gT_in (inT4 (List.mem_of_getElem? (i := 221) rfl)) rfl
theorem kc_X6_relax : Cond.code yX6_relax cX6_relax 6 (none) ∈ gT := gT_in (inT4 (List.mem_of_getElem? (i := 230) rfl)) rfl
theorem kc_X6_weightOf : Cond.code yX6_weightOf cX6_weightOf 2 (some .int) ∈ gT := gT_in (inT4 (List.mem_of_getElem? (i := 226) rfl)) rfl
theorem kc_X6_farFrom : Cond.code yX6_farFrom cX6_farFrom 2 (some .int) ∈ gT := gT_in (inT4 (List.mem_of_getElem? (i := 234) rfl)) rfl
theorem kc_X6_laneOnWay : Cond.code yX6_laneOnWay cX6_laneOnWay 7 (some .int) ∈ gT := gT_in (inT5 (List.mem_of_getElem? (i := 33) rfl)) rfl
theorem kc_X6_firstOnward : Cond.code yX6_firstOnward cX6_firstOnward 7 (some .int) ∈ gT := gT_in (inT5 (List.mem_of_getElem? (i := 37) rfl)) rfl
theorem kc_X6_weightOfAll : Cond.code yX6_weightOfAll cX6_weightOfAll 6 (some .int) ∈ gT := gT_in (inT5 (List.mem_of_getElem? (i := 80) rfl)) rfl
theorem kc_X6_leastJoining : Cond.code yX6_leastJoining cX6_leastJoining 8 (some .int) ∈ gT := gT_in (inT5 (List.mem_of_getElem? (i := 76) rfl)) rfl
theorem kc_X7_readInto : Cond.code yX7_readInto cX7_readInto 6 (some .int) ∈ gT := gT_in (inT2 (List.mem_of_getElem? (i := 194) rfl)) rfl
theorem kc_X7_placeOfFault : Cond.code yX7_placeOfFault cX7_placeOfFault 1 (some .int) ∈ gT := gT_in (inT3 (List.mem_of_getElem? (i := 216) rfl)) rfl
theorem kc_X7_refuse : Cond.code yX7_refuse cX7_refuse 2 (some .boolean) ∈ gT := gT_in (inT3 (List.mem_of_getElem? (i := 123) rfl)) rfl
theorem kc_X7_take : Cond.code yX7_take cX7_take 2 (some .boolean) ∈ gT := gT_in (inT3 (List.mem_of_getElem? (i := 119) rfl)) rfl
theorem kc_X7_takeNumber : Cond.code yX7_takeNumber cX7_takeNumber 4 (some .boolean) ∈ gT := gT_in (inT3 (List.mem_of_getElem? (i := 128) rfl)) rfl
theorem kc_X7_takeLineEnd : Cond.code yX7_takeLineEnd cX7_takeLineEnd 1 (some .boolean) ∈ gT := gT_in (inT3 (List.mem_of_getElem? (i := 132) rfl)) rfl
theorem kc_X7_readLandLine : Cond.code yX7_readLandLine cX7_readLandLine 1 (some .boolean) ∈ gT := gT_in (inT3 (List.mem_of_getElem? (i := 115) rfl)) rfl
theorem kc_X7_readLine : Cond.code yX7_readLine cX7_readLine 1 (some .boolean) ∈ gT := gT_in (inT3 (List.mem_of_getElem? (i := 136) rfl)) rfl
theorem kc_X7_readLane : Cond.code yX7_readLane cX7_readLane 3 (some .boolean) ∈ gT := gT_in (inT3 (List.mem_of_getElem? (i := 140) rfl)) rfl
theorem kc_X7_readFlag : Cond.code yX7_readFlag cX7_readFlag 4 (some .boolean) ∈ gT := gT_in (inT3 (List.mem_of_getElem? (i := 144) rfl)) rfl
theorem kc_X7_readCart : Cond.code yX7_readCart cX7_readCart 1 (some .boolean) ∈ gT := gT_in (inT3 (List.mem_of_getElem? (i := 148) rfl)) rfl
theorem kc_X7_readPerson : Cond.code yX7_readPerson cX7_readPerson 3 (some .boolean) ∈ gT := gT_in (inT3 (List.mem_of_getElem? (i := 152) rfl)) rfl
theorem kc_X7_readRain : Cond.code yX7_readRain cX7_readRain 1 (some .boolean) ∈ gT := gT_in (inT3 (List.mem_of_getElem? (i := 156) rfl)) rfl
theorem kc_X7_readWears : Cond.code yX7_readWears cX7_readWears 2 (some .boolean) ∈ gT := gT_in (inT3 (List.mem_of_getElem? (i := 160) rfl)) rfl
theorem kc_X7_readMay : Cond.code yX7_readMay cX7_readMay 2 (some .boolean) ∈ gT := gT_in (inT3 (List.mem_of_getElem? (i := 212) rfl)) rfl
theorem kc_X7_takeOpening : Cond.code yX7_takeOpening cX7_takeOpening 2 (some .boolean) ∈ gT := gT_in (inT3 (List.mem_of_getElem? (i := 188) rfl)) rfl
theorem kc_X7_readTruth : Cond.code yX7_readTruth cX7_readTruth 4 (some .boolean) ∈ gT := gT_in (inT3 (List.mem_of_getElem? (i := 196) rfl)) rfl
theorem kc_X7_readBoth : Cond.code yX7_readBoth cX7_readBoth 4 (some .boolean) ∈ gT := gT_in (inT3 (List.mem_of_getElem? (i := 200) rfl)) rfl
theorem kc_X7_readUnit : Cond.code yX7_readUnit cX7_readUnit 4 (some .boolean) ∈ gT := gT_in (inT3 (List.mem_of_getElem? (i := 204) rfl)) rfl
theorem kc_X7_readSum : Cond.code yX7_readSum cX7_readSum 5 (some .boolean) ∈ gT := gT_in (inT3 (List.mem_of_getElem? (i := 168) rfl)) rfl
theorem kc_X7_readTerm : Cond.code yX7_readTerm cX7_readTerm 4 (some .boolean) ∈ gT := gT_in (inT3 (List.mem_of_getElem? (i := 172) rfl)) rfl
theorem kc_X7_readAtom : Cond.code yX7_readAtom cX7_readAtom 2 (some .boolean) ∈ gT := gT_in (inT3 (List.mem_of_getElem? (i := 176) rfl)) rfl
theorem kc_X7_addAtom : Cond.code yX7_addAtom cX7_addAtom 3 (some .boolean) ∈ gT := gT_in (inT3 (List.mem_of_getElem? (i := 180) rfl)) rfl
theorem kc_X7_readIf : Cond.code yX7_readIf cX7_readIf 3 (some .boolean) ∈ gT := gT_in (inT3 (List.mem_of_getElem? (i := 192) rfl)) rfl
theorem kc_X8_countRows : Cond.code yX8_countRows cX8_countRows 7 (some .int) ∈ gT := gT_in (inT5 (List.mem_of_getElem? (i := 3) rfl)) rfl
theorem kc_X8_rowsFrom : Cond.code yX8_rowsFrom cX8_rowsFrom 8 (some .int) ∈ gT := gT_in (inT5 (List.mem_of_getElem? (i := 10) rfl)) rfl
theorem kc_X8_pairsFrom : Cond.code yX8_pairsFrom cX8_pairsFrom 5 (some .int) ∈ gT := gT_in (inT5 (List.mem_of_getElem? (i := 15) rfl)) rfl
theorem kc_X8_isOpenAt : Cond.code yX8_isOpenAt cX8_isOpenAt 4 (some .boolean) ∈ gT := gT_in (inT5 (List.mem_of_getElem? (i := 21) rfl)) rfl
theorem kc_X8_depthBehind : Cond.code yX8_depthBehind cX8_depthBehind 4 (some .int) ∈ gT := gT_in (inT5 (List.mem_of_getElem? (i := 25) rfl)) rfl
theorem kc_X9_begin : Cond.code yX9_begin cX9_begin 6 (none) ∈ gT := gT_in (inT2 (List.mem_of_getElem? (i := 210) rfl)) rfl
theorem kc_X9_advance : Cond.code yX9_advance cX9_advance 1 (none) ∈ gT := gT_in (inT3 (List.mem_of_getElem? (i := 111) rfl)) rfl
theorem kc_X9_keep : Cond.code yX9_keep cX9_keep 4 (none) ∈ gT := gT_in (inT3 (List.mem_of_getElem? (i := 44) rfl)) rfl
theorem kc_X9_takeWord : Cond.code yX9_takeWord cX9_takeWord 7 (some .int) ∈ gT := gT_in (inT2 (List.mem_of_getElem? (i := 224) rfl)) rfl
theorem kc_X9_isSame : Cond.code yX9_isSame cX9_isSame 5 (some .boolean) ∈ gT := gT_in (inT3 (List.mem_of_getElem? (i := 37) rfl)) rfl
theorem kc_X9_takeDigits : Cond.code yX9_takeDigits cX9_takeDigits 5 (some .int) ∈ gT := gT_in (inT3 (List.mem_of_getElem? (i := 51) rfl)) rfl
theorem kc_X9_byteAt : Cond.code yX9_byteAt cX9_byteAt 2 (some .int) ∈ gT := gT_in (inT2 (List.mem_of_getElem? (i := 217) rfl)) rfl
theorem kc_X9_isLetter : Cond.code yX9_isLetter cX9_isLetter 1 (some .boolean) ∈ gT := gT_in (inT2 (List.mem_of_getElem? (i := 220) rfl)) rfl
theorem kc_X9_isDigit : Cond.code yX9_isDigit cX9_isDigit 1 (some .boolean) ∈ gT := gT_in (inT3 (List.mem_of_getElem? (i := 47) rfl)) rfl
theorem kc_X10_makeNew : Cond.code yX10_makeNew cX10_makeNew 3 (none) ∈ gT := gT_in (inT5 (List.mem_of_getElem? (i := 220) rfl)) rfl
theorem kc_X10_numberAt : Cond.code yX10_numberAt cX10_numberAt 2 (some .long) ∈ gT := gT_in (inT4 (List.mem_of_getElem? (i := 173) rfl)) rfl
theorem kc_X10_put : Cond.code yX10_put cX10_put 4 (none) ∈ gT := gT_in (inT5 (List.mem_of_getElem? (i := 234) rfl)) rfl
theorem kc_X10_cutToSort : Cond.code yX10_cutToSort cX10_cutToSort 3 (some .long) ∈ gT := gT_in (inT5 (List.mem_of_getElem? (i := 238) rfl)) rfl
theorem kc_X11_feed : Cond.code yX11_feed cX11_feed 6 (some .int) ∈ gT := gT_in (inT2 (List.mem_of_getElem? (i := 178) rfl)) rfl
theorem kc_X11_putOnTape : Cond.code yX11_putOnTape cX11_putOnTape 3 (none) ∈ gT := gT_in (inT2 (List.mem_of_getElem? (i := 182) rfl)) rfl
theorem kc_X11_land : Cond.code yX11_land cX11_land 3 (some .int) ∈ gT := gT_in (inT2 (List.mem_of_getElem? (i := 186) rfl)) rfl
theorem kc_X11_spareLand : Cond.code yX11_spareLand cX11_spareLand 5 (some (.object "RutWays$Land")) ∈ gT := gT_in (inT2 (List.mem_of_getElem? (i := 190) rfl)) rfl
theorem kc_X11_fault : Cond.code yX11_fault cX11_fault 2 (some .int) ∈ gT := gT_in (inT3 (List.mem_of_getElem? (i := 231) rfl)) rfl
theorem kc_X11_lane : Cond.code yX11_lane cX11_lane 3 (some .int) ∈ gT := gT_in (inT3 (List.mem_of_getElem? (i := 235) rfl)) rfl
theorem kc_X11_why : Cond.code yX11_why cX11_why 2 (some .int) ∈ gT := gT_in (inT4 (List.mem_of_getElem? (i := 51) rfl)) rfl
theorem kc_X11_worn : Cond.code yX11_worn cX11_worn 2 (some .int) ∈ gT := gT_in (inT4 (List.mem_of_getElem? (i := 63) rfl)) rfl
theorem kc_X11_fillings : Cond.code yX11_fillings cX11_fillings 2 (some .int) ∈ gT := gT_in (inT4 (List.mem_of_getElem? (i := 73) rfl)) rfl
theorem kc_X11_go : Cond.code yX11_go cX11_go 3 (some .int) ∈ gT := gT_in (inT4 (List.mem_of_getElem? (i := 85) rfl)) rfl
theorem kc_X11_fill : Cond.code yX11_fill cX11_fill 3 (some .int) ∈ gT := gT_in (inT4 (List.mem_of_getElem? (i := 127) rfl)) rfl
theorem kc_X11_dig : Cond.code yX11_dig cX11_dig 3 (some .int) ∈ gT := gT_in (inT4 (List.mem_of_getElem? (i := 132) rfl)) rfl
theorem kc_X11_turn : Cond.code yX11_turn cX11_turn 3 (some .int) ∈ gT := gT_in (inT4 (List.mem_of_getElem? (i := 136) rfl)) rfl
theorem kc_X11_seasons : Cond.code yX11_seasons cX11_seasons 3 (some .int) ∈ gT := gT_in (inT4 (List.mem_of_getElem? (i := 140) rfl)) rfl
theorem kc_X11_rain : Cond.code yX11_rain cX11_rain 4 (some .int) ∈ gT := gT_in (inT4 (List.mem_of_getElem? (i := 146) rfl)) rfl
theorem kc_X11_doOne : Cond.code yX11_doOne cX11_doOne 4 (some .int) ∈ gT := gT_in (inT4 (List.mem_of_getElem? (i := 89) rfl)) rfl
theorem kc_X11_undo : Cond.code yX11_undo cX11_undo 2 (some .int) ∈ gT := gT_in (inT4 (List.mem_of_getElem? (i := 150) rfl)) rfl
theorem kc_X11_judge : Cond.code yX11_judge cX11_judge 7 (some .int) ∈ gT := gT_in (inT4 (List.mem_of_getElem? (i := 165) rfl)) rfl
theorem kc_X11_perform : Cond.code yX11_perform cX11_perform 4 (some .int) ∈ gT := gT_in (inT4 (List.mem_of_getElem? (i := 181) rfl)) rfl
theorem kc_X11_year : Cond.code yX11_year cX11_year 8 (some .int) ∈ gT := gT_in (inT4 (List.mem_of_getElem? (i := 185) rfl)) rfl
theorem kc_X11_drawBehind : Cond.code yX11_drawBehind cX11_drawBehind 1 (some .int) ∈ gT := gT_in (inT4 (List.mem_of_getElem? (i := 188) rfl)) rfl
theorem kc_X11_drawnDeed : Cond.code yX11_drawnDeed cX11_drawnDeed 2 (some .int) ∈ gT := gT_in (inT4 (List.mem_of_getElem? (i := 192) rfl)) rfl
theorem kc_X11_reach : Cond.code yX11_reach cX11_reach 1 (some .int) ∈ gT := gT_in (inT4 (List.mem_of_getElem? (i := 196) rfl)) rfl
theorem kc_X11_soonest : Cond.code yX11_soonest cX11_soonest 2 (some .int) ∈ gT := gT_in (inT4 (List.mem_of_getElem? (i := 208) rfl)) rfl
theorem kc_X11_rows : Cond.code yX11_rows cX11_rows 3 (some .int) ∈ gT := gT_in (inT4 (List.mem_of_getElem? (i := 239) rfl)) rfl
theorem kc_X11_way : Cond.code yX11_way cX11_way 3 (some .int) ∈ gT := gT_in (inT5 (List.mem_of_getElem? (i := 29) rfl)) rfl
theorem kc_X11_toAndFro : Cond.code yX11_toAndFro cX11_toAndFro 4 (some .int) ∈ gT := gT_in (inT5 (List.mem_of_getElem? (i := 42) rfl)) rfl
theorem kc_X11_cheapest : Cond.code yX11_cheapest cX11_cheapest 4 (some .int) ∈ gT := gT_in (inT5 (List.mem_of_getElem? (i := 47) rfl)) rfl
theorem kc_X11_cheapBy : Cond.code yX11_cheapBy cX11_cheapBy 3 (some .int) ∈ gT := gT_in (inT5 (List.mem_of_getElem? (i := 67) rfl)) rfl
theorem kc_X11_joins : Cond.code yX11_joins cX11_joins 3 (some .int) ∈ gT := gT_in (inT5 (List.mem_of_getElem? (i := 71) rfl)) rfl
theorem kc_X11_shuts : Cond.code yX11_shuts cX11_shuts 4 (some .int) ∈ gT := gT_in (inT5 (List.mem_of_getElem? (i := 86) rfl)) rfl
theorem kc_X11_leastShutting : Cond.code yX11_leastShutting cX11_leastShutting 6 (some .int) ∈ gT := gT_in (inT5 (List.mem_of_getElem? (i := 90) rfl)) rfl
theorem kc_X11_turning : Cond.code yX11_turning cX11_turning 2 (some .int) ∈ gT := gT_in (inT5 (List.mem_of_getElem? (i := 94) rfl)) rfl
theorem kc_X11_seasonsOfTurning : Cond.code yX11_seasonsOfTurning cX11_seasonsOfTurning 4 (some .int) ∈ gT := gT_in (inT5 (List.mem_of_getElem? (i := 103) rfl)) rfl
theorem kc_X11_when : Cond.code yX11_when cX11_when 4 (some .int) ∈ gT := gT_in (inT5 (List.mem_of_getElem? (i := 108) rfl)) rfl
theorem kc_X11_starts : Cond.code yX11_starts cX11_starts 3 (some .int) ∈ gT := gT_in (inT5 (List.mem_of_getElem? (i := 112) rfl)) rfl
theorem kc_X11_leastStarting : Cond.code yX11_leastStarting cX11_leastStarting 5 (some .int) ∈ gT := gT_in (inT5 (List.mem_of_getElem? (i := 116) rfl)) rfl
theorem kc_X11_rains : Cond.code yX11_rains cX11_rains 4 (some .int) ∈ gT := gT_in (inT5 (List.mem_of_getElem? (i := 120) rfl)) rfl
theorem kc_X11_attempt : Cond.code yX11_attempt cX11_attempt 9 (some .int) ∈ gT := gT_in (inT5 (List.mem_of_getElem? (i := 138) rfl)) rfl
theorem kc_X11_whyNotWorn : Cond.code yX11_whyNotWorn cX11_whyNotWorn 5 (some .int) ∈ gT := gT_in (inT5 (List.mem_of_getElem? (i := 124) rfl)) rfl
theorem kc_X11_rainsBy : Cond.code yX11_rainsBy cX11_rainsBy 8 (some .int) ∈ gT := gT_in (inT5 (List.mem_of_getElem? (i := 130) rfl)) rfl
theorem kc_X11_mostAlike : Cond.code yX11_mostAlike cX11_mostAlike 6 (some .int) ∈ gT := gT_in (inT5 (List.mem_of_getElem? (i := 142) rfl)) rfl
theorem kc_X11_wornByRain : Cond.code yX11_wornByRain cX11_wornByRain 3 (some .int) ∈ gT := gT_in (inT5 (List.mem_of_getElem? (i := 134) rfl)) rfl
theorem kc_X11_wins : Cond.code yX11_wins cX11_wins 1 (some .int) ∈ gT := gT_in (inT5 (List.mem_of_getElem? (i := 147) rfl)) rfl
theorem kc_X11_best : Cond.code yX11_best cX11_best 1 (some .int) ∈ gT := gT_in (inT5 (List.mem_of_getElem? (i := 165) rfl)) rfl
theorem kc_X11_chance : Cond.code yX11_chance cX11_chance 7 (some .int) ∈ gT := gT_in (inT5 (List.mem_of_getElem? (i := 169) rfl)) rfl
theorem kc_X11_bestBy : Cond.code yX11_bestBy cX11_bestBy 3 (some .int) ∈ gT := gT_in (inT5 (List.mem_of_getElem? (i := 204) rfl)) rfl
theorem kc_X11_trayOf : Cond.code yX11_trayOf cX11_trayOf 2 (some (.object "RutWays$Tray")) ∈ gT := gT_in (inT4 (List.mem_of_getElem? (i := 169) rfl)) rfl
theorem kc_X11_numbers : Cond.code yX11_numbers cX11_numbers 5 (some .int) ∈ gT := gT_in (inT5 (List.mem_of_getElem? (i := 216) rfl)) rfl
theorem kc_X11_write : Cond.code yX11_write cX11_write 6 (some .long) ∈ gT := gT_in (inT5 (List.mem_of_getElem? (i := 227) rfl)) rfl
theorem kc_X11_lists : Cond.code yX11_lists cX11_lists 7 (some .int) ∈ gT := gT_in (inT6 (List.mem_of_getElem? (i := 2) rfl)) rfl
theorem kc_X11_pictureOf : Cond.code yX11_pictureOf cX11_pictureOf 2 (some (.object "RutWays$Course")) ∈ gT := gT_in (inT6 (List.mem_of_getElem? (i := 11) rfl)) rfl
theorem kc_X11_image : Cond.code yX11_image cX11_image 3 (some .int) ∈ gT := gT_in (inT6 (List.mem_of_getElem? (i := 7) rfl)) rfl
theorem kc_X11_restore : Cond.code yX11_restore cX11_restore 3 (some .int) ∈ gT := gT_in (inT6 (List.mem_of_getElem? (i := 15) rfl)) rfl
theorem kc_X11_count : Cond.code yX11_count cX11_count 2 (some .int) ∈ gT := gT_in (inT6 (List.mem_of_getElem? (i := 19) rfl)) rfl
theorem kc_X12_within : Cond.code yX12_within cX12_within 6 (some .boolean) ∈ gT := gT_in (inT6 (List.mem_of_getElem? (i := 136) rfl)) rfl
theorem kc_X12_plain : Cond.code yX12_plain cX12_plain 2 (none) ∈ gT := gT_in (inT6 (List.mem_of_getElem? (i := 28) rfl)) rfl
theorem kc_X12_feed : Cond.code yX12_feed cX12_feed 8 (some .int) ∈ gT := gT_in (inT6 (List.mem_of_getElem? (i := 129) rfl)) rfl
theorem kc_X12_see : Cond.code yX12_see cX12_see 2 (some .int) ∈ gT := gT_in (inT6 (List.mem_of_getElem? (i := 144) rfl)) rfl
theorem kc_X12_isSmall : Cond.code yX12_isSmall cX12_isSmall 1 (some .boolean) ∈ gT := gT_in (inT6 (List.mem_of_getElem? (i := 147) rfl)) rfl
theorem kc_X12_isDigit : Cond.code yX12_isDigit cX12_isDigit 1 (some .boolean) ∈ gT := gT_in (inT6 (List.mem_of_getElem? (i := 157) rfl)) rfl
theorem kc_X12_keyAt : Cond.code yX12_keyAt cX12_keyAt 4 (some .int) ∈ gT := gT_in (inT6 (List.mem_of_getElem? (i := 151) rfl)) rfl
theorem kc_X12_next : Cond.code yX12_next cX12_next 2 (none) ∈ gT := gT_in (inT6 (List.mem_of_getElem? (i := 140) rfl)) rfl
theorem kc_X12_fails : Cond.code yX12_fails cX12_fails 2 (none) ∈ gT := gT_in (inT6 (List.mem_of_getElem? (i := 170) rfl)) rfl
theorem kc_X12_is : Cond.code yX12_is cX12_is 2 (some .boolean) ∈ gT := gT_in (inT6 (List.mem_of_getElem? (i := 166) rfl)) rfl
theorem kc_X12_eats : Cond.code yX12_eats cX12_eats 2 (some .boolean) ∈ gT := gT_in (inT6 (List.mem_of_getElem? (i := 162) rfl)) rfl
theorem kc_X12_takes : Cond.code yX12_takes cX12_takes 4 (some .int) ∈ gT := gT_in (inT6 (List.mem_of_getElem? (i := 178) rfl)) rfl
theorem kc_X12_isIn : Cond.code yX12_isIn cX12_isIn 3 (some .boolean) ∈ gT := gT_in (inT7 (List.mem_of_getElem? (i := 194) rfl)) rfl
theorem kc_X12_wordOf : Cond.code yX12_wordOf cX12_wordOf 2 (some .int) ∈ gT := gT_in (inT6 (List.mem_of_getElem? (i := 226) rfl)) rfl
theorem kc_X12_codes : Cond.code yX12_codes cX12_codes 2 (none) ∈ gT := gT_in (inT6 (List.mem_of_getElem? (i := 222) rfl)) rfl
theorem kc_X12_goesIn : Cond.code yX12_goesIn cX12_goesIn 2 (some .boolean) ∈ gT := gT_in (inT6 (List.mem_of_getElem? (i := 230) rfl)) rfl
theorem kc_X12_readAtom : Cond.code yX12_readAtom cX12_readAtom 2 (none) ∈ gT := gT_in (inT6 (List.mem_of_getElem? (i := 218) rfl)) rfl
theorem kc_X12_readIf : Cond.code yX12_readIf cX12_readIf 2 (none) ∈ gT := gT_in (inT6 (List.mem_of_getElem? (i := 234) rfl)) rfl
theorem kc_X12_readTerm : Cond.code yX12_readTerm cX12_readTerm 2 (none) ∈ gT := gT_in (inT6 (List.mem_of_getElem? (i := 214) rfl)) rfl
theorem kc_X12_readSum : Cond.code yX12_readSum cX12_readSum 3 (none) ∈ gT := gT_in (inT6 (List.mem_of_getElem? (i := 210) rfl)) rfl
theorem kc_X12_readUnit : Cond.code yX12_readUnit cX12_readUnit 3 (none) ∈ gT := gT_in (inT7 (List.mem_of_getElem? (i := 6) rfl)) rfl
theorem kc_X12_readBoth : Cond.code yX12_readBoth cX12_readBoth 2 (none) ∈ gT := gT_in (inT7 (List.mem_of_getElem? (i := 2) rfl)) rfl
theorem kc_X12_readTruth : Cond.code yX12_readTruth cX12_readTruth 2 (none) ∈ gT := gT_in (inT6 (List.mem_of_getElem? (i := 238) rfl)) rfl
theorem kc_X12_readFlag : Cond.code yX12_readFlag cX12_readFlag 2 (some .boolean) ∈ gT := gT_in (inT6 (List.mem_of_getElem? (i := 194) rfl)) rfl
theorem kc_X12_readLane : Cond.code yX12_readLane cX12_readLane 2 (none) ∈ gT := gT_in (inT6 (List.mem_of_getElem? (i := 190) rfl)) rfl
theorem kc_X12_named : Cond.code yX12_named cX12_named 4 (some .int) ∈ gT := gT_in (inT6 (List.mem_of_getElem? (i := 174) rfl)) rfl
theorem kc_X12_readCart : Cond.code yX12_readCart cX12_readCart 1 (none) ∈ gT := gT_in (inT6 (List.mem_of_getElem? (i := 198) rfl)) rfl
theorem kc_X12_readPerson : Cond.code yX12_readPerson cX12_readPerson 2 (none) ∈ gT := gT_in (inT6 (List.mem_of_getElem? (i := 202) rfl)) rfl
theorem kc_X12_readLaw : Cond.code yX12_readLaw cX12_readLaw 3 (none) ∈ gT := gT_in (inT6 (List.mem_of_getElem? (i := 206) rfl)) rfl
theorem kc_X12_readLine : Cond.code yX12_readLine cX12_readLine 1 (none) ∈ gT := gT_in (inT6 (List.mem_of_getElem? (i := 186) rfl)) rfl
theorem kc_X12_closes : Cond.code yX12_closes cX12_closes 1 (none) ∈ gT := gT_in (inT6 (List.mem_of_getElem? (i := 182) rfl)) rfl
theorem kc_X12_land : Cond.code yX12_land cX12_land 3 (some .int) ∈ gT := gT_in (inT6 (List.mem_of_getElem? (i := 133) rfl)) rfl
theorem kc_X12_fault : Cond.code yX12_fault cX12_fault 2 (some .int) ∈ gT := gT_in (inT7 (List.mem_of_getElem? (i := 10) rfl)) rfl
theorem kc_X12_isPlace : Cond.code yX12_isPlace cX12_isPlace 2 (some .boolean) ∈ gT := gT_in (inT7 (List.mem_of_getElem? (i := 206) rfl)) rfl
theorem kc_X12_isLane : Cond.code yX12_isLane cX12_isLane 3 (some .boolean) ∈ gT := gT_in (inT7 (List.mem_of_getElem? (i := 18) rfl)) rfl
theorem kc_X12_isPerson : Cond.code yX12_isPerson cX12_isPerson 3 (some .boolean) ∈ gT := gT_in (inT7 (List.mem_of_getElem? (i := 106) rfl)) rfl
theorem kc_X12_bitsOf : Cond.code yX12_bitsOf cX12_bitsOf 3 (some .int) ∈ gT := gT_in (inT7 (List.mem_of_getElem? (i := 33) rfl)) rfl
theorem kc_X12_otherEnd : Cond.code yX12_otherEnd cX12_otherEnd 3 (some .int) ∈ gT := gT_in (inT7 (List.mem_of_getElem? (i := 50) rfl)) rfl
theorem kc_X12_between : Cond.code yX12_between cX12_between 5 (some .int) ∈ gT := gT_in (inT7 (List.mem_of_getElem? (i := 36) rfl)) rfl
theorem kc_X12_reckons : Cond.code yX12_reckons cX12_reckons 8 (some .int) ∈ gT := gT_in (inT7 (List.mem_of_getElem? (i := 30) rfl)) rfl
theorem kc_X12_mayGo : Cond.code yX12_mayGo cX12_mayGo 3 (some .boolean) ∈ gT := gT_in (inT7 (List.mem_of_getElem? (i := 26) rfl)) rfl
theorem kc_X12_isOpen : Cond.code yX12_isOpen cX12_isOpen 2 (some .boolean) ∈ gT := gT_in (inT7 (List.mem_of_getElem? (i := 22) rfl)) rfl
theorem kc_X12_wornTo : Cond.code yX12_wornTo cX12_wornTo 5 (some .int) ∈ gT := gT_in (inT7 (List.mem_of_getElem? (i := 58) rfl)) rfl
theorem kc_X12_fillingsOf : Cond.code yX12_fillingsOf cX12_fillingsOf 3 (some .int) ∈ gT := gT_in (inT7 (List.mem_of_getElem? (i := 66) rfl)) rfl
theorem kc_X12_whyGo : Cond.code yX12_whyGo cX12_whyGo 3 (some .int) ∈ gT := gT_in (inT7 (List.mem_of_getElem? (i := 46) rfl)) rfl
theorem kc_X12_lane : Cond.code yX12_lane cX12_lane 3 (some .int) ∈ gT := gT_in (inT7 (List.mem_of_getElem? (i := 14) rfl)) rfl
theorem kc_X12_why : Cond.code yX12_why cX12_why 2 (some .int) ∈ gT := gT_in (inT7 (List.mem_of_getElem? (i := 42) rfl)) rfl
theorem kc_X12_worn : Cond.code yX12_worn cX12_worn 2 (some .int) ∈ gT := gT_in (inT7 (List.mem_of_getElem? (i := 54) rfl)) rfl
theorem kc_X12_fillings : Cond.code yX12_fillings cX12_fillings 2 (some .int) ∈ gT := gT_in (inT7 (List.mem_of_getElem? (i := 62) rfl)) rfl
theorem kc_X12_stores : Cond.code yX12_stores cX12_stores 2 (none) ∈ gT := gT_in (inT7 (List.mem_of_getElem? (i := 74) rfl)) rfl
theorem kc_X12_isAgain : Cond.code yX12_isAgain cX12_isAgain 2 (none) ∈ gT := gT_in (inT7 (List.mem_of_getElem? (i := 161) rfl)) rfl
theorem kc_X12_notes : Cond.code yX12_notes cX12_notes 2 (none) ∈ gT := gT_in (inT7 (List.mem_of_getElem? (i := 82) rfl)) rfl
theorem kc_X12_goes : Cond.code yX12_goes cX12_goes 2 (none) ∈ gT := gT_in (inT7 (List.mem_of_getElem? (i := 78) rfl)) rfl
theorem kc_X12_go : Cond.code yX12_go cX12_go 3 (some .int) ∈ gT := gT_in (inT7 (List.mem_of_getElem? (i := 70) rfl)) rfl
theorem kc_X12_whyRut : Cond.code yX12_whyRut cX12_whyRut 4 (some .int) ∈ gT := gT_in (inT7 (List.mem_of_getElem? (i := 94) rfl)) rfl
theorem kc_X12_shovels : Cond.code yX12_shovels cX12_shovels 4 (some .int) ∈ gT := gT_in (inT7 (List.mem_of_getElem? (i := 90) rfl)) rfl
theorem kc_X12_fill : Cond.code yX12_fill cX12_fill 2 (some .int) ∈ gT := gT_in (inT7 (List.mem_of_getElem? (i := 86) rfl)) rfl
theorem kc_X12_dig : Cond.code yX12_dig cX12_dig 2 (some .int) ∈ gT := gT_in (inT7 (List.mem_of_getElem? (i := 98) rfl)) rfl
theorem kc_X12_turn : Cond.code yX12_turn cX12_turn 2 (some .int) ∈ gT := gT_in (inT7 (List.mem_of_getElem? (i := 102) rfl)) rfl
theorem kc_X12_seasonTo : Cond.code yX12_seasonTo cX12_seasonTo 4 (some .int) ∈ gT := gT_in (inT7 (List.mem_of_getElem? (i := 115) rfl)) rfl
theorem kc_X12_seasons : Cond.code yX12_seasons cX12_seasons 3 (some .int) ∈ gT := gT_in (inT7 (List.mem_of_getElem? (i := 110) rfl)) rfl
theorem kc_X12_rain : Cond.code yX12_rain cX12_rain 2 (some .int) ∈ gT := gT_in (inT7 (List.mem_of_getElem? (i := 119) rfl)) rfl
theorem kc_X12_undo : Cond.code yX12_undo cX12_undo 3 (some .int) ∈ gT := gT_in (inT7 (List.mem_of_getElem? (i := 124) rfl)) rfl
theorem kc_X12_whyNot : Cond.code yX12_whyNot cX12_whyNot 3 (some .int) ∈ gT := gT_in (inT7 (List.mem_of_getElem? (i := 142) rfl)) rfl
theorem kc_X12_does : Cond.code yX12_does cX12_does 2 (none) ∈ gT := gT_in (inT7 (List.mem_of_getElem? (i := 153) rfl)) rfl
theorem kc_X12_tells : Cond.code yX12_tells cX12_tells 3 (some .int) ∈ gT := gT_in (inT7 (List.mem_of_getElem? (i := 138) rfl)) rfl
theorem kc_X12_noTray : Cond.code yX12_noTray cX12_noTray 2 (some .int) ∈ gT := gT_in (inT7 (List.mem_of_getElem? (i := 134) rfl)) rfl
theorem kc_X12_depthSum : Cond.code yX12_depthSum cX12_depthSum 3 (some .int) ∈ gT := gT_in (inT7 (List.mem_of_getElem? (i := 157) rfl)) rfl
theorem kc_X12_judge : Cond.code yX12_judge cX12_judge 7 (some .int) ∈ gT := gT_in (inT7 (List.mem_of_getElem? (i := 129) rfl)) rfl
theorem kc_X12_perform : Cond.code yX12_perform cX12_perform 4 (some .int) ∈ gT := gT_in (inT7 (List.mem_of_getElem? (i := 165) rfl)) rfl
theorem kc_X12_draw : Cond.code yX12_draw cX12_draw 2 (some .int) ∈ gT := gT_in (inT7 (List.mem_of_getElem? (i := 177) rfl)) rfl
theorem kc_X12_drawn : Cond.code yX12_drawn cX12_drawn 2 (some .int) ∈ gT := gT_in (inT7 (List.mem_of_getElem? (i := 173) rfl)) rfl
theorem kc_X12_year : Cond.code yX12_year cX12_year 6 (some .int) ∈ gT := gT_in (inT7 (List.mem_of_getElem? (i := 169) rfl)) rfl
theorem kc_X12_laysFar : Cond.code yX12_laysFar cX12_laysFar 4 (none) ∈ gT := gT_in (inT7 (List.mem_of_getElem? (i := 190) rfl)) rfl
theorem kc_X12_nearer : Cond.code yX12_nearer cX12_nearer 3 (some .boolean) ∈ gT := gT_in (inT7 (List.mem_of_getElem? (i := 198) rfl)) rfl
theorem kc_X12_everyLane : Cond.code yX12_everyLane cX12_everyLane 1 (some .int) ∈ gT := gT_in (inT7 (List.mem_of_getElem? (i := 186) rfl)) rfl
theorem kc_X12_reach : Cond.code yX12_reach cX12_reach 3 (some .int) ∈ gT := gT_in (inT7 (List.mem_of_getElem? (i := 182) rfl)) rfl
theorem kc_X12_toldFar : Cond.code yX12_toldFar cX12_toldFar 1 (some .int) ∈ gT := gT_in (inT7 (List.mem_of_getElem? (i := 209) rfl)) rfl
theorem kc_X12_soonest : Cond.code yX12_soonest cX12_soonest 2 (some .int) ∈ gT := gT_in (inT7 (List.mem_of_getElem? (i := 202) rfl)) rfl
theorem kc_X12_rowsFrom : Cond.code yX12_rowsFrom cX12_rowsFrom 8 (some .int) ∈ gT := gT_in (inT7 (List.mem_of_getElem? (i := 218) rfl)) rfl
theorem kc_X12_rows : Cond.code yX12_rows cX12_rows 3 (some .int) ∈ gT := gT_in (inT7 (List.mem_of_getElem? (i := 213) rfl)) rfl
theorem kc_X12_finds : Cond.code yX12_finds cX12_finds 9 (some .boolean) ∈ gT := gT_in (inT7 (List.mem_of_getElem? (i := 226) rfl)) rfl
theorem kc_X12_way : Cond.code yX12_way cX12_way 4 (some .int) ∈ gT := gT_in (inT7 (List.mem_of_getElem? (i := 222) rfl)) rfl
theorem kc_X12_toAndFro : Cond.code yX12_toAndFro cX12_toAndFro 4 (some .int) ∈ gT := gT_in (inT7 (List.mem_of_getElem? (i := 230) rfl)) rfl
theorem kc_X12_costOf : Cond.code yX12_costOf cX12_costOf 3 (some .int) ∈ gT := gT_in (inT8 (List.mem_of_getElem? (i := 6) rfl)) rfl
theorem kc_X12_costBy : Cond.code yX12_costBy cX12_costBy 4 (some .int) ∈ gT := gT_in (inT8 (List.mem_of_getElem? (i := 2) rfl)) rfl
theorem kc_X12_laysCost : Cond.code yX12_laysCost cX12_laysCost 5 (some .int) ∈ gT := gT_in (inT7 (List.mem_of_getElem? (i := 238) rfl)) rfl
theorem kc_X12_laneAt : Cond.code yX12_laneAt cX12_laneAt 5 (some .int) ∈ gT := gT_in (inT8 (List.mem_of_getElem? (i := 14) rfl)) rfl
theorem kc_X12_cheapest : Cond.code yX12_cheapest cX12_cheapest 4 (some .int) ∈ gT := gT_in (inT7 (List.mem_of_getElem? (i := 234) rfl)) rfl
theorem kc_X12_cheapBy : Cond.code yX12_cheapBy cX12_cheapBy 3 (some .int) ∈ gT := gT_in (inT8 (List.mem_of_getElem? (i := 10) rfl)) rfl
theorem kc_X12_areJoined : Cond.code yX12_areJoined cX12_areJoined 7 (some .boolean) ∈ gT := gT_in (inT8 (List.mem_of_getElem? (i := 22) rfl)) rfl
theorem kc_X12_joins : Cond.code yX12_joins cX12_joins 7 (some .int) ∈ gT := gT_in (inT8 (List.mem_of_getElem? (i := 18) rfl)) rfl
theorem kc_X12_shuts : Cond.code yX12_shuts cX12_shuts 5 (some .int) ∈ gT := gT_in (inT8 (List.mem_of_getElem? (i := 26) rfl)) rfl
theorem kc_X12_turnedTo : Cond.code yX12_turnedTo cX12_turnedTo 3 (some .int) ∈ gT := gT_in (inT8 (List.mem_of_getElem? (i := 34) rfl)) rfl
theorem kc_X12_turning : Cond.code yX12_turning cX12_turning 3 (some .int) ∈ gT := gT_in (inT8 (List.mem_of_getElem? (i := 30) rfl)) rfl
theorem kc_X12_when : Cond.code yX12_when cX12_when 4 (some .int) ∈ gT := gT_in (inT8 (List.mem_of_getElem? (i := 38) rfl)) rfl
theorem kc_X12_starts : Cond.code yX12_starts cX12_starts 5 (some .int) ∈ gT := gT_in (inT8 (List.mem_of_getElem? (i := 42) rfl)) rfl
theorem kc_X12_noWorn : Cond.code yX12_noWorn cX12_noWorn 6 (some .int) ∈ gT := gT_in (inT8 (List.mem_of_getElem? (i := 50) rfl)) rfl
theorem kc_X12_rainsOf : Cond.code yX12_rainsOf cX12_rainsOf 7 (some .int) ∈ gT := gT_in (inT8 (List.mem_of_getElem? (i := 55) rfl)) rfl
theorem kc_X12_rains : Cond.code yX12_rains cX12_rains 3 (some .int) ∈ gT := gT_in (inT8 (List.mem_of_getElem? (i := 46) rfl)) rfl
theorem kc_X12_mostOften : Cond.code yX12_mostOften cX12_mostOften 6 (some .int) ∈ gT := gT_in (inT8 (List.mem_of_getElem? (i := 63) rfl)) rfl
theorem kc_X12_attempt : Cond.code yX12_attempt cX12_attempt 8 (some .int) ∈ gT := gT_in (inT8 (List.mem_of_getElem? (i := 59) rfl)) rfl
theorem kc_X12_winsAt : Cond.code yX12_winsAt cX12_winsAt 6 (some .boolean) ∈ gT := gT_in (inT8 (List.mem_of_getElem? (i := 75) rfl)) rfl
theorem kc_X12_winsBy : Cond.code yX12_winsBy cX12_winsBy 5 (some .boolean) ∈ gT := gT_in (inT8 (List.mem_of_getElem? (i := 79) rfl)) rfl
theorem kc_X12_forgets : Cond.code yX12_forgets cX12_forgets 2 (none) ∈ gT := gT_in (inT8 (List.mem_of_getElem? (i := 71) rfl)) rfl
theorem kc_X12_wins : Cond.code yX12_wins cX12_wins 1 (some .int) ∈ gT := gT_in (inT8 (List.mem_of_getElem? (i := 67) rfl)) rfl
theorem kc_X12_best : Cond.code yX12_best cX12_best 2 (some .int) ∈ gT := gT_in (inT8 (List.mem_of_getElem? (i := 83) rfl)) rfl
theorem kc_X12_wholeOf : Cond.code yX12_wholeOf cX12_wholeOf 3 (some .int) ∈ gT := gT_in (inT8 (List.mem_of_getElem? (i := 95) rfl)) rfl
theorem kc_X12_likelyBy : Cond.code yX12_likelyBy cX12_likelyBy 5 (some .int) ∈ gT := gT_in (inT8 (List.mem_of_getElem? (i := 99) rfl)) rfl
theorem kc_X12_laysLikely : Cond.code yX12_laysLikely cX12_laysLikely 7 (some .int) ∈ gT := gT_in (inT8 (List.mem_of_getElem? (i := 92) rfl)) rfl
theorem kc_X12_common : Cond.code yX12_common cX12_common 2 (some .int) ∈ gT := gT_in (inT8 (List.mem_of_getElem? (i := 102) rfl)) rfl
theorem kc_X12_chance : Cond.code yX12_chance cX12_chance 5 (some .int) ∈ gT := gT_in (inT8 (List.mem_of_getElem? (i := 87) rfl)) rfl
theorem kc_X12_bestBy : Cond.code yX12_bestBy cX12_bestBy 5 (some .int) ∈ gT := gT_in (inT8 (List.mem_of_getElem? (i := 106) rfl)) rfl
theorem kc_X12_cut : Cond.code yX12_cut cX12_cut 3 (some .long) ∈ gT := gT_in (inT8 (List.mem_of_getElem? (i := 118) rfl)) rfl
theorem kc_X12_numbers : Cond.code yX12_numbers cX12_numbers 5 (some .int) ∈ gT := gT_in (inT8 (List.mem_of_getElem? (i := 110) rfl)) rfl
theorem kc_X12_write : Cond.code yX12_write cX12_write 6 (some .long) ∈ gT := gT_in (inT8 (List.mem_of_getElem? (i := 114) rfl)) rfl
theorem kc_X12_lists : Cond.code yX12_lists cX12_lists 7 (some .int) ∈ gT := gT_in (inT8 (List.mem_of_getElem? (i := 122) rfl)) rfl
theorem kc_X12_image : Cond.code yX12_image cX12_image 3 (some .int) ∈ gT := gT_in (inT8 (List.mem_of_getElem? (i := 126) rfl)) rfl
theorem kc_X12_restore : Cond.code yX12_restore cX12_restore 3 (some .int) ∈ gT := gT_in (inT8 (List.mem_of_getElem? (i := 130) rfl)) rfl
theorem kc_X12_count : Cond.code yX12_count cX12_count 2 (some .int) ∈ gT := gT_in (inT8 (List.mem_of_getElem? (i := 134) rfl)) rfl
theorem kc_J6_bitCount_0f7a4 : Cond.code yJ6_bitCount_0f7a4 cJ6_bitCount_0f7a4 1 (some .int) ∈ gT := gT_in (inT4 (List.mem_of_getElem? (i := 16) rfl)) rfl
theorem kc_J9_floorMod_7cf53 : Cond.code yJ9_floorMod_7cf53 cJ9_floorMod_7cf53 3 (some .int) ∈ gT := gT_in (inT4 (List.mem_of_getElem? (i := 161) rfl)) rfl
theorem kc_J9_max_7cf53 : Cond.code yJ9_max_7cf53 cJ9_max_7cf53 2 (some .int) ∈ gT := gT_in (inT3 (List.mem_of_getElem? (i := 40) rfl)) rfl
theorem kc_J9_min_7cf53 : Cond.code yJ9_min_7cf53 cJ9_min_7cf53 2 (some .int) ∈ gT := gT_in (inT2 (List.mem_of_getElem? (i := 213) rfl)) rfl
theorem kc_J1_canEncode_9a6ad : Cond.code yJ1_canEncode_9a6ad cJ1_canEncode_9a6ad 1 (some .boolean) ∈ gT := gT_in (inT3 (List.mem_of_getElem? (i := 67) rfl)) rfl
theorem kc_J7_fill_d0a16 : Cond.code yJ7_fill_d0a16 cJ7_fill_d0a16 5 (none) ∈ gT := gT_in (inT5 (List.mem_of_getElem? (i := 223) rfl)) rfl
theorem kc_J7_fill_53178 : Cond.code yJ7_fill_53178 cJ7_fill_53178 4 (none) ∈ gT := gT_in (inT2 (List.mem_of_getElem? (i := 201) rfl)) rfl
theorem ki_RX11 : Cond.initialized RX11 ∈ gT := gT_in (inT1 (List.mem_of_getElem? (i := 1) rfl)) rfl
theorem ki_RX0 : Cond.initialized RX0 ∈ gT := gT_in (inT1 (List.mem_of_getElem? (i := 6) rfl)) rfl
theorem ki_RX1 : Cond.initialized RX1 ∈ gT := gT_in (inT1 (List.mem_of_getElem? (i := 11) rfl)) rfl
theorem ki_RX2 : Cond.initialized RX2 ∈ gT := gT_in (inT1 (List.mem_of_getElem? (i := 7) rfl)) rfl
theorem ki_RX3 : Cond.initialized RX3 ∈ gT := gT_in (inT1 (List.mem_of_getElem? (i := 4) rfl)) rfl
theorem ki_RX4 : Cond.initialized RX4 ∈ gT := gT_in (inT1 (List.mem_of_getElem? (i := 5) rfl)) rfl
theorem ki_RX5 : Cond.initialized RX5 ∈ gT := gT_in (inT1 (List.mem_of_getElem? (i := 12) rfl)) rfl
theorem ki_RX6 : Cond.initialized RX6 ∈ gT := gT_in (inT1 (List.mem_of_getElem? (i := 9) rfl)) rfl
theorem ki_RX7 : Cond.initialized RX7 ∈ gT := gT_in (inT1 (List.mem_of_getElem? (i := 2) rfl)) rfl
theorem ki_RX8 : Cond.initialized RX8 ∈ gT := gT_in (inT1 (List.mem_of_getElem? (i := 10) rfl)) rfl
theorem ki_RX9 : Cond.initialized RX9 ∈ gT := gT_in (inT1 (List.mem_of_getElem? (i := 3) rfl)) rfl
theorem ki_RX10 : Cond.initialized RX10 ∈ gT := gT_in (inT1 (List.mem_of_getElem? (i := 8) rfl)) rfl
theorem ki_RX12 : Cond.initialized RX12 ∈ gT := gT_in (inT1 (List.mem_of_getElem? (i := 13) rfl)) rfl
theorem ki_RJ6 : Cond.initialized RJ6 ∈ gT := gT_in (inT1 (List.mem_of_getElem? (i := 22) rfl)) rfl
theorem ki_RJ9 : Cond.initialized RJ9 ∈ gT := gT_in (inT1 (List.mem_of_getElem? (i := 15) rfl)) rfl
theorem ki_RJ1 : Cond.initialized RJ1 ∈ gT := gT_in (inT1 (List.mem_of_getElem? (i := 17) rfl)) rfl
theorem ki_RJ7 : Cond.initialized RJ7 ∈ gT := gT_in (inT1 (List.mem_of_getElem? (i := 14) rfl)) rfl
theorem mi_X0_beginIn : Mi yX0_beginIn cX0_beginIn 2 (none) 1 := ⟨kc_X0_beginIn, ki_RX0, ⟨by decide +kernel, by decide +kernel⟩, by decide +kernel⟩
theorem in_X0_beginIn : Cond.instanceMethod yX0_beginIn ∈ gT := gT_in (inT3 (List.mem_of_getElem? (i := 218) rfl)) rfl
theorem se_X0_beginIn : Cond.selects RX0 yX0_beginIn yX0_beginIn ∈ gT := gT_in (inT3 (List.mem_of_getElem? (i := 219) rfl)) rfl
theorem mi_X0_takeOver : Mi yX0_takeOver cX0_takeOver 2 (none) 1 := ⟨kc_X0_takeOver, ki_RX0, ⟨by decide +kernel, by decide +kernel⟩, by decide +kernel⟩
theorem in_X0_takeOver : Cond.instanceMethod yX0_takeOver ∈ gT := gT_in (inT4 (List.mem_of_getElem? (i := 91) rfl)) rfl
theorem se_X0_takeOver : Cond.selects RX0 yX0_takeOver yX0_takeOver ∈ gT := gT_in (inT4 (List.mem_of_getElem? (i := 92) rfl)) rfl
theorem mi_X0_depthOf : Mi yX0_depthOf cX0_depthOf 2 (some .int) 1 := ⟨kc_X0_depthOf, ki_RX0, ⟨by decide +kernel, by decide +kernel⟩, by decide +kernel⟩
theorem in_X0_depthOf : Cond.instanceMethod yX0_depthOf ∈ gT := gT_in (inT4 (List.mem_of_getElem? (i := 79) rfl)) rfl
theorem se_X0_depthOf : Cond.selects RX0 yX0_depthOf yX0_depthOf ∈ gT := gT_in (inT4 (List.mem_of_getElem? (i := 80) rfl)) rfl
theorem mi_X0_allDepths : Mi yX0_allDepths cX0_allDepths 3 (some .int) 0 := ⟨kc_X0_allDepths, ki_RX0, ⟨by decide +kernel, by decide +kernel⟩, by decide +kernel⟩
theorem in_X0_allDepths : Cond.instanceMethod yX0_allDepths ∈ gT := gT_in (inT4 (List.mem_of_getElem? (i := 175) rfl)) rfl
theorem se_X0_allDepths : Cond.selects RX0 yX0_allDepths yX0_allDepths ∈ gT := gT_in (inT4 (List.mem_of_getElem? (i := 176) rfl)) rfl
theorem mi_X0_isOpen : Mi yX0_isOpen cX0_isOpen 2 (some .boolean) 1 := ⟨kc_X0_isOpen, ki_RX0, ⟨by decide +kernel, by decide +kernel⟩, by decide +kernel⟩
theorem in_X0_isOpen : Cond.instanceMethod yX0_isOpen ∈ gT := gT_in (inT4 (List.mem_of_getElem? (i := 1) rfl)) rfl
theorem se_X0_isOpen : Cond.selects RX0 yX0_isOpen yX0_isOpen ∈ gT := gT_in (inT4 (List.mem_of_getElem? (i := 2) rfl)) rfl
theorem mi_X0_openLanes : Mi yX0_openLanes cX0_openLanes 3 (some .int) 0 := ⟨kc_X0_openLanes, ki_RX0, ⟨by decide +kernel, by decide +kernel⟩, by decide +kernel⟩
theorem in_X0_openLanes : Cond.instanceMethod yX0_openLanes ∈ gT := gT_in (inT4 (List.mem_of_getElem? (i := 198) rfl)) rfl
theorem se_X0_openLanes : Cond.selects RX0 yX0_openLanes yX0_openLanes ∈ gT := gT_in (inT4 (List.mem_of_getElem? (i := 199) rfl)) rfl
theorem mi_X0_fillingsOf : Mi yX0_fillingsOf cX0_fillingsOf 3 (some .int) 1 := ⟨kc_X0_fillingsOf, ki_RX0, ⟨by decide +kernel, by decide +kernel⟩, by decide +kernel⟩
theorem in_X0_fillingsOf : Cond.instanceMethod yX0_fillingsOf ∈ gT := gT_in (inT4 (List.mem_of_getElem? (i := 75) rfl)) rfl
theorem se_X0_fillingsOf : Cond.selects RX0 yX0_fillingsOf yX0_fillingsOf ∈ gT := gT_in (inT4 (List.mem_of_getElem? (i := 76) rfl)) rfl
theorem mi_X0_whyNoGoing : Mi yX0_whyNoGoing cX0_whyNoGoing 2 (some .int) 1 := ⟨kc_X0_whyNoGoing, ki_RX0, ⟨by decide +kernel, by decide +kernel⟩, by decide +kernel⟩
theorem in_X0_whyNoGoing : Cond.instanceMethod yX0_whyNoGoing ∈ gT := gT_in (inT4 (List.mem_of_getElem? (i := 53) rfl)) rfl
theorem se_X0_whyNoGoing : Cond.selects RX0 yX0_whyNoGoing yX0_whyNoGoing ∈ gT := gT_in (inT4 (List.mem_of_getElem? (i := 54) rfl)) rfl
theorem mi_X0_tryDeed : Mi yX0_tryDeed cX0_tryDeed 5 (some .int) 1 := ⟨kc_X0_tryDeed, ki_RX0, ⟨by decide +kernel, by decide +kernel⟩, by decide +kernel⟩
theorem in_X0_tryDeed : Cond.instanceMethod yX0_tryDeed ∈ gT := gT_in (inT4 (List.mem_of_getElem? (i := 95) rfl)) rfl
theorem se_X0_tryDeed : Cond.selects RX0 yX0_tryDeed yX0_tryDeed ∈ gT := gT_in (inT4 (List.mem_of_getElem? (i := 96) rfl)) rfl
theorem mi_X0_goBy : Mi yX0_goBy cX0_goBy 3 (none) 1 := ⟨kc_X0_goBy, ki_RX0, ⟨by decide +kernel, by decide +kernel⟩, by decide +kernel⟩
theorem in_X0_goBy : Cond.instanceMethod yX0_goBy ∈ gT := gT_in (inT4 (List.mem_of_getElem? (i := 103) rfl)) rfl
theorem se_X0_goBy : Cond.selects RX0 yX0_goBy yX0_goBy ∈ gT := gT_in (inP (List.mem_of_getElem? (i := 32) rfl)) rfl
theorem mi_X0_tryDepth : Mi yX0_tryDepth cX0_tryDepth 3 (some .int) 2 := ⟨kc_X0_tryDepth, ki_RX0, ⟨by decide +kernel, by decide +kernel⟩, by decide +kernel⟩
theorem in_X0_tryDepth : Cond.instanceMethod yX0_tryDepth ∈ gT := gT_in (inT4 (List.mem_of_getElem? (i := 108) rfl)) rfl
theorem se_X0_tryDepth : Cond.selects RX0 yX0_tryDepth yX0_tryDepth ∈ gT := gT_in (inP (List.mem_of_getElem? (i := 33) rfl)) rfl
theorem mi_X0_tryTurning : Mi yX0_tryTurning cX0_tryTurning 2 (some .int) 1 := ⟨kc_X0_tryTurning, ki_RX0, ⟨by decide +kernel, by decide +kernel⟩, by decide +kernel⟩
theorem in_X0_tryTurning : Cond.instanceMethod yX0_tryTurning ∈ gT := gT_in (inT4 (List.mem_of_getElem? (i := 112) rfl)) rfl
theorem se_X0_tryTurning : Cond.selects RX0 yX0_tryTurning yX0_tryTurning ∈ gT := gT_in (inP (List.mem_of_getElem? (i := 34) rfl)) rfl
theorem mi_X1_firstWinning : Mi yX1_firstWinning cX1_firstWinning 5 (some .int) 1 := ⟨kc_X1_firstWinning, ki_RX1, ⟨by decide +kernel, by decide +kernel⟩, by decide +kernel⟩
theorem in_X1_firstWinning : Cond.instanceMethod yX1_firstWinning ∈ gT := gT_in (inT5 (List.mem_of_getElem? (i := 149) rfl)) rfl
theorem se_X1_firstWinning : Cond.selects RX1 yX1_firstWinning yX1_firstWinning ∈ gT := gT_in (inT5 (List.mem_of_getElem? (i := 150) rfl)) rfl
theorem mi_X1_wonBehind : Mi yX1_wonBehind cX1_wonBehind 6 (some .int) 3 := ⟨kc_X1_wonBehind, ki_RX1, ⟨by decide +kernel, by decide +kernel⟩, by decide +kernel⟩
theorem in_X1_wonBehind : Cond.instanceMethod yX1_wonBehind ∈ gT := gT_in (inT5 (List.mem_of_getElem? (i := 155) rfl)) rfl
theorem se_X1_wonBehind : Cond.selects RX1 yX1_wonBehind yX1_wonBehind ∈ gT := gT_in (inP (List.mem_of_getElem? (i := 51) rfl)) rfl
theorem mi_X1_leadsToLoss : Mi yX1_leadsToLoss cX1_leadsToLoss 8 (some .boolean) 5 := ⟨kc_X1_leadsToLoss, ki_RX1, ⟨by decide +kernel, by decide +kernel⟩, by decide +kernel⟩
theorem in_X1_leadsToLoss : Cond.instanceMethod yX1_leadsToLoss ∈ gT := gT_in (inT5 (List.mem_of_getElem? (i := 159) rfl)) rfl
theorem se_X1_leadsToLoss : Cond.selects RX1 yX1_leadsToLoss yX1_leadsToLoss ∈ gT := gT_in (inP (List.mem_of_getElem? (i := 52) rfl)) rfl
theorem mi_X2_kept : Mi yX2_kept cX2_kept 1 (some .int) 0 := ⟨kc_X2_kept, ki_RX2, ⟨by decide +kernel, by decide +kernel⟩, by decide +kernel⟩
theorem in_X2_kept : Cond.instanceMethod yX2_kept ∈ gT := gT_in (inT4 (List.mem_of_getElem? (i := 152) rfl)) rfl
theorem se_X2_kept : Cond.selects RX2 yX2_kept yX2_kept ∈ gT := gT_in (inT4 (List.mem_of_getElem? (i := 153) rfl)) rfl
theorem mi_X2_forgetAll : Mi yX2_forgetAll cX2_forgetAll 1 (none) 0 := ⟨kc_X2_forgetAll, ki_RX2, ⟨by decide +kernel, by decide +kernel⟩, by decide +kernel⟩
theorem in_X2_forgetAll : Cond.instanceMethod yX2_forgetAll ∈ gT := gT_in (inT3 (List.mem_of_getElem? (i := 225) rfl)) rfl
theorem se_X2_forgetAll : Cond.selects RX2 yX2_forgetAll yX2_forgetAll ∈ gT := gT_in (inT3 (List.mem_of_getElem? (i := 226) rfl)) rfl
theorem mi_X2_keep : Mi yX2_keep cX2_keep 2 (none) 1 := ⟨kc_X2_keep, ki_RX2, ⟨by decide +kernel, by decide +kernel⟩, by decide +kernel⟩
theorem in_X2_keep : Cond.instanceMethod yX2_keep ∈ gT := gT_in (inT4 (List.mem_of_getElem? (i := 119) rfl)) rfl
theorem se_X2_keep : Cond.selects RX2 yX2_keep yX2_keep ∈ gT := gT_in (inT4 (List.mem_of_getElem? (i := 120) rfl)) rfl
theorem mi_X2_bringBack : Mi yX2_bringBack cX2_bringBack 4 (none) 2 := ⟨kc_X2_bringBack, ki_RX2, ⟨by decide +kernel, by decide +kernel⟩, by decide +kernel⟩
theorem in_X2_bringBack : Cond.instanceMethod yX2_bringBack ∈ gT := gT_in (inT4 (List.mem_of_getElem? (i := 156) rfl)) rfl
theorem se_X2_bringBack : Cond.selects RX2 yX2_bringBack yX2_bringBack ∈ gT := gT_in (inT4 (List.mem_of_getElem? (i := 157) rfl)) rfl
theorem mi_X3_makeEmpty : Mi yX3_makeEmpty cX3_makeEmpty 1 (none) 0 := ⟨kc_X3_makeEmpty, ki_RX3, ⟨by decide +kernel, by decide +kernel⟩, by decide +kernel⟩
theorem in_X3_makeEmpty : Cond.instanceMethod yX3_makeEmpty ∈ gT := gT_in (inT2 (List.mem_of_getElem? (i := 196) rfl)) rfl
theorem se_X3_makeEmpty : Cond.selects RX3 yX3_makeEmpty yX3_makeEmpty ∈ gT := gT_in (inT2 (List.mem_of_getElem? (i := 197) rfl)) rfl
theorem mi_X3_hasPlace : Mi yX3_hasPlace cX3_hasPlace 2 (some .boolean) 1 := ⟨kc_X3_hasPlace, ki_RX3, ⟨by decide +kernel, by decide +kernel⟩, by decide +kernel⟩
theorem in_X3_hasPlace : Cond.instanceMethod yX3_hasPlace ∈ gT := gT_in (inT4 (List.mem_of_getElem? (i := 210) rfl)) rfl
theorem se_X3_hasPlace : Cond.selects RX3 yX3_hasPlace yX3_hasPlace ∈ gT := gT_in (inT4 (List.mem_of_getElem? (i := 211) rfl)) rfl
theorem mi_X3_hasLane : Mi yX3_hasLane cX3_hasLane 2 (some .boolean) 1 := ⟨kc_X3_hasLane, ki_RX3, ⟨by decide +kernel, by decide +kernel⟩, by decide +kernel⟩
theorem in_X3_hasLane : Cond.instanceMethod yX3_hasLane ∈ gT := gT_in (inT3 (List.mem_of_getElem? (i := 237) rfl)) rfl
theorem se_X3_hasLane : Cond.selects RX3 yX3_hasLane yX3_hasLane ∈ gT := gT_in (inT3 (List.mem_of_getElem? (i := 238) rfl)) rfl
theorem mi_X3_otherEnd : Mi yX3_otherEnd cX3_otherEnd 3 (some .int) 2 := ⟨kc_X3_otherEnd, ki_RX3, ⟨by decide +kernel, by decide +kernel⟩, by decide +kernel⟩
theorem in_X3_otherEnd : Cond.instanceMethod yX3_otherEnd ∈ gT := gT_in (inT4 (List.mem_of_getElem? (i := 57) rfl)) rfl
theorem se_X3_otherEnd : Cond.selects RX3 yX3_otherEnd yX3_otherEnd ∈ gT := gT_in (inT4 (List.mem_of_getElem? (i := 58) rfl)) rfl
theorem mi_X3_mayGo : Mi yX3_mayGo cX3_mayGo 4 (some .boolean) 3 := ⟨kc_X3_mayGo, ki_RX3, ⟨by decide +kernel, by decide +kernel⟩, by decide +kernel⟩
theorem in_X3_mayGo : Cond.instanceMethod yX3_mayGo ∈ gT := gT_in (inT4 (List.mem_of_getElem? (i := 6) rfl)) rfl
theorem se_X3_mayGo : Cond.selects RX3 yX3_mayGo yX3_mayGo ∈ gT := gT_in (inT4 (List.mem_of_getElem? (i := 7) rfl)) rfl
theorem mi_X3_wornFrom : Mi yX3_wornFrom cX3_wornFrom 4 (some .int) 3 := ⟨kc_X3_wornFrom, ki_RX3, ⟨by decide +kernel, by decide +kernel⟩, by decide +kernel⟩
theorem in_X3_wornFrom : Cond.instanceMethod yX3_wornFrom ∈ gT := gT_in (inT4 (List.mem_of_getElem? (i := 65) rfl)) rfl
theorem se_X3_wornFrom : Cond.selects RX3 yX3_wornFrom yX3_wornFrom ∈ gT := gT_in (inT4 (List.mem_of_getElem? (i := 66) rfl)) rfl
theorem mi_X3_comingFrom : Mi yX3_comingFrom cX3_comingFrom 8 (some .int) 2 := ⟨kc_X3_comingFrom, ki_RX3, ⟨by decide +kernel, by decide +kernel⟩, by decide +kernel⟩
theorem in_X3_comingFrom : Cond.instanceMethod yX3_comingFrom ∈ gT := gT_in (inT4 (List.mem_of_getElem? (i := 202) rfl)) rfl
theorem se_X3_comingFrom : Cond.selects RX3 yX3_comingFrom yX3_comingFrom ∈ gT := gT_in (inT4 (List.mem_of_getElem? (i := 203) rfl)) rfl
theorem mi_X3_backBehindSeason : Mi yX3_backBehindSeason cX3_backBehindSeason 5 (some .int) 1 := ⟨kc_X3_backBehindSeason, ki_RX3, ⟨by decide +kernel, by decide +kernel⟩, by decide +kernel⟩
theorem in_X3_backBehindSeason : Cond.instanceMethod yX3_backBehindSeason ∈ gT := gT_in (inT4 (List.mem_of_getElem? (i := 115) rfl)) rfl
theorem se_X3_backBehindSeason : Cond.selects RX3 yX3_backBehindSeason yX3_backBehindSeason ∈ gT := gT_in (inT4 (List.mem_of_getElem? (i := 116) rfl)) rfl
theorem mi_X3_backInTheEnd : Mi yX3_backInTheEnd cX3_backInTheEnd 4 (some .int) 1 := ⟨kc_X3_backInTheEnd, ki_RX3, ⟨by decide +kernel, by decide +kernel⟩, by decide +kernel⟩
theorem in_X3_backInTheEnd : Cond.instanceMethod yX3_backInTheEnd ∈ gT := gT_in (inT5 (List.mem_of_getElem? (i := 96) rfl)) rfl
theorem se_X3_backInTheEnd : Cond.selects RX3 yX3_backInTheEnd yX3_backInTheEnd ∈ gT := gT_in (inT5 (List.mem_of_getElem? (i := 97) rfl)) rfl
theorem mi_X4_makeEmpty : Mi yX4_makeEmpty cX4_makeEmpty 1 (none) 0 := ⟨kc_X4_makeEmpty, ki_RX4, ⟨by decide +kernel, by decide +kernel⟩, by decide +kernel⟩
theorem in_X4_makeEmpty : Cond.instanceMethod yX4_makeEmpty ∈ gT := gT_in (inT2 (List.mem_of_getElem? (i := 203) rfl)) rfl
theorem se_X4_makeEmpty : Cond.selects RX4 yX4_makeEmpty yX4_makeEmpty ∈ gT := gT_in (inT2 (List.mem_of_getElem? (i := 204) rfl)) rfl
theorem mi_X4_stepsNow : Mi yX4_stepsNow cX4_stepsNow 1 (some .int) 0 := ⟨kc_X4_stepsNow, ki_RX4, ⟨by decide +kernel, by decide +kernel⟩, by decide +kernel⟩
theorem in_X4_stepsNow : Cond.instanceMethod yX4_stepsNow ∈ gT := gT_in (inT3 (List.mem_of_getElem? (i := 162) rfl)) rfl
theorem se_X4_stepsNow : Cond.selects RX4 yX4_stepsNow yX4_stepsNow ∈ gT := gT_in (inT3 (List.mem_of_getElem? (i := 163) rfl)) rfl
theorem mi_X4_addStep : Mi yX4_addStep cX4_addStep 3 (none) 2 := ⟨kc_X4_addStep, ki_RX4, ⟨by decide +kernel, by decide +kernel⟩, by decide +kernel⟩
theorem in_X4_addStep : Cond.instanceMethod yX4_addStep ∈ gT := gT_in (inT3 (List.mem_of_getElem? (i := 182) rfl)) rfl
theorem se_X4_addStep : Cond.selects RX4 yX4_addStep yX4_addStep ∈ gT := gT_in (inT3 (List.mem_of_getElem? (i := 183) rfl)) rfl
theorem mi_X4_enact : Mi yX4_enact cX4_enact 3 (none) 2 := ⟨kc_X4_enact, ki_RX4, ⟨by decide +kernel, by decide +kernel⟩, by decide +kernel⟩
theorem in_X4_enact : Cond.instanceMethod yX4_enact ∈ gT := gT_in (inT3 (List.mem_of_getElem? (i := 206) rfl)) rfl
theorem se_X4_enact : Cond.selects RX4 yX4_enact yX4_enact ∈ gT := gT_in (inT3 (List.mem_of_getElem? (i := 207) rfl)) rfl
theorem mi_X4_hasLaw : Mi yX4_hasLaw cX4_hasLaw 2 (some .boolean) 1 := ⟨kc_X4_hasLaw, ki_RX4, ⟨by decide +kernel, by decide +kernel⟩, by decide +kernel⟩
theorem in_X4_hasLaw : Cond.instanceMethod yX4_hasLaw ∈ gT := gT_in (inT4 (List.mem_of_getElem? (i := 11) rfl)) rfl
theorem se_X4_hasLaw : Cond.selects RX4 yX4_hasLaw yX4_hasLaw ∈ gT := gT_in (inT4 (List.mem_of_getElem? (i := 12) rfl)) rfl
theorem mi_X4_look : Mi yX4_look cX4_look 7 (none) 6 := ⟨kc_X4_look, ki_RX4, ⟨by decide +kernel, by decide +kernel⟩, by decide +kernel⟩
theorem in_X4_look : Cond.instanceMethod yX4_look ∈ gT := gT_in (inT4 (List.mem_of_getElem? (i := 21) rfl)) rfl
theorem se_X4_look : Cond.selects RX4 yX4_look yX4_look ∈ gT := gT_in (inT4 (List.mem_of_getElem? (i := 22) rfl)) rfl
theorem mi_X4_tell : Mi yX4_tell cX4_tell 9 (some .int) 1 := ⟨kc_X4_tell, ki_RX4, ⟨by decide +kernel, by decide +kernel⟩, by decide +kernel⟩
theorem in_X4_tell : Cond.instanceMethod yX4_tell ∈ gT := gT_in (inT4 (List.mem_of_getElem? (i := 25) rfl)) rfl
theorem se_X4_tell : Cond.selects RX4 yX4_tell yX4_tell ∈ gT := gT_in (inT4 (List.mem_of_getElem? (i := 26) rfl)) rfl
theorem mi_X4_reckon : Mi yX4_reckon cX4_reckon 5 (some .int) 3 := ⟨kc_X4_reckon, ki_RX4, ⟨by decide +kernel, by decide +kernel⟩, by decide +kernel⟩
theorem st_X4_reckon : Cond.static yX4_reckon ∈ gT := gT_in (inT4 (List.mem_of_getElem? (i := 39) rfl)) rfl
theorem mi_X4_compare : Mi yX4_compare cX4_compare 3 (some .int) 3 := ⟨kc_X4_compare, ki_RX4, ⟨by decide +kernel, by decide +kernel⟩, by decide +kernel⟩
theorem st_X4_compare : Cond.static yX4_compare ∈ gT := gT_in (inT4 (List.mem_of_getElem? (i := 46) rfl)) rfl
theorem mi_X4_push : Mi yX4_push cX4_push 2 (none) 1 := ⟨kc_X4_push, ki_RX4, ⟨by decide +kernel, by decide +kernel⟩, by decide +kernel⟩
theorem in_X4_push : Cond.instanceMethod yX4_push ∈ gT := gT_in (inT4 (List.mem_of_getElem? (i := 32) rfl)) rfl
theorem se_X4_push : Cond.selects RX4 yX4_push yX4_push ∈ gT := gT_in (inP (List.mem_of_getElem? (i := 29) rfl)) rfl
theorem mi_X4_pop : Mi yX4_pop cX4_pop 1 (some .int) 0 := ⟨kc_X4_pop, ki_RX4, ⟨by decide +kernel, by decide +kernel⟩, by decide +kernel⟩
theorem in_X4_pop : Cond.instanceMethod yX4_pop ∈ gT := gT_in (inT4 (List.mem_of_getElem? (i := 36) rfl)) rfl
theorem se_X4_pop : Cond.selects RX4 yX4_pop yX4_pop ∈ gT := gT_in (inP (List.mem_of_getElem? (i := 30) rfl)) rfl
theorem mi_X5_aboveAt : Mi yX5_aboveAt cX5_aboveAt 2 (some .int) 1 := ⟨kc_X5_aboveAt, ki_RX5, ⟨by decide +kernel, by decide +kernel⟩, by decide +kernel⟩
theorem in_X5_aboveAt : Cond.instanceMethod yX5_aboveAt ∈ gT := gT_in (inT5 (List.mem_of_getElem? (i := 191) rfl)) rfl
theorem se_X5_aboveAt : Cond.selects RX5 yX5_aboveAt yX5_aboveAt ∈ gT := gT_in (inT5 (List.mem_of_getElem? (i := 192) rfl)) rfl
theorem mi_X5_belowAll : Mi yX5_belowAll cX5_belowAll 1 (some .int) 0 := ⟨kc_X5_belowAll, ki_RX5, ⟨by decide +kernel, by decide +kernel⟩, by decide +kernel⟩
theorem in_X5_belowAll : Cond.instanceMethod yX5_belowAll ∈ gT := gT_in (inT5 (List.mem_of_getElem? (i := 195) rfl)) rfl
theorem se_X5_belowAll : Cond.selects RX5 yX5_belowAll yX5_belowAll ∈ gT := gT_in (inT5 (List.mem_of_getElem? (i := 196) rfl)) rfl
theorem mi_X5_weigh : Mi yX5_weigh cX5_weigh 9 (none) 3 := ⟨kc_X5_weigh, ki_RX5, ⟨by decide +kernel, by decide +kernel⟩, by decide +kernel⟩
theorem in_X5_weigh : Cond.instanceMethod yX5_weigh ∈ gT := gT_in (inT5 (List.mem_of_getElem? (i := 171) rfl)) rfl
theorem se_X5_weigh : Cond.selects RX5 yX5_weigh yX5_weigh ∈ gT := gT_in (inT5 (List.mem_of_getElem? (i := 172) rfl)) rfl
theorem mi_X5_putWhole : Mi yX5_putWhole cX5_putWhole 2 (none) 1 := ⟨kc_X5_putWhole, ki_RX5, ⟨by decide +kernel, by decide +kernel⟩, by decide +kernel⟩
theorem in_X5_putWhole : Cond.instanceMethod yX5_putWhole ∈ gT := gT_in (inT5 (List.mem_of_getElem? (i := 178) rfl)) rfl
theorem se_X5_putWhole : Cond.selects RX5 yX5_putWhole yX5_putWhole ∈ gT := gT_in (inP (List.mem_of_getElem? (i := 53) rfl)) rfl
theorem mi_X5_raise : Mi yX5_raise cX5_raise 3 (none) 2 := ⟨kc_X5_raise, ki_RX5, ⟨by decide +kernel, by decide +kernel⟩, by decide +kernel⟩
theorem in_X5_raise : Cond.instanceMethod yX5_raise ∈ gT := gT_in (inT5 (List.mem_of_getElem? (i := 187) rfl)) rfl
theorem se_X5_raise : Cond.selects RX5 yX5_raise yX5_raise ∈ gT := gT_in (inP (List.mem_of_getElem? (i := 55) rfl)) rfl
theorem mi_X5_throughTo : Mi yX5_throughTo cX5_throughTo 4 (some .int) 3 := ⟨kc_X5_throughTo, ki_RX5, ⟨by decide +kernel, by decide +kernel⟩, by decide +kernel⟩
theorem in_X5_throughTo : Cond.instanceMethod yX5_throughTo ∈ gT := gT_in (inT5 (List.mem_of_getElem? (i := 182) rfl)) rfl
theorem se_X5_throughTo : Cond.selects RX5 yX5_throughTo yX5_throughTo ∈ gT := gT_in (inP (List.mem_of_getElem? (i := 54) rfl)) rfl
theorem mi_X5_firstLikeliest : Mi yX5_firstLikeliest cX5_firstLikeliest 7 (some .int) 3 := ⟨kc_X5_firstLikeliest, ki_RX5, ⟨by decide +kernel, by decide +kernel⟩, by decide +kernel⟩
theorem in_X5_firstLikeliest : Cond.instanceMethod yX5_firstLikeliest ∈ gT := gT_in (inT5 (List.mem_of_getElem? (i := 206) rfl)) rfl
theorem se_X5_firstLikeliest : Cond.selects RX5 yX5_firstLikeliest yX5_firstLikeliest ∈ gT := gT_in (inT5 (List.mem_of_getElem? (i := 207) rfl)) rfl
theorem mi_X5_commonOf : Mi yX5_commonOf cX5_commonOf 6 (some .int) 2 := ⟨kc_X5_commonOf, ki_RX5, ⟨by decide +kernel, by decide +kernel⟩, by decide +kernel⟩
theorem st_X5_commonOf : Cond.static yX5_commonOf ∈ gT := gT_in (inT5 (List.mem_of_getElem? (i := 199) rfl)) rfl
theorem mi_X6_fillingsIn : Mi yX6_fillingsIn cX6_fillingsIn 1 (some .int) 1 := ⟨kc_X6_fillingsIn, ki_RX6, ⟨by decide +kernel, by decide +kernel⟩, by decide +kernel⟩
theorem st_X6_fillingsIn : Cond.static yX6_fillingsIn ∈ gT := gT_in (inT5 (List.mem_of_getElem? (i := 59) rfl)) rfl
theorem mi_X6_lanesIn : Mi yX6_lanesIn cX6_lanesIn 1 (some .int) 1 := ⟨kc_X6_lanesIn, ki_RX6, ⟨by decide +kernel, by decide +kernel⟩, by decide +kernel⟩
theorem st_X6_lanesIn : Cond.static yX6_lanesIn ∈ gT := gT_in (inT5 (List.mem_of_getElem? (i := 62) rfl)) rfl
theorem mi_X6_measureOpen : Mi yX6_measureOpen cX6_measureOpen 4 (none) 2 := ⟨kc_X6_measureOpen, ki_RX6, ⟨by decide +kernel, by decide +kernel⟩, by decide +kernel⟩
theorem in_X6_measureOpen : Cond.instanceMethod yX6_measureOpen ∈ gT := gT_in (inT4 (List.mem_of_getElem? (i := 214) rfl)) rfl
theorem se_X6_measureOpen : Cond.selects RX6 yX6_measureOpen yX6_measureOpen ∈ gT := gT_in (inT4 (List.mem_of_getElem? (i := 215) rfl)) rfl
theorem mi_X6_measureFillings : Mi yX6_measureFillings cX6_measureFillings 3 (none) 2 := ⟨kc_X6_measureFillings, ki_RX6, ⟨by decide +kernel, by decide +kernel⟩, by decide +kernel⟩
theorem in_X6_measureFillings : Cond.instanceMethod yX6_measureFillings ∈ gT := gT_in (inT5 (List.mem_of_getElem? (i := 49) rfl)) rfl
theorem se_X6_measureFillings : Cond.selects RX6 yX6_measureFillings yX6_measureFillings ∈ gT := gT_in (inT5 (List.mem_of_getElem? (i := 50) rfl)) rfl
theorem mi_X6_weighFillings : Mi yX6_weighFillings cX6_weighFillings 4 (none) 1 := ⟨kc_X6_weighFillings, ki_RX6, ⟨by decide +kernel, by decide +kernel⟩, by decide +kernel⟩
theorem in_X6_weighFillings : Cond.instanceMethod yX6_weighFillings ∈ gT := gT_in (inT5 (List.mem_of_getElem? (i := 53) rfl)) rfl
theorem se_X6_weighFillings : Cond.selects RX6 yX6_weighFillings yX6_weighFillings ∈ gT := gT_in (inT5 (List.mem_of_getElem? (i := 54) rfl)) rfl
theorem mi_X6_measure : Mi yX6_measure cX6_measure 5 (none) 2 := ⟨kc_X6_measure, ki_RX6, ⟨by decide +kernel, by decide +kernel⟩, by decide +kernel⟩
theorem in_X6_measure : Cond.instanceMethod yX6_measure ∈ gT := gT_in (inT4 (List.mem_of_getElem? (i := 220) rfl)) rfl
theorem se_X6_measure : Cond.selects RX6 yX6_measure yX6_measure ∈ gT := gT_in (inP (List.mem_of_getElem? (i := 36) rfl)) rfl
theorem mi_X6_relax : Mi yX6_relax cX6_relax 6 (none) 3 := ⟨kc_X6_relax, ki_RX6, ⟨by decide +kernel, by decide +kernel⟩, by decide +kernel⟩
theorem in_X6_relax : Cond.instanceMethod yX6_relax ∈ gT := gT_in (inT4 (List.mem_of_getElem? (i := 229) rfl)) rfl
theorem se_X6_relax : Cond.selects RX6 yX6_relax yX6_relax ∈ gT := gT_in (inP (List.mem_of_getElem? (i := 38) rfl)) rfl
theorem mi_X6_weightOf : Mi yX6_weightOf cX6_weightOf 2 (some .int) 1 := ⟨kc_X6_weightOf, ki_RX6, ⟨by decide +kernel, by decide +kernel⟩, by decide +kernel⟩
theorem in_X6_weightOf : Cond.instanceMethod yX6_weightOf ∈ gT := gT_in (inT4 (List.mem_of_getElem? (i := 225) rfl)) rfl
theorem se_X6_weightOf : Cond.selects RX6 yX6_weightOf yX6_weightOf ∈ gT := gT_in (inP (List.mem_of_getElem? (i := 37) rfl)) rfl
theorem mi_X6_farFrom : Mi yX6_farFrom cX6_farFrom 2 (some .int) 1 := ⟨kc_X6_farFrom, ki_RX6, ⟨by decide +kernel, by decide +kernel⟩, by decide +kernel⟩
theorem in_X6_farFrom : Cond.instanceMethod yX6_farFrom ∈ gT := gT_in (inT4 (List.mem_of_getElem? (i := 232) rfl)) rfl
theorem se_X6_farFrom : Cond.selects RX6 yX6_farFrom yX6_farFrom ∈ gT := gT_in (inT4 (List.mem_of_getElem? (i := 233) rfl)) rfl
theorem mi_X6_laneOnWay : Mi yX6_laneOnWay cX6_laneOnWay 7 (some .int) 3 := ⟨kc_X6_laneOnWay, ki_RX6, ⟨by decide +kernel, by decide +kernel⟩, by decide +kernel⟩
theorem in_X6_laneOnWay : Cond.instanceMethod yX6_laneOnWay ∈ gT := gT_in (inT5 (List.mem_of_getElem? (i := 31) rfl)) rfl
theorem se_X6_laneOnWay : Cond.selects RX6 yX6_laneOnWay yX6_laneOnWay ∈ gT := gT_in (inT5 (List.mem_of_getElem? (i := 32) rfl)) rfl
theorem mi_X6_firstOnward : Mi yX6_firstOnward cX6_firstOnward 7 (some .int) 2 := ⟨kc_X6_firstOnward, ki_RX6, ⟨by decide +kernel, by decide +kernel⟩, by decide +kernel⟩
theorem in_X6_firstOnward : Cond.instanceMethod yX6_firstOnward ∈ gT := gT_in (inT5 (List.mem_of_getElem? (i := 36) rfl)) rfl
theorem se_X6_firstOnward : Cond.selects RX6 yX6_firstOnward yX6_firstOnward ∈ gT := gT_in (inP (List.mem_of_getElem? (i := 43) rfl)) rfl
theorem mi_X6_weightOfAll : Mi yX6_weightOfAll cX6_weightOfAll 6 (some .int) 2 := ⟨kc_X6_weightOfAll, ki_RX6, ⟨by decide +kernel, by decide +kernel⟩, by decide +kernel⟩
theorem in_X6_weightOfAll : Cond.instanceMethod yX6_weightOfAll ∈ gT := gT_in (inT5 (List.mem_of_getElem? (i := 78) rfl)) rfl
theorem se_X6_weightOfAll : Cond.selects RX6 yX6_weightOfAll yX6_weightOfAll ∈ gT := gT_in (inT5 (List.mem_of_getElem? (i := 79) rfl)) rfl
theorem mi_X6_leastJoining : Mi yX6_leastJoining cX6_leastJoining 8 (some .int) 1 := ⟨kc_X6_leastJoining, ki_RX6, ⟨by decide +kernel, by decide +kernel⟩, by decide +kernel⟩
theorem in_X6_leastJoining : Cond.instanceMethod yX6_leastJoining ∈ gT := gT_in (inT5 (List.mem_of_getElem? (i := 74) rfl)) rfl
theorem se_X6_leastJoining : Cond.selects RX6 yX6_leastJoining yX6_leastJoining ∈ gT := gT_in (inT5 (List.mem_of_getElem? (i := 75) rfl)) rfl
theorem mi_X7_readInto : Mi yX7_readInto cX7_readInto 6 (some .int) 3 := ⟨kc_X7_readInto, ki_RX7, ⟨by decide +kernel, by decide +kernel⟩, by decide +kernel⟩
theorem in_X7_readInto : Cond.instanceMethod yX7_readInto ∈ gT := gT_in (inT2 (List.mem_of_getElem? (i := 192) rfl)) rfl
theorem se_X7_readInto : Cond.selects RX7 yX7_readInto yX7_readInto ∈ gT := gT_in (inT2 (List.mem_of_getElem? (i := 193) rfl)) rfl
theorem mi_X7_placeOfFault : Mi yX7_placeOfFault cX7_placeOfFault 1 (some .int) 0 := ⟨kc_X7_placeOfFault, ki_RX7, ⟨by decide +kernel, by decide +kernel⟩, by decide +kernel⟩
theorem in_X7_placeOfFault : Cond.instanceMethod yX7_placeOfFault ∈ gT := gT_in (inT3 (List.mem_of_getElem? (i := 214) rfl)) rfl
theorem se_X7_placeOfFault : Cond.selects RX7 yX7_placeOfFault yX7_placeOfFault ∈ gT := gT_in (inT3 (List.mem_of_getElem? (i := 215) rfl)) rfl
theorem mi_X7_refuse : Mi yX7_refuse cX7_refuse 2 (some .boolean) 1 := ⟨kc_X7_refuse, ki_RX7, ⟨by decide +kernel, by decide +kernel⟩, by decide +kernel⟩
theorem in_X7_refuse : Cond.instanceMethod yX7_refuse ∈ gT := gT_in (inT3 (List.mem_of_getElem? (i := 122) rfl)) rfl
theorem se_X7_refuse : Cond.selects RX7 yX7_refuse yX7_refuse ∈ gT := gT_in (inP (List.mem_of_getElem? (i := 9) rfl)) rfl
theorem mi_X7_take : Mi yX7_take cX7_take 2 (some .boolean) 1 := ⟨kc_X7_take, ki_RX7, ⟨by decide +kernel, by decide +kernel⟩, by decide +kernel⟩
theorem in_X7_take : Cond.instanceMethod yX7_take ∈ gT := gT_in (inT3 (List.mem_of_getElem? (i := 118) rfl)) rfl
theorem se_X7_take : Cond.selects RX7 yX7_take yX7_take ∈ gT := gT_in (inP (List.mem_of_getElem? (i := 8) rfl)) rfl
theorem mi_X7_takeNumber : Mi yX7_takeNumber cX7_takeNumber 4 (some .boolean) 3 := ⟨kc_X7_takeNumber, ki_RX7, ⟨by decide +kernel, by decide +kernel⟩, by decide +kernel⟩
theorem in_X7_takeNumber : Cond.instanceMethod yX7_takeNumber ∈ gT := gT_in (inT3 (List.mem_of_getElem? (i := 127) rfl)) rfl
theorem se_X7_takeNumber : Cond.selects RX7 yX7_takeNumber yX7_takeNumber ∈ gT := gT_in (inP (List.mem_of_getElem? (i := 10) rfl)) rfl
theorem mi_X7_takeLineEnd : Mi yX7_takeLineEnd cX7_takeLineEnd 1 (some .boolean) 0 := ⟨kc_X7_takeLineEnd, ki_RX7, ⟨by decide +kernel, by decide +kernel⟩, by decide +kernel⟩
theorem in_X7_takeLineEnd : Cond.instanceMethod yX7_takeLineEnd ∈ gT := gT_in (inT3 (List.mem_of_getElem? (i := 131) rfl)) rfl
theorem se_X7_takeLineEnd : Cond.selects RX7 yX7_takeLineEnd yX7_takeLineEnd ∈ gT := gT_in (inP (List.mem_of_getElem? (i := 11) rfl)) rfl
theorem mi_X7_readLandLine : Mi yX7_readLandLine cX7_readLandLine 1 (some .boolean) 0 := ⟨kc_X7_readLandLine, ki_RX7, ⟨by decide +kernel, by decide +kernel⟩, by decide +kernel⟩
theorem in_X7_readLandLine : Cond.instanceMethod yX7_readLandLine ∈ gT := gT_in (inT3 (List.mem_of_getElem? (i := 114) rfl)) rfl
theorem se_X7_readLandLine : Cond.selects RX7 yX7_readLandLine yX7_readLandLine ∈ gT := gT_in (inP (List.mem_of_getElem? (i := 7) rfl)) rfl
theorem mi_X7_readLine : Mi yX7_readLine cX7_readLine 1 (some .boolean) 0 := ⟨kc_X7_readLine, ki_RX7, ⟨by decide +kernel, by decide +kernel⟩, by decide +kernel⟩
theorem in_X7_readLine : Cond.instanceMethod yX7_readLine ∈ gT := gT_in (inT3 (List.mem_of_getElem? (i := 135) rfl)) rfl
theorem se_X7_readLine : Cond.selects RX7 yX7_readLine yX7_readLine ∈ gT := gT_in (inP (List.mem_of_getElem? (i := 12) rfl)) rfl
theorem mi_X7_readLane : Mi yX7_readLane cX7_readLane 3 (some .boolean) 0 := ⟨kc_X7_readLane, ki_RX7, ⟨by decide +kernel, by decide +kernel⟩, by decide +kernel⟩
theorem in_X7_readLane : Cond.instanceMethod yX7_readLane ∈ gT := gT_in (inT3 (List.mem_of_getElem? (i := 139) rfl)) rfl
theorem se_X7_readLane : Cond.selects RX7 yX7_readLane yX7_readLane ∈ gT := gT_in (inP (List.mem_of_getElem? (i := 13) rfl)) rfl
theorem mi_X7_readFlag : Mi yX7_readFlag cX7_readFlag 4 (some .boolean) 1 := ⟨kc_X7_readFlag, ki_RX7, ⟨by decide +kernel, by decide +kernel⟩, by decide +kernel⟩
theorem in_X7_readFlag : Cond.instanceMethod yX7_readFlag ∈ gT := gT_in (inT3 (List.mem_of_getElem? (i := 143) rfl)) rfl
theorem se_X7_readFlag : Cond.selects RX7 yX7_readFlag yX7_readFlag ∈ gT := gT_in (inP (List.mem_of_getElem? (i := 14) rfl)) rfl
theorem mi_X7_readCart : Mi yX7_readCart cX7_readCart 1 (some .boolean) 0 := ⟨kc_X7_readCart, ki_RX7, ⟨by decide +kernel, by decide +kernel⟩, by decide +kernel⟩
theorem in_X7_readCart : Cond.instanceMethod yX7_readCart ∈ gT := gT_in (inT3 (List.mem_of_getElem? (i := 147) rfl)) rfl
theorem se_X7_readCart : Cond.selects RX7 yX7_readCart yX7_readCart ∈ gT := gT_in (inP (List.mem_of_getElem? (i := 15) rfl)) rfl
theorem mi_X7_readPerson : Mi yX7_readPerson cX7_readPerson 3 (some .boolean) 0 := ⟨kc_X7_readPerson, ki_RX7, ⟨by decide +kernel, by decide +kernel⟩, by decide +kernel⟩
theorem in_X7_readPerson : Cond.instanceMethod yX7_readPerson ∈ gT := gT_in (inT3 (List.mem_of_getElem? (i := 151) rfl)) rfl
theorem se_X7_readPerson : Cond.selects RX7 yX7_readPerson yX7_readPerson ∈ gT := gT_in (inP (List.mem_of_getElem? (i := 16) rfl)) rfl
theorem mi_X7_readRain : Mi yX7_readRain cX7_readRain 1 (some .boolean) 0 := ⟨kc_X7_readRain, ki_RX7, ⟨by decide +kernel, by decide +kernel⟩, by decide +kernel⟩
theorem in_X7_readRain : Cond.instanceMethod yX7_readRain ∈ gT := gT_in (inT3 (List.mem_of_getElem? (i := 155) rfl)) rfl
theorem se_X7_readRain : Cond.selects RX7 yX7_readRain yX7_readRain ∈ gT := gT_in (inP (List.mem_of_getElem? (i := 17) rfl)) rfl
theorem mi_X7_readWears : Mi yX7_readWears cX7_readWears 2 (some .boolean) 0 := ⟨kc_X7_readWears, ki_RX7, ⟨by decide +kernel, by decide +kernel⟩, by decide +kernel⟩
theorem in_X7_readWears : Cond.instanceMethod yX7_readWears ∈ gT := gT_in (inT3 (List.mem_of_getElem? (i := 159) rfl)) rfl
theorem se_X7_readWears : Cond.selects RX7 yX7_readWears yX7_readWears ∈ gT := gT_in (inP (List.mem_of_getElem? (i := 18) rfl)) rfl
theorem mi_X7_readMay : Mi yX7_readMay cX7_readMay 2 (some .boolean) 0 := ⟨kc_X7_readMay, ki_RX7, ⟨by decide +kernel, by decide +kernel⟩, by decide +kernel⟩
theorem in_X7_readMay : Cond.instanceMethod yX7_readMay ∈ gT := gT_in (inT3 (List.mem_of_getElem? (i := 211) rfl)) rfl
theorem se_X7_readMay : Cond.selects RX7 yX7_readMay yX7_readMay ∈ gT := gT_in (inP (List.mem_of_getElem? (i := 28) rfl)) rfl
theorem mi_X7_takeOpening : Mi yX7_takeOpening cX7_takeOpening 2 (some .boolean) 1 := ⟨kc_X7_takeOpening, ki_RX7, ⟨by decide +kernel, by decide +kernel⟩, by decide +kernel⟩
theorem in_X7_takeOpening : Cond.instanceMethod yX7_takeOpening ∈ gT := gT_in (inT3 (List.mem_of_getElem? (i := 187) rfl)) rfl
theorem se_X7_takeOpening : Cond.selects RX7 yX7_takeOpening yX7_takeOpening ∈ gT := gT_in (inP (List.mem_of_getElem? (i := 23) rfl)) rfl
theorem mi_X7_readTruth : Mi yX7_readTruth cX7_readTruth 4 (some .boolean) 1 := ⟨kc_X7_readTruth, ki_RX7, ⟨by decide +kernel, by decide +kernel⟩, by decide +kernel⟩
theorem in_X7_readTruth : Cond.instanceMethod yX7_readTruth ∈ gT := gT_in (inT3 (List.mem_of_getElem? (i := 195) rfl)) rfl
theorem se_X7_readTruth : Cond.selects RX7 yX7_readTruth yX7_readTruth ∈ gT := gT_in (inP (List.mem_of_getElem? (i := 25) rfl)) rfl
theorem mi_X7_readBoth : Mi yX7_readBoth cX7_readBoth 4 (some .boolean) 1 := ⟨kc_X7_readBoth, ki_RX7, ⟨by decide +kernel, by decide +kernel⟩, by decide +kernel⟩
theorem in_X7_readBoth : Cond.instanceMethod yX7_readBoth ∈ gT := gT_in (inT3 (List.mem_of_getElem? (i := 199) rfl)) rfl
theorem se_X7_readBoth : Cond.selects RX7 yX7_readBoth yX7_readBoth ∈ gT := gT_in (inP (List.mem_of_getElem? (i := 26) rfl)) rfl
theorem mi_X7_readUnit : Mi yX7_readUnit cX7_readUnit 4 (some .boolean) 1 := ⟨kc_X7_readUnit, ki_RX7, ⟨by decide +kernel, by decide +kernel⟩, by decide +kernel⟩
theorem in_X7_readUnit : Cond.instanceMethod yX7_readUnit ∈ gT := gT_in (inT3 (List.mem_of_getElem? (i := 203) rfl)) rfl
theorem se_X7_readUnit : Cond.selects RX7 yX7_readUnit yX7_readUnit ∈ gT := gT_in (inP (List.mem_of_getElem? (i := 27) rfl)) rfl
theorem mi_X7_readSum : Mi yX7_readSum cX7_readSum 5 (some .boolean) 1 := ⟨kc_X7_readSum, ki_RX7, ⟨by decide +kernel, by decide +kernel⟩, by decide +kernel⟩
theorem in_X7_readSum : Cond.instanceMethod yX7_readSum ∈ gT := gT_in (inT3 (List.mem_of_getElem? (i := 167) rfl)) rfl
theorem se_X7_readSum : Cond.selects RX7 yX7_readSum yX7_readSum ∈ gT := gT_in (inP (List.mem_of_getElem? (i := 19) rfl)) rfl
theorem mi_X7_readTerm : Mi yX7_readTerm cX7_readTerm 4 (some .boolean) 1 := ⟨kc_X7_readTerm, ki_RX7, ⟨by decide +kernel, by decide +kernel⟩, by decide +kernel⟩
theorem in_X7_readTerm : Cond.instanceMethod yX7_readTerm ∈ gT := gT_in (inT3 (List.mem_of_getElem? (i := 171) rfl)) rfl
theorem se_X7_readTerm : Cond.selects RX7 yX7_readTerm yX7_readTerm ∈ gT := gT_in (inP (List.mem_of_getElem? (i := 20) rfl)) rfl
theorem mi_X7_readAtom : Mi yX7_readAtom cX7_readAtom 2 (some .boolean) 1 := ⟨kc_X7_readAtom, ki_RX7, ⟨by decide +kernel, by decide +kernel⟩, by decide +kernel⟩
theorem in_X7_readAtom : Cond.instanceMethod yX7_readAtom ∈ gT := gT_in (inT3 (List.mem_of_getElem? (i := 175) rfl)) rfl
theorem se_X7_readAtom : Cond.selects RX7 yX7_readAtom yX7_readAtom ∈ gT := gT_in (inP (List.mem_of_getElem? (i := 21) rfl)) rfl
theorem mi_X7_addAtom : Mi yX7_addAtom cX7_addAtom 3 (some .boolean) 2 := ⟨kc_X7_addAtom, ki_RX7, ⟨by decide +kernel, by decide +kernel⟩, by decide +kernel⟩
theorem in_X7_addAtom : Cond.instanceMethod yX7_addAtom ∈ gT := gT_in (inT3 (List.mem_of_getElem? (i := 179) rfl)) rfl
theorem se_X7_addAtom : Cond.selects RX7 yX7_addAtom yX7_addAtom ∈ gT := gT_in (inP (List.mem_of_getElem? (i := 22) rfl)) rfl
theorem mi_X7_readIf : Mi yX7_readIf cX7_readIf 3 (some .boolean) 1 := ⟨kc_X7_readIf, ki_RX7, ⟨by decide +kernel, by decide +kernel⟩, by decide +kernel⟩
theorem in_X7_readIf : Cond.instanceMethod yX7_readIf ∈ gT := gT_in (inT3 (List.mem_of_getElem? (i := 191) rfl)) rfl
theorem se_X7_readIf : Cond.selects RX7 yX7_readIf yX7_readIf ∈ gT := gT_in (inP (List.mem_of_getElem? (i := 24) rfl)) rfl
theorem mi_X8_countRows : Mi yX8_countRows cX8_countRows 7 (some .int) 4 := ⟨kc_X8_countRows, ki_RX8, ⟨by decide +kernel, by decide +kernel⟩, by decide +kernel⟩
theorem in_X8_countRows : Cond.instanceMethod yX8_countRows ∈ gT := gT_in (inT5 (List.mem_of_getElem? (i := 1) rfl)) rfl
theorem se_X8_countRows : Cond.selects RX8 yX8_countRows yX8_countRows ∈ gT := gT_in (inT5 (List.mem_of_getElem? (i := 2) rfl)) rfl
theorem mi_X8_rowsFrom : Mi yX8_rowsFrom cX8_rowsFrom 8 (some .int) 2 := ⟨kc_X8_rowsFrom, ki_RX8, ⟨by decide +kernel, by decide +kernel⟩, by decide +kernel⟩
theorem in_X8_rowsFrom : Cond.instanceMethod yX8_rowsFrom ∈ gT := gT_in (inT5 (List.mem_of_getElem? (i := 9) rfl)) rfl
theorem se_X8_rowsFrom : Cond.selects RX8 yX8_rowsFrom yX8_rowsFrom ∈ gT := gT_in (inP (List.mem_of_getElem? (i := 39) rfl)) rfl
theorem mi_X8_pairsFrom : Mi yX8_pairsFrom cX8_pairsFrom 5 (some .int) 1 := ⟨kc_X8_pairsFrom, ki_RX8, ⟨by decide +kernel, by decide +kernel⟩, by decide +kernel⟩
theorem in_X8_pairsFrom : Cond.instanceMethod yX8_pairsFrom ∈ gT := gT_in (inT5 (List.mem_of_getElem? (i := 14) rfl)) rfl
theorem se_X8_pairsFrom : Cond.selects RX8 yX8_pairsFrom yX8_pairsFrom ∈ gT := gT_in (inP (List.mem_of_getElem? (i := 40) rfl)) rfl
theorem mi_X8_isOpenAt : Mi yX8_isOpenAt cX8_isOpenAt 4 (some .boolean) 2 := ⟨kc_X8_isOpenAt, ki_RX8, ⟨by decide +kernel, by decide +kernel⟩, by decide +kernel⟩
theorem in_X8_isOpenAt : Cond.instanceMethod yX8_isOpenAt ∈ gT := gT_in (inT5 (List.mem_of_getElem? (i := 20) rfl)) rfl
theorem se_X8_isOpenAt : Cond.selects RX8 yX8_isOpenAt yX8_isOpenAt ∈ gT := gT_in (inP (List.mem_of_getElem? (i := 41) rfl)) rfl
theorem mi_X8_depthBehind : Mi yX8_depthBehind cX8_depthBehind 4 (some .int) 2 := ⟨kc_X8_depthBehind, ki_RX8, ⟨by decide +kernel, by decide +kernel⟩, by decide +kernel⟩
theorem in_X8_depthBehind : Cond.instanceMethod yX8_depthBehind ∈ gT := gT_in (inT5 (List.mem_of_getElem? (i := 24) rfl)) rfl
theorem se_X8_depthBehind : Cond.selects RX8 yX8_depthBehind yX8_depthBehind ∈ gT := gT_in (inP (List.mem_of_getElem? (i := 42) rfl)) rfl
theorem mi_X9_begin : Mi yX9_begin cX9_begin 6 (none) 2 := ⟨kc_X9_begin, ki_RX9, ⟨by decide +kernel, by decide +kernel⟩, by decide +kernel⟩
theorem in_X9_begin : Cond.instanceMethod yX9_begin ∈ gT := gT_in (inT2 (List.mem_of_getElem? (i := 208) rfl)) rfl
theorem se_X9_begin : Cond.selects RX9 yX9_begin yX9_begin ∈ gT := gT_in (inT2 (List.mem_of_getElem? (i := 209) rfl)) rfl
theorem mi_X9_advance : Mi yX9_advance cX9_advance 1 (none) 0 := ⟨kc_X9_advance, ki_RX9, ⟨by decide +kernel, by decide +kernel⟩, by decide +kernel⟩
theorem in_X9_advance : Cond.instanceMethod yX9_advance ∈ gT := gT_in (inT3 (List.mem_of_getElem? (i := 109) rfl)) rfl
theorem se_X9_advance : Cond.selects RX9 yX9_advance yX9_advance ∈ gT := gT_in (inT3 (List.mem_of_getElem? (i := 110) rfl)) rfl
theorem mi_X9_keep : Mi yX9_keep cX9_keep 4 (none) 3 := ⟨kc_X9_keep, ki_RX9, ⟨by decide +kernel, by decide +kernel⟩, by decide +kernel⟩
theorem in_X9_keep : Cond.instanceMethod yX9_keep ∈ gT := gT_in (inT3 (List.mem_of_getElem? (i := 43) rfl)) rfl
theorem se_X9_keep : Cond.selects RX9 yX9_keep yX9_keep ∈ gT := gT_in (inP (List.mem_of_getElem? (i := 5) rfl)) rfl
theorem mi_X9_takeWord : Mi yX9_takeWord cX9_takeWord 7 (some .int) 1 := ⟨kc_X9_takeWord, ki_RX9, ⟨by decide +kernel, by decide +kernel⟩, by decide +kernel⟩
theorem in_X9_takeWord : Cond.instanceMethod yX9_takeWord ∈ gT := gT_in (inT2 (List.mem_of_getElem? (i := 223) rfl)) rfl
theorem se_X9_takeWord : Cond.selects RX9 yX9_takeWord yX9_takeWord ∈ gT := gT_in (inP (List.mem_of_getElem? (i := 3) rfl)) rfl
theorem mi_X9_isSame : Mi yX9_isSame cX9_isSame 5 (some .boolean) 3 := ⟨kc_X9_isSame, ki_RX9, ⟨by decide +kernel, by decide +kernel⟩, by decide +kernel⟩
theorem in_X9_isSame : Cond.instanceMethod yX9_isSame ∈ gT := gT_in (inT3 (List.mem_of_getElem? (i := 36) rfl)) rfl
theorem se_X9_isSame : Cond.selects RX9 yX9_isSame yX9_isSame ∈ gT := gT_in (inP (List.mem_of_getElem? (i := 4) rfl)) rfl
theorem mi_X9_takeDigits : Mi yX9_takeDigits cX9_takeDigits 5 (some .int) 1 := ⟨kc_X9_takeDigits, ki_RX9, ⟨by decide +kernel, by decide +kernel⟩, by decide +kernel⟩
theorem in_X9_takeDigits : Cond.instanceMethod yX9_takeDigits ∈ gT := gT_in (inT3 (List.mem_of_getElem? (i := 50) rfl)) rfl
theorem se_X9_takeDigits : Cond.selects RX9 yX9_takeDigits yX9_takeDigits ∈ gT := gT_in (inP (List.mem_of_getElem? (i := 6) rfl)) rfl
theorem mi_X9_byteAt : Mi yX9_byteAt cX9_byteAt 2 (some .int) 1 := ⟨kc_X9_byteAt, ki_RX9, ⟨by decide +kernel, by decide +kernel⟩, by decide +kernel⟩
theorem in_X9_byteAt : Cond.instanceMethod yX9_byteAt ∈ gT := gT_in (inT2 (List.mem_of_getElem? (i := 216) rfl)) rfl
theorem se_X9_byteAt : Cond.selects RX9 yX9_byteAt yX9_byteAt ∈ gT := gT_in (inP (List.mem_of_getElem? (i := 2) rfl)) rfl
theorem mi_X9_isLetter : Mi yX9_isLetter cX9_isLetter 1 (some .boolean) 1 := ⟨kc_X9_isLetter, ki_RX9, ⟨by decide +kernel, by decide +kernel⟩, by decide +kernel⟩
theorem st_X9_isLetter : Cond.static yX9_isLetter ∈ gT := gT_in (inT2 (List.mem_of_getElem? (i := 219) rfl)) rfl
theorem mi_X9_isDigit : Mi yX9_isDigit cX9_isDigit 1 (some .boolean) 1 := ⟨kc_X9_isDigit, ki_RX9, ⟨by decide +kernel, by decide +kernel⟩, by decide +kernel⟩
theorem st_X9_isDigit : Cond.static yX9_isDigit ∈ gT := gT_in (inT3 (List.mem_of_getElem? (i := 46) rfl)) rfl
theorem mi_X10_makeNew : Mi yX10_makeNew cX10_makeNew 3 (none) 2 := ⟨kc_X10_makeNew, ki_RX10, ⟨by decide +kernel, by decide +kernel⟩, by decide +kernel⟩
theorem in_X10_makeNew : Cond.instanceMethod yX10_makeNew ∈ gT := gT_in (inT5 (List.mem_of_getElem? (i := 218) rfl)) rfl
theorem se_X10_makeNew : Cond.selects RX10 yX10_makeNew yX10_makeNew ∈ gT := gT_in (inT5 (List.mem_of_getElem? (i := 219) rfl)) rfl
theorem mi_X10_numberAt : Mi yX10_numberAt cX10_numberAt 2 (some .long) 1 := ⟨kc_X10_numberAt, ki_RX10, ⟨by decide +kernel, by decide +kernel⟩, by decide +kernel⟩
theorem in_X10_numberAt : Cond.instanceMethod yX10_numberAt ∈ gT := gT_in (inT4 (List.mem_of_getElem? (i := 171) rfl)) rfl
theorem se_X10_numberAt : Cond.selects RX10 yX10_numberAt yX10_numberAt ∈ gT := gT_in (inT4 (List.mem_of_getElem? (i := 172) rfl)) rfl
theorem mi_X10_put : Mi yX10_put cX10_put 4 (none) 2 := ⟨kc_X10_put, ki_RX10, ⟨by decide +kernel, by decide +kernel⟩, by decide +kernel⟩
theorem in_X10_put : Cond.instanceMethod yX10_put ∈ gT := gT_in (inT5 (List.mem_of_getElem? (i := 232) rfl)) rfl
theorem se_X10_put : Cond.selects RX10 yX10_put yX10_put ∈ gT := gT_in (inT5 (List.mem_of_getElem? (i := 233) rfl)) rfl
theorem mi_X10_cutToSort : Mi yX10_cutToSort cX10_cutToSort 3 (some .long) 1 := ⟨kc_X10_cutToSort, ki_RX10, ⟨by decide +kernel, by decide +kernel⟩, by decide +kernel⟩
theorem in_X10_cutToSort : Cond.instanceMethod yX10_cutToSort ∈ gT := gT_in (inT5 (List.mem_of_getElem? (i := 237) rfl)) rfl
theorem se_X10_cutToSort : Cond.selects RX10 yX10_cutToSort yX10_cutToSort ∈ gT := gT_in (inP (List.mem_of_getElem? (i := 56) rfl)) rfl
theorem mi_X11_feed : Mi yX11_feed cX11_feed 6 (some .int) 5 := ⟨kc_X11_feed, ki_RX11, ⟨by decide +kernel, by decide +kernel⟩, by decide +kernel⟩
theorem in_X11_feed : Cond.instanceMethod yX11_feed ∈ gT := gT_in (inT2 (List.mem_of_getElem? (i := 176) rfl)) rfl
theorem se_X11_feed : Cond.selects RX11 yX11_feed yX11_feed ∈ gT := gT_in (inT2 (List.mem_of_getElem? (i := 177) rfl)) rfl
theorem mi_X11_putOnTape : Mi yX11_putOnTape cX11_putOnTape 3 (none) 1 := ⟨kc_X11_putOnTape, ki_RX11, ⟨by decide +kernel, by decide +kernel⟩, by decide +kernel⟩
theorem in_X11_putOnTape : Cond.instanceMethod yX11_putOnTape ∈ gT := gT_in (inT2 (List.mem_of_getElem? (i := 181) rfl)) rfl
theorem se_X11_putOnTape : Cond.selects RX11 yX11_putOnTape yX11_putOnTape ∈ gT := gT_in (inP (List.mem_of_getElem? (i := 0) rfl)) rfl
theorem mi_X11_land : Mi yX11_land cX11_land 3 (some .int) 1 := ⟨kc_X11_land, ki_RX11, ⟨by decide +kernel, by decide +kernel⟩, by decide +kernel⟩
theorem in_X11_land : Cond.instanceMethod yX11_land ∈ gT := gT_in (inT2 (List.mem_of_getElem? (i := 184) rfl)) rfl
theorem se_X11_land : Cond.selects RX11 yX11_land yX11_land ∈ gT := gT_in (inT2 (List.mem_of_getElem? (i := 185) rfl)) rfl
theorem mi_X11_spareLand : Mi yX11_spareLand cX11_spareLand 5 (some (.object "RutWays$Land")) 0 := ⟨kc_X11_spareLand, ki_RX11, ⟨by decide +kernel, by decide +kernel⟩, by decide +kernel⟩
theorem in_X11_spareLand : Cond.instanceMethod yX11_spareLand ∈ gT := gT_in (inT2 (List.mem_of_getElem? (i := 189) rfl)) rfl
theorem se_X11_spareLand : Cond.selects RX11 yX11_spareLand yX11_spareLand ∈ gT := gT_in (inP (List.mem_of_getElem? (i := 1) rfl)) rfl
theorem mi_X11_fault : Mi yX11_fault cX11_fault 2 (some .int) 1 := ⟨kc_X11_fault, ki_RX11, ⟨by decide +kernel, by decide +kernel⟩, by decide +kernel⟩
theorem in_X11_fault : Cond.instanceMethod yX11_fault ∈ gT := gT_in (inT3 (List.mem_of_getElem? (i := 229) rfl)) rfl
theorem se_X11_fault : Cond.selects RX11 yX11_fault yX11_fault ∈ gT := gT_in (inT3 (List.mem_of_getElem? (i := 230) rfl)) rfl
theorem mi_X11_lane : Mi yX11_lane cX11_lane 3 (some .int) 2 := ⟨kc_X11_lane, ki_RX11, ⟨by decide +kernel, by decide +kernel⟩, by decide +kernel⟩
theorem in_X11_lane : Cond.instanceMethod yX11_lane ∈ gT := gT_in (inT3 (List.mem_of_getElem? (i := 233) rfl)) rfl
theorem se_X11_lane : Cond.selects RX11 yX11_lane yX11_lane ∈ gT := gT_in (inT3 (List.mem_of_getElem? (i := 234) rfl)) rfl
theorem mi_X11_why : Mi yX11_why cX11_why 2 (some .int) 1 := ⟨kc_X11_why, ki_RX11, ⟨by decide +kernel, by decide +kernel⟩, by decide +kernel⟩
theorem in_X11_why : Cond.instanceMethod yX11_why ∈ gT := gT_in (inT4 (List.mem_of_getElem? (i := 49) rfl)) rfl
theorem se_X11_why : Cond.selects RX11 yX11_why yX11_why ∈ gT := gT_in (inT4 (List.mem_of_getElem? (i := 50) rfl)) rfl
theorem mi_X11_worn : Mi yX11_worn cX11_worn 2 (some .int) 1 := ⟨kc_X11_worn, ki_RX11, ⟨by decide +kernel, by decide +kernel⟩, by decide +kernel⟩
theorem in_X11_worn : Cond.instanceMethod yX11_worn ∈ gT := gT_in (inT4 (List.mem_of_getElem? (i := 61) rfl)) rfl
theorem se_X11_worn : Cond.selects RX11 yX11_worn yX11_worn ∈ gT := gT_in (inT4 (List.mem_of_getElem? (i := 62) rfl)) rfl
theorem mi_X11_fillings : Mi yX11_fillings cX11_fillings 2 (some .int) 1 := ⟨kc_X11_fillings, ki_RX11, ⟨by decide +kernel, by decide +kernel⟩, by decide +kernel⟩
theorem in_X11_fillings : Cond.instanceMethod yX11_fillings ∈ gT := gT_in (inT4 (List.mem_of_getElem? (i := 71) rfl)) rfl
theorem se_X11_fillings : Cond.selects RX11 yX11_fillings yX11_fillings ∈ gT := gT_in (inT4 (List.mem_of_getElem? (i := 72) rfl)) rfl
theorem mi_X11_go : Mi yX11_go cX11_go 3 (some .int) 1 := ⟨kc_X11_go, ki_RX11, ⟨by decide +kernel, by decide +kernel⟩, by decide +kernel⟩
theorem in_X11_go : Cond.instanceMethod yX11_go ∈ gT := gT_in (inT4 (List.mem_of_getElem? (i := 83) rfl)) rfl
theorem se_X11_go : Cond.selects RX11 yX11_go yX11_go ∈ gT := gT_in (inT4 (List.mem_of_getElem? (i := 84) rfl)) rfl
theorem mi_X11_fill : Mi yX11_fill cX11_fill 3 (some .int) 1 := ⟨kc_X11_fill, ki_RX11, ⟨by decide +kernel, by decide +kernel⟩, by decide +kernel⟩
theorem in_X11_fill : Cond.instanceMethod yX11_fill ∈ gT := gT_in (inT4 (List.mem_of_getElem? (i := 125) rfl)) rfl
theorem se_X11_fill : Cond.selects RX11 yX11_fill yX11_fill ∈ gT := gT_in (inT4 (List.mem_of_getElem? (i := 126) rfl)) rfl
theorem mi_X11_dig : Mi yX11_dig cX11_dig 3 (some .int) 1 := ⟨kc_X11_dig, ki_RX11, ⟨by decide +kernel, by decide +kernel⟩, by decide +kernel⟩
theorem in_X11_dig : Cond.instanceMethod yX11_dig ∈ gT := gT_in (inT4 (List.mem_of_getElem? (i := 130) rfl)) rfl
theorem se_X11_dig : Cond.selects RX11 yX11_dig yX11_dig ∈ gT := gT_in (inT4 (List.mem_of_getElem? (i := 131) rfl)) rfl
theorem mi_X11_turn : Mi yX11_turn cX11_turn 3 (some .int) 1 := ⟨kc_X11_turn, ki_RX11, ⟨by decide +kernel, by decide +kernel⟩, by decide +kernel⟩
theorem in_X11_turn : Cond.instanceMethod yX11_turn ∈ gT := gT_in (inT4 (List.mem_of_getElem? (i := 134) rfl)) rfl
theorem se_X11_turn : Cond.selects RX11 yX11_turn yX11_turn ∈ gT := gT_in (inT4 (List.mem_of_getElem? (i := 135) rfl)) rfl
theorem mi_X11_seasons : Mi yX11_seasons cX11_seasons 3 (some .int) 1 := ⟨kc_X11_seasons, ki_RX11, ⟨by decide +kernel, by decide +kernel⟩, by decide +kernel⟩
theorem in_X11_seasons : Cond.instanceMethod yX11_seasons ∈ gT := gT_in (inT4 (List.mem_of_getElem? (i := 138) rfl)) rfl
theorem se_X11_seasons : Cond.selects RX11 yX11_seasons yX11_seasons ∈ gT := gT_in (inT4 (List.mem_of_getElem? (i := 139) rfl)) rfl
theorem mi_X11_rain : Mi yX11_rain cX11_rain 4 (some .int) 1 := ⟨kc_X11_rain, ki_RX11, ⟨by decide +kernel, by decide +kernel⟩, by decide +kernel⟩
theorem in_X11_rain : Cond.instanceMethod yX11_rain ∈ gT := gT_in (inT4 (List.mem_of_getElem? (i := 144) rfl)) rfl
theorem se_X11_rain : Cond.selects RX11 yX11_rain yX11_rain ∈ gT := gT_in (inT4 (List.mem_of_getElem? (i := 145) rfl)) rfl
theorem mi_X11_doOne : Mi yX11_doOne cX11_doOne 4 (some .int) 2 := ⟨kc_X11_doOne, ki_RX11, ⟨by decide +kernel, by decide +kernel⟩, by decide +kernel⟩
theorem in_X11_doOne : Cond.instanceMethod yX11_doOne ∈ gT := gT_in (inT4 (List.mem_of_getElem? (i := 88) rfl)) rfl
theorem se_X11_doOne : Cond.selects RX11 yX11_doOne yX11_doOne ∈ gT := gT_in (inP (List.mem_of_getElem? (i := 31) rfl)) rfl
theorem mi_X11_undo : Mi yX11_undo cX11_undo 2 (some .int) 1 := ⟨kc_X11_undo, ki_RX11, ⟨by decide +kernel, by decide +kernel⟩, by decide +kernel⟩
theorem in_X11_undo : Cond.instanceMethod yX11_undo ∈ gT := gT_in (inT4 (List.mem_of_getElem? (i := 148) rfl)) rfl
theorem se_X11_undo : Cond.selects RX11 yX11_undo yX11_undo ∈ gT := gT_in (inT4 (List.mem_of_getElem? (i := 149) rfl)) rfl
theorem mi_X11_judge : Mi yX11_judge cX11_judge 7 (some .int) 2 := ⟨kc_X11_judge, ki_RX11, ⟨by decide +kernel, by decide +kernel⟩, by decide +kernel⟩
theorem in_X11_judge : Cond.instanceMethod yX11_judge ∈ gT := gT_in (inT4 (List.mem_of_getElem? (i := 163) rfl)) rfl
theorem se_X11_judge : Cond.selects RX11 yX11_judge yX11_judge ∈ gT := gT_in (inT4 (List.mem_of_getElem? (i := 164) rfl)) rfl
theorem mi_X11_perform : Mi yX11_perform cX11_perform 4 (some .int) 1 := ⟨kc_X11_perform, ki_RX11, ⟨by decide +kernel, by decide +kernel⟩, by decide +kernel⟩
theorem in_X11_perform : Cond.instanceMethod yX11_perform ∈ gT := gT_in (inT4 (List.mem_of_getElem? (i := 179) rfl)) rfl
theorem se_X11_perform : Cond.selects RX11 yX11_perform yX11_perform ∈ gT := gT_in (inT4 (List.mem_of_getElem? (i := 180) rfl)) rfl
theorem mi_X11_year : Mi yX11_year cX11_year 8 (some .int) 2 := ⟨kc_X11_year, ki_RX11, ⟨by decide +kernel, by decide +kernel⟩, by decide +kernel⟩
theorem in_X11_year : Cond.instanceMethod yX11_year ∈ gT := gT_in (inT4 (List.mem_of_getElem? (i := 183) rfl)) rfl
theorem se_X11_year : Cond.selects RX11 yX11_year yX11_year ∈ gT := gT_in (inT4 (List.mem_of_getElem? (i := 184) rfl)) rfl
theorem mi_X11_drawBehind : Mi yX11_drawBehind cX11_drawBehind 1 (some .int) 1 := ⟨kc_X11_drawBehind, ki_RX11, ⟨by decide +kernel, by decide +kernel⟩, by decide +kernel⟩
theorem st_X11_drawBehind : Cond.static yX11_drawBehind ∈ gT := gT_in (inT4 (List.mem_of_getElem? (i := 187) rfl)) rfl
theorem mi_X11_drawnDeed : Mi yX11_drawnDeed cX11_drawnDeed 2 (some .int) 2 := ⟨kc_X11_drawnDeed, ki_RX11, ⟨by decide +kernel, by decide +kernel⟩, by decide +kernel⟩
theorem st_X11_drawnDeed : Cond.static yX11_drawnDeed ∈ gT := gT_in (inT4 (List.mem_of_getElem? (i := 191) rfl)) rfl
theorem mi_X11_reach : Mi yX11_reach cX11_reach 1 (some .int) 0 := ⟨kc_X11_reach, ki_RX11, ⟨by decide +kernel, by decide +kernel⟩, by decide +kernel⟩
theorem in_X11_reach : Cond.instanceMethod yX11_reach ∈ gT := gT_in (inT4 (List.mem_of_getElem? (i := 194) rfl)) rfl
theorem se_X11_reach : Cond.selects RX11 yX11_reach yX11_reach ∈ gT := gT_in (inT4 (List.mem_of_getElem? (i := 195) rfl)) rfl
theorem mi_X11_soonest : Mi yX11_soonest cX11_soonest 2 (some .int) 1 := ⟨kc_X11_soonest, ki_RX11, ⟨by decide +kernel, by decide +kernel⟩, by decide +kernel⟩
theorem in_X11_soonest : Cond.instanceMethod yX11_soonest ∈ gT := gT_in (inT4 (List.mem_of_getElem? (i := 206) rfl)) rfl
theorem se_X11_soonest : Cond.selects RX11 yX11_soonest yX11_soonest ∈ gT := gT_in (inT4 (List.mem_of_getElem? (i := 207) rfl)) rfl
theorem mi_X11_rows : Mi yX11_rows cX11_rows 3 (some .int) 2 := ⟨kc_X11_rows, ki_RX11, ⟨by decide +kernel, by decide +kernel⟩, by decide +kernel⟩
theorem in_X11_rows : Cond.instanceMethod yX11_rows ∈ gT := gT_in (inT4 (List.mem_of_getElem? (i := 237) rfl)) rfl
theorem se_X11_rows : Cond.selects RX11 yX11_rows yX11_rows ∈ gT := gT_in (inT4 (List.mem_of_getElem? (i := 238) rfl)) rfl
theorem mi_X11_way : Mi yX11_way cX11_way 3 (some .int) 2 := ⟨kc_X11_way, ki_RX11, ⟨by decide +kernel, by decide +kernel⟩, by decide +kernel⟩
theorem in_X11_way : Cond.instanceMethod yX11_way ∈ gT := gT_in (inT5 (List.mem_of_getElem? (i := 27) rfl)) rfl
theorem se_X11_way : Cond.selects RX11 yX11_way yX11_way ∈ gT := gT_in (inT5 (List.mem_of_getElem? (i := 28) rfl)) rfl
theorem mi_X11_toAndFro : Mi yX11_toAndFro cX11_toAndFro 4 (some .int) 1 := ⟨kc_X11_toAndFro, ki_RX11, ⟨by decide +kernel, by decide +kernel⟩, by decide +kernel⟩
theorem in_X11_toAndFro : Cond.instanceMethod yX11_toAndFro ∈ gT := gT_in (inT5 (List.mem_of_getElem? (i := 40) rfl)) rfl
theorem se_X11_toAndFro : Cond.selects RX11 yX11_toAndFro yX11_toAndFro ∈ gT := gT_in (inT5 (List.mem_of_getElem? (i := 41) rfl)) rfl
theorem mi_X11_cheapest : Mi yX11_cheapest cX11_cheapest 4 (some .int) 2 := ⟨kc_X11_cheapest, ki_RX11, ⟨by decide +kernel, by decide +kernel⟩, by decide +kernel⟩
theorem in_X11_cheapest : Cond.instanceMethod yX11_cheapest ∈ gT := gT_in (inT5 (List.mem_of_getElem? (i := 45) rfl)) rfl
theorem se_X11_cheapest : Cond.selects RX11 yX11_cheapest yX11_cheapest ∈ gT := gT_in (inT5 (List.mem_of_getElem? (i := 46) rfl)) rfl
theorem mi_X11_cheapBy : Mi yX11_cheapBy cX11_cheapBy 3 (some .int) 2 := ⟨kc_X11_cheapBy, ki_RX11, ⟨by decide +kernel, by decide +kernel⟩, by decide +kernel⟩
theorem in_X11_cheapBy : Cond.instanceMethod yX11_cheapBy ∈ gT := gT_in (inT5 (List.mem_of_getElem? (i := 65) rfl)) rfl
theorem se_X11_cheapBy : Cond.selects RX11 yX11_cheapBy yX11_cheapBy ∈ gT := gT_in (inT5 (List.mem_of_getElem? (i := 66) rfl)) rfl
theorem mi_X11_joins : Mi yX11_joins cX11_joins 3 (some .int) 1 := ⟨kc_X11_joins, ki_RX11, ⟨by decide +kernel, by decide +kernel⟩, by decide +kernel⟩
theorem in_X11_joins : Cond.instanceMethod yX11_joins ∈ gT := gT_in (inT5 (List.mem_of_getElem? (i := 69) rfl)) rfl
theorem se_X11_joins : Cond.selects RX11 yX11_joins yX11_joins ∈ gT := gT_in (inT5 (List.mem_of_getElem? (i := 70) rfl)) rfl
theorem mi_X11_shuts : Mi yX11_shuts cX11_shuts 4 (some .int) 2 := ⟨kc_X11_shuts, ki_RX11, ⟨by decide +kernel, by decide +kernel⟩, by decide +kernel⟩
theorem in_X11_shuts : Cond.instanceMethod yX11_shuts ∈ gT := gT_in (inT5 (List.mem_of_getElem? (i := 84) rfl)) rfl
theorem se_X11_shuts : Cond.selects RX11 yX11_shuts yX11_shuts ∈ gT := gT_in (inT5 (List.mem_of_getElem? (i := 85) rfl)) rfl
theorem mi_X11_leastShutting : Mi yX11_leastShutting cX11_leastShutting 6 (some .int) 1 := ⟨kc_X11_leastShutting, ki_RX11, ⟨by decide +kernel, by decide +kernel⟩, by decide +kernel⟩
theorem in_X11_leastShutting : Cond.instanceMethod yX11_leastShutting ∈ gT := gT_in (inT5 (List.mem_of_getElem? (i := 89) rfl)) rfl
theorem se_X11_leastShutting : Cond.selects RX11 yX11_leastShutting yX11_leastShutting ∈ gT := gT_in (inP (List.mem_of_getElem? (i := 44) rfl)) rfl
theorem mi_X11_turning : Mi yX11_turning cX11_turning 2 (some .int) 1 := ⟨kc_X11_turning, ki_RX11, ⟨by decide +kernel, by decide +kernel⟩, by decide +kernel⟩
theorem in_X11_turning : Cond.instanceMethod yX11_turning ∈ gT := gT_in (inT5 (List.mem_of_getElem? (i := 92) rfl)) rfl
theorem se_X11_turning : Cond.selects RX11 yX11_turning yX11_turning ∈ gT := gT_in (inT5 (List.mem_of_getElem? (i := 93) rfl)) rfl
theorem mi_X11_seasonsOfTurning : Mi yX11_seasonsOfTurning cX11_seasonsOfTurning 4 (some .int) 0 := ⟨kc_X11_seasonsOfTurning, ki_RX11, ⟨by decide +kernel, by decide +kernel⟩, by decide +kernel⟩
theorem in_X11_seasonsOfTurning : Cond.instanceMethod yX11_seasonsOfTurning ∈ gT := gT_in (inT5 (List.mem_of_getElem? (i := 102) rfl)) rfl
theorem se_X11_seasonsOfTurning : Cond.selects RX11 yX11_seasonsOfTurning yX11_seasonsOfTurning ∈ gT := gT_in (inP (List.mem_of_getElem? (i := 45) rfl)) rfl
theorem mi_X11_when : Mi yX11_when cX11_when 4 (some .int) 1 := ⟨kc_X11_when, ki_RX11, ⟨by decide +kernel, by decide +kernel⟩, by decide +kernel⟩
theorem in_X11_when : Cond.instanceMethod yX11_when ∈ gT := gT_in (inT5 (List.mem_of_getElem? (i := 106) rfl)) rfl
theorem se_X11_when : Cond.selects RX11 yX11_when yX11_when ∈ gT := gT_in (inT5 (List.mem_of_getElem? (i := 107) rfl)) rfl
theorem mi_X11_starts : Mi yX11_starts cX11_starts 3 (some .int) 1 := ⟨kc_X11_starts, ki_RX11, ⟨by decide +kernel, by decide +kernel⟩, by decide +kernel⟩
theorem in_X11_starts : Cond.instanceMethod yX11_starts ∈ gT := gT_in (inT5 (List.mem_of_getElem? (i := 110) rfl)) rfl
theorem se_X11_starts : Cond.selects RX11 yX11_starts yX11_starts ∈ gT := gT_in (inT5 (List.mem_of_getElem? (i := 111) rfl)) rfl
theorem mi_X11_leastStarting : Mi yX11_leastStarting cX11_leastStarting 5 (some .int) 0 := ⟨kc_X11_leastStarting, ki_RX11, ⟨by decide +kernel, by decide +kernel⟩, by decide +kernel⟩
theorem in_X11_leastStarting : Cond.instanceMethod yX11_leastStarting ∈ gT := gT_in (inT5 (List.mem_of_getElem? (i := 115) rfl)) rfl
theorem se_X11_leastStarting : Cond.selects RX11 yX11_leastStarting yX11_leastStarting ∈ gT := gT_in (inP (List.mem_of_getElem? (i := 46) rfl)) rfl
theorem mi_X11_rains : Mi yX11_rains cX11_rains 4 (some .int) 1 := ⟨kc_X11_rains, ki_RX11, ⟨by decide +kernel, by decide +kernel⟩, by decide +kernel⟩
theorem in_X11_rains : Cond.instanceMethod yX11_rains ∈ gT := gT_in (inT5 (List.mem_of_getElem? (i := 118) rfl)) rfl
theorem se_X11_rains : Cond.selects RX11 yX11_rains yX11_rains ∈ gT := gT_in (inT5 (List.mem_of_getElem? (i := 119) rfl)) rfl
theorem mi_X11_attempt : Mi yX11_attempt cX11_attempt 9 (some .int) 1 := ⟨kc_X11_attempt, ki_RX11, ⟨by decide +kernel, by decide +kernel⟩, by decide +kernel⟩
theorem in_X11_attempt : Cond.instanceMethod yX11_attempt ∈ gT := gT_in (inT5 (List.mem_of_getElem? (i := 136) rfl)) rfl
theorem se_X11_attempt : Cond.selects RX11 yX11_attempt yX11_attempt ∈ gT := gT_in (inT5 (List.mem_of_getElem? (i := 137) rfl)) rfl
theorem mi_X11_whyNotWorn : Mi yX11_whyNotWorn cX11_whyNotWorn 5 (some .int) 1 := ⟨kc_X11_whyNotWorn, ki_RX11, ⟨by decide +kernel, by decide +kernel⟩, by decide +kernel⟩
theorem in_X11_whyNotWorn : Cond.instanceMethod yX11_whyNotWorn ∈ gT := gT_in (inT5 (List.mem_of_getElem? (i := 123) rfl)) rfl
theorem se_X11_whyNotWorn : Cond.selects RX11 yX11_whyNotWorn yX11_whyNotWorn ∈ gT := gT_in (inP (List.mem_of_getElem? (i := 47) rfl)) rfl
theorem mi_X11_rainsBy : Mi yX11_rainsBy cX11_rainsBy 8 (some .int) 1 := ⟨kc_X11_rainsBy, ki_RX11, ⟨by decide +kernel, by decide +kernel⟩, by decide +kernel⟩
theorem in_X11_rainsBy : Cond.instanceMethod yX11_rainsBy ∈ gT := gT_in (inT5 (List.mem_of_getElem? (i := 129) rfl)) rfl
theorem se_X11_rainsBy : Cond.selects RX11 yX11_rainsBy yX11_rainsBy ∈ gT := gT_in (inP (List.mem_of_getElem? (i := 48) rfl)) rfl
theorem mi_X11_mostAlike : Mi yX11_mostAlike cX11_mostAlike 6 (some .int) 2 := ⟨kc_X11_mostAlike, ki_RX11, ⟨by decide +kernel, by decide +kernel⟩, by decide +kernel⟩
theorem in_X11_mostAlike : Cond.instanceMethod yX11_mostAlike ∈ gT := gT_in (inT5 (List.mem_of_getElem? (i := 141) rfl)) rfl
theorem se_X11_mostAlike : Cond.selects RX11 yX11_mostAlike yX11_mostAlike ∈ gT := gT_in (inP (List.mem_of_getElem? (i := 50) rfl)) rfl
theorem mi_X11_wornByRain : Mi yX11_wornByRain cX11_wornByRain 3 (some .int) 2 := ⟨kc_X11_wornByRain, ki_RX11, ⟨by decide +kernel, by decide +kernel⟩, by decide +kernel⟩
theorem in_X11_wornByRain : Cond.instanceMethod yX11_wornByRain ∈ gT := gT_in (inT5 (List.mem_of_getElem? (i := 133) rfl)) rfl
theorem se_X11_wornByRain : Cond.selects RX11 yX11_wornByRain yX11_wornByRain ∈ gT := gT_in (inP (List.mem_of_getElem? (i := 49) rfl)) rfl
theorem mi_X11_wins : Mi yX11_wins cX11_wins 1 (some .int) 0 := ⟨kc_X11_wins, ki_RX11, ⟨by decide +kernel, by decide +kernel⟩, by decide +kernel⟩
theorem in_X11_wins : Cond.instanceMethod yX11_wins ∈ gT := gT_in (inT5 (List.mem_of_getElem? (i := 145) rfl)) rfl
theorem se_X11_wins : Cond.selects RX11 yX11_wins yX11_wins ∈ gT := gT_in (inT5 (List.mem_of_getElem? (i := 146) rfl)) rfl
theorem mi_X11_best : Mi yX11_best cX11_best 1 (some .int) 0 := ⟨kc_X11_best, ki_RX11, ⟨by decide +kernel, by decide +kernel⟩, by decide +kernel⟩
theorem in_X11_best : Cond.instanceMethod yX11_best ∈ gT := gT_in (inT5 (List.mem_of_getElem? (i := 163) rfl)) rfl
theorem se_X11_best : Cond.selects RX11 yX11_best yX11_best ∈ gT := gT_in (inT5 (List.mem_of_getElem? (i := 164) rfl)) rfl
theorem mi_X11_chance : Mi yX11_chance cX11_chance 7 (some .int) 3 := ⟨kc_X11_chance, ki_RX11, ⟨by decide +kernel, by decide +kernel⟩, by decide +kernel⟩
theorem in_X11_chance : Cond.instanceMethod yX11_chance ∈ gT := gT_in (inT5 (List.mem_of_getElem? (i := 167) rfl)) rfl
theorem se_X11_chance : Cond.selects RX11 yX11_chance yX11_chance ∈ gT := gT_in (inT5 (List.mem_of_getElem? (i := 168) rfl)) rfl
theorem mi_X11_bestBy : Mi yX11_bestBy cX11_bestBy 3 (some .int) 2 := ⟨kc_X11_bestBy, ki_RX11, ⟨by decide +kernel, by decide +kernel⟩, by decide +kernel⟩
theorem in_X11_bestBy : Cond.instanceMethod yX11_bestBy ∈ gT := gT_in (inT5 (List.mem_of_getElem? (i := 202) rfl)) rfl
theorem se_X11_bestBy : Cond.selects RX11 yX11_bestBy yX11_bestBy ∈ gT := gT_in (inT5 (List.mem_of_getElem? (i := 203) rfl)) rfl
theorem mi_X11_trayOf : Mi yX11_trayOf cX11_trayOf 2 (some (.object "RutWays$Tray")) 1 := ⟨kc_X11_trayOf, ki_RX11, ⟨by decide +kernel, by decide +kernel⟩, by decide +kernel⟩
theorem in_X11_trayOf : Cond.instanceMethod yX11_trayOf ∈ gT := gT_in (inT4 (List.mem_of_getElem? (i := 168) rfl)) rfl
theorem se_X11_trayOf : Cond.selects RX11 yX11_trayOf yX11_trayOf ∈ gT := gT_in (inP (List.mem_of_getElem? (i := 35) rfl)) rfl
theorem mi_X11_numbers : Mi yX11_numbers cX11_numbers 5 (some .int) 3 := ⟨kc_X11_numbers, ki_RX11, ⟨by decide +kernel, by decide +kernel⟩, by decide +kernel⟩
theorem in_X11_numbers : Cond.instanceMethod yX11_numbers ∈ gT := gT_in (inT5 (List.mem_of_getElem? (i := 214) rfl)) rfl
theorem se_X11_numbers : Cond.selects RX11 yX11_numbers yX11_numbers ∈ gT := gT_in (inT5 (List.mem_of_getElem? (i := 215) rfl)) rfl
theorem mi_X11_write : Mi yX11_write cX11_write 6 (some .long) 3 := ⟨kc_X11_write, ki_RX11, ⟨by decide +kernel, by decide +kernel⟩, by decide +kernel⟩
theorem in_X11_write : Cond.instanceMethod yX11_write ∈ gT := gT_in (inT5 (List.mem_of_getElem? (i := 225) rfl)) rfl
theorem se_X11_write : Cond.selects RX11 yX11_write yX11_write ∈ gT := gT_in (inT5 (List.mem_of_getElem? (i := 226) rfl)) rfl
theorem mi_X11_lists : Mi yX11_lists cX11_lists 7 (some .int) 2 := ⟨kc_X11_lists, ki_RX11, ⟨by decide +kernel, by decide +kernel⟩, by decide +kernel⟩
theorem in_X11_lists : Cond.instanceMethod yX11_lists ∈ gT := gT_in (inT6 (List.mem_of_getElem? (i := 0) rfl)) rfl
theorem se_X11_lists : Cond.selects RX11 yX11_lists yX11_lists ∈ gT := gT_in (inT6 (List.mem_of_getElem? (i := 1) rfl)) rfl
theorem mi_X11_pictureOf : Mi yX11_pictureOf cX11_pictureOf 2 (some (.object "RutWays$Course")) 1 := ⟨kc_X11_pictureOf, ki_RX11, ⟨by decide +kernel, by decide +kernel⟩, by decide +kernel⟩
theorem in_X11_pictureOf : Cond.instanceMethod yX11_pictureOf ∈ gT := gT_in (inT6 (List.mem_of_getElem? (i := 10) rfl)) rfl
theorem se_X11_pictureOf : Cond.selects RX11 yX11_pictureOf yX11_pictureOf ∈ gT := gT_in (inP (List.mem_of_getElem? (i := 57) rfl)) rfl
theorem mi_X11_image : Mi yX11_image cX11_image 3 (some .int) 1 := ⟨kc_X11_image, ki_RX11, ⟨by decide +kernel, by decide +kernel⟩, by decide +kernel⟩
theorem in_X11_image : Cond.instanceMethod yX11_image ∈ gT := gT_in (inT6 (List.mem_of_getElem? (i := 5) rfl)) rfl
theorem se_X11_image : Cond.selects RX11 yX11_image yX11_image ∈ gT := gT_in (inT6 (List.mem_of_getElem? (i := 6) rfl)) rfl
theorem mi_X11_restore : Mi yX11_restore cX11_restore 3 (some .int) 1 := ⟨kc_X11_restore, ki_RX11, ⟨by decide +kernel, by decide +kernel⟩, by decide +kernel⟩
theorem in_X11_restore : Cond.instanceMethod yX11_restore ∈ gT := gT_in (inT6 (List.mem_of_getElem? (i := 13) rfl)) rfl
theorem se_X11_restore : Cond.selects RX11 yX11_restore yX11_restore ∈ gT := gT_in (inT6 (List.mem_of_getElem? (i := 14) rfl)) rfl
theorem mi_X11_count : Mi yX11_count cX11_count 2 (some .int) 1 := ⟨kc_X11_count, ki_RX11, ⟨by decide +kernel, by decide +kernel⟩, by decide +kernel⟩
theorem in_X11_count : Cond.instanceMethod yX11_count ∈ gT := gT_in (inT6 (List.mem_of_getElem? (i := 17) rfl)) rfl
theorem se_X11_count : Cond.selects RX11 yX11_count yX11_count ∈ gT := gT_in (inT6 (List.mem_of_getElem? (i := 18) rfl)) rfl
theorem mi_X12_within : Mi yX12_within cX12_within 6 (some .boolean) 3 := ⟨kc_X12_within, ki_RX12, ⟨by decide +kernel, by decide +kernel⟩, by decide +kernel⟩
theorem st_X12_within : Cond.static yX12_within ∈ gT := gT_in (inT6 (List.mem_of_getElem? (i := 135) rfl)) rfl
theorem mi_X12_plain : Mi yX12_plain cX12_plain 2 (none) 1 := ⟨kc_X12_plain, ki_RX12, ⟨by decide +kernel, by decide +kernel⟩, by decide +kernel⟩
theorem st_X12_plain : Cond.static yX12_plain ∈ gT := gT_in (inT6 (List.mem_of_getElem? (i := 27) rfl)) rfl
theorem mi_X12_feed : Mi yX12_feed cX12_feed 8 (some .int) 5 := ⟨kc_X12_feed, ki_RX12, ⟨by decide +kernel, by decide +kernel⟩, by decide +kernel⟩
theorem in_X12_feed : Cond.instanceMethod yX12_feed ∈ gT := gT_in (inT6 (List.mem_of_getElem? (i := 127) rfl)) rfl
theorem se_X12_feed : Cond.selects RX12 yX12_feed yX12_feed ∈ gT := gT_in (inT6 (List.mem_of_getElem? (i := 128) rfl)) rfl
theorem mi_X12_see : Mi yX12_see cX12_see 2 (some .int) 1 := ⟨kc_X12_see, ki_RX12, ⟨by decide +kernel, by decide +kernel⟩, by decide +kernel⟩
theorem in_X12_see : Cond.instanceMethod yX12_see ∈ gT := gT_in (inT6 (List.mem_of_getElem? (i := 143) rfl)) rfl
theorem se_X12_see : Cond.selects RX12 yX12_see yX12_see ∈ gT := gT_in (inP (List.mem_of_getElem? (i := 59) rfl)) rfl
theorem mi_X12_isSmall : Mi yX12_isSmall cX12_isSmall 1 (some .boolean) 1 := ⟨kc_X12_isSmall, ki_RX12, ⟨by decide +kernel, by decide +kernel⟩, by decide +kernel⟩
theorem st_X12_isSmall : Cond.static yX12_isSmall ∈ gT := gT_in (inT6 (List.mem_of_getElem? (i := 146) rfl)) rfl
theorem mi_X12_isDigit : Mi yX12_isDigit cX12_isDigit 1 (some .boolean) 1 := ⟨kc_X12_isDigit, ki_RX12, ⟨by decide +kernel, by decide +kernel⟩, by decide +kernel⟩
theorem st_X12_isDigit : Cond.static yX12_isDigit ∈ gT := gT_in (inT6 (List.mem_of_getElem? (i := 156) rfl)) rfl
theorem mi_X12_keyAt : Mi yX12_keyAt cX12_keyAt 4 (some .int) 0 := ⟨kc_X12_keyAt, ki_RX12, ⟨by decide +kernel, by decide +kernel⟩, by decide +kernel⟩
theorem in_X12_keyAt : Cond.instanceMethod yX12_keyAt ∈ gT := gT_in (inT6 (List.mem_of_getElem? (i := 150) rfl)) rfl
theorem se_X12_keyAt : Cond.selects RX12 yX12_keyAt yX12_keyAt ∈ gT := gT_in (inP (List.mem_of_getElem? (i := 60) rfl)) rfl
theorem mi_X12_next : Mi yX12_next cX12_next 2 (none) 0 := ⟨kc_X12_next, ki_RX12, ⟨by decide +kernel, by decide +kernel⟩, by decide +kernel⟩
theorem in_X12_next : Cond.instanceMethod yX12_next ∈ gT := gT_in (inT6 (List.mem_of_getElem? (i := 139) rfl)) rfl
theorem se_X12_next : Cond.selects RX12 yX12_next yX12_next ∈ gT := gT_in (inP (List.mem_of_getElem? (i := 58) rfl)) rfl
theorem mi_X12_fails : Mi yX12_fails cX12_fails 2 (none) 1 := ⟨kc_X12_fails, ki_RX12, ⟨by decide +kernel, by decide +kernel⟩, by decide +kernel⟩
theorem in_X12_fails : Cond.instanceMethod yX12_fails ∈ gT := gT_in (inT6 (List.mem_of_getElem? (i := 169) rfl)) rfl
theorem se_X12_fails : Cond.selects RX12 yX12_fails yX12_fails ∈ gT := gT_in (inP (List.mem_of_getElem? (i := 63) rfl)) rfl
theorem mi_X12_is : Mi yX12_is cX12_is 2 (some .boolean) 1 := ⟨kc_X12_is, ki_RX12, ⟨by decide +kernel, by decide +kernel⟩, by decide +kernel⟩
theorem in_X12_is : Cond.instanceMethod yX12_is ∈ gT := gT_in (inT6 (List.mem_of_getElem? (i := 165) rfl)) rfl
theorem se_X12_is : Cond.selects RX12 yX12_is yX12_is ∈ gT := gT_in (inP (List.mem_of_getElem? (i := 62) rfl)) rfl
theorem mi_X12_eats : Mi yX12_eats cX12_eats 2 (some .boolean) 1 := ⟨kc_X12_eats, ki_RX12, ⟨by decide +kernel, by decide +kernel⟩, by decide +kernel⟩
theorem in_X12_eats : Cond.instanceMethod yX12_eats ∈ gT := gT_in (inT6 (List.mem_of_getElem? (i := 161) rfl)) rfl
theorem se_X12_eats : Cond.selects RX12 yX12_eats yX12_eats ∈ gT := gT_in (inP (List.mem_of_getElem? (i := 61) rfl)) rfl
theorem mi_X12_takes : Mi yX12_takes cX12_takes 4 (some .int) 2 := ⟨kc_X12_takes, ki_RX12, ⟨by decide +kernel, by decide +kernel⟩, by decide +kernel⟩
theorem in_X12_takes : Cond.instanceMethod yX12_takes ∈ gT := gT_in (inT6 (List.mem_of_getElem? (i := 177) rfl)) rfl
theorem se_X12_takes : Cond.selects RX12 yX12_takes yX12_takes ∈ gT := gT_in (inP (List.mem_of_getElem? (i := 65) rfl)) rfl
theorem mi_X12_isIn : Mi yX12_isIn cX12_isIn 3 (some .boolean) 2 := ⟨kc_X12_isIn, ki_RX12, ⟨by decide +kernel, by decide +kernel⟩, by decide +kernel⟩
theorem st_X12_isIn : Cond.static yX12_isIn ∈ gT := gT_in (inT7 (List.mem_of_getElem? (i := 193) rfl)) rfl
theorem mi_X12_wordOf : Mi yX12_wordOf cX12_wordOf 2 (some .int) 1 := ⟨kc_X12_wordOf, ki_RX12, ⟨by decide +kernel, by decide +kernel⟩, by decide +kernel⟩
theorem in_X12_wordOf : Cond.instanceMethod yX12_wordOf ∈ gT := gT_in (inT6 (List.mem_of_getElem? (i := 225) rfl)) rfl
theorem se_X12_wordOf : Cond.selects RX12 yX12_wordOf yX12_wordOf ∈ gT := gT_in (inP (List.mem_of_getElem? (i := 77) rfl)) rfl
theorem mi_X12_codes : Mi yX12_codes cX12_codes 2 (none) 1 := ⟨kc_X12_codes, ki_RX12, ⟨by decide +kernel, by decide +kernel⟩, by decide +kernel⟩
theorem in_X12_codes : Cond.instanceMethod yX12_codes ∈ gT := gT_in (inT6 (List.mem_of_getElem? (i := 221) rfl)) rfl
theorem se_X12_codes : Cond.selects RX12 yX12_codes yX12_codes ∈ gT := gT_in (inP (List.mem_of_getElem? (i := 76) rfl)) rfl
theorem mi_X12_goesIn : Mi yX12_goesIn cX12_goesIn 2 (some .boolean) 1 := ⟨kc_X12_goesIn, ki_RX12, ⟨by decide +kernel, by decide +kernel⟩, by decide +kernel⟩
theorem in_X12_goesIn : Cond.instanceMethod yX12_goesIn ∈ gT := gT_in (inT6 (List.mem_of_getElem? (i := 229) rfl)) rfl
theorem se_X12_goesIn : Cond.selects RX12 yX12_goesIn yX12_goesIn ∈ gT := gT_in (inP (List.mem_of_getElem? (i := 78) rfl)) rfl
theorem mi_X12_readAtom : Mi yX12_readAtom cX12_readAtom 2 (none) 1 := ⟨kc_X12_readAtom, ki_RX12, ⟨by decide +kernel, by decide +kernel⟩, by decide +kernel⟩
theorem in_X12_readAtom : Cond.instanceMethod yX12_readAtom ∈ gT := gT_in (inT6 (List.mem_of_getElem? (i := 217) rfl)) rfl
theorem se_X12_readAtom : Cond.selects RX12 yX12_readAtom yX12_readAtom ∈ gT := gT_in (inP (List.mem_of_getElem? (i := 75) rfl)) rfl
theorem mi_X12_readIf : Mi yX12_readIf cX12_readIf 2 (none) 1 := ⟨kc_X12_readIf, ki_RX12, ⟨by decide +kernel, by decide +kernel⟩, by decide +kernel⟩
theorem in_X12_readIf : Cond.instanceMethod yX12_readIf ∈ gT := gT_in (inT6 (List.mem_of_getElem? (i := 233) rfl)) rfl
theorem se_X12_readIf : Cond.selects RX12 yX12_readIf yX12_readIf ∈ gT := gT_in (inP (List.mem_of_getElem? (i := 79) rfl)) rfl
theorem mi_X12_readTerm : Mi yX12_readTerm cX12_readTerm 2 (none) 1 := ⟨kc_X12_readTerm, ki_RX12, ⟨by decide +kernel, by decide +kernel⟩, by decide +kernel⟩
theorem in_X12_readTerm : Cond.instanceMethod yX12_readTerm ∈ gT := gT_in (inT6 (List.mem_of_getElem? (i := 213) rfl)) rfl
theorem se_X12_readTerm : Cond.selects RX12 yX12_readTerm yX12_readTerm ∈ gT := gT_in (inP (List.mem_of_getElem? (i := 74) rfl)) rfl
theorem mi_X12_readSum : Mi yX12_readSum cX12_readSum 3 (none) 1 := ⟨kc_X12_readSum, ki_RX12, ⟨by decide +kernel, by decide +kernel⟩, by decide +kernel⟩
theorem in_X12_readSum : Cond.instanceMethod yX12_readSum ∈ gT := gT_in (inT6 (List.mem_of_getElem? (i := 209) rfl)) rfl
theorem se_X12_readSum : Cond.selects RX12 yX12_readSum yX12_readSum ∈ gT := gT_in (inP (List.mem_of_getElem? (i := 73) rfl)) rfl
theorem mi_X12_readUnit : Mi yX12_readUnit cX12_readUnit 3 (none) 1 := ⟨kc_X12_readUnit, ki_RX12, ⟨by decide +kernel, by decide +kernel⟩, by decide +kernel⟩
theorem in_X12_readUnit : Cond.instanceMethod yX12_readUnit ∈ gT := gT_in (inT7 (List.mem_of_getElem? (i := 5) rfl)) rfl
theorem se_X12_readUnit : Cond.selects RX12 yX12_readUnit yX12_readUnit ∈ gT := gT_in (inP (List.mem_of_getElem? (i := 82) rfl)) rfl
theorem mi_X12_readBoth : Mi yX12_readBoth cX12_readBoth 2 (none) 1 := ⟨kc_X12_readBoth, ki_RX12, ⟨by decide +kernel, by decide +kernel⟩, by decide +kernel⟩
theorem in_X12_readBoth : Cond.instanceMethod yX12_readBoth ∈ gT := gT_in (inT7 (List.mem_of_getElem? (i := 1) rfl)) rfl
theorem se_X12_readBoth : Cond.selects RX12 yX12_readBoth yX12_readBoth ∈ gT := gT_in (inP (List.mem_of_getElem? (i := 81) rfl)) rfl
theorem mi_X12_readTruth : Mi yX12_readTruth cX12_readTruth 2 (none) 1 := ⟨kc_X12_readTruth, ki_RX12, ⟨by decide +kernel, by decide +kernel⟩, by decide +kernel⟩
theorem in_X12_readTruth : Cond.instanceMethod yX12_readTruth ∈ gT := gT_in (inT6 (List.mem_of_getElem? (i := 237) rfl)) rfl
theorem se_X12_readTruth : Cond.selects RX12 yX12_readTruth yX12_readTruth ∈ gT := gT_in (inP (List.mem_of_getElem? (i := 80) rfl)) rfl
theorem mi_X12_readFlag : Mi yX12_readFlag cX12_readFlag 2 (some .boolean) 1 := ⟨kc_X12_readFlag, ki_RX12, ⟨by decide +kernel, by decide +kernel⟩, by decide +kernel⟩
theorem in_X12_readFlag : Cond.instanceMethod yX12_readFlag ∈ gT := gT_in (inT6 (List.mem_of_getElem? (i := 193) rfl)) rfl
theorem se_X12_readFlag : Cond.selects RX12 yX12_readFlag yX12_readFlag ∈ gT := gT_in (inP (List.mem_of_getElem? (i := 69) rfl)) rfl
theorem mi_X12_readLane : Mi yX12_readLane cX12_readLane 2 (none) 0 := ⟨kc_X12_readLane, ki_RX12, ⟨by decide +kernel, by decide +kernel⟩, by decide +kernel⟩
theorem in_X12_readLane : Cond.instanceMethod yX12_readLane ∈ gT := gT_in (inT6 (List.mem_of_getElem? (i := 189) rfl)) rfl
theorem se_X12_readLane : Cond.selects RX12 yX12_readLane yX12_readLane ∈ gT := gT_in (inP (List.mem_of_getElem? (i := 68) rfl)) rfl
theorem mi_X12_named : Mi yX12_named cX12_named 4 (some .int) 3 := ⟨kc_X12_named, ki_RX12, ⟨by decide +kernel, by decide +kernel⟩, by decide +kernel⟩
theorem in_X12_named : Cond.instanceMethod yX12_named ∈ gT := gT_in (inT6 (List.mem_of_getElem? (i := 173) rfl)) rfl
theorem se_X12_named : Cond.selects RX12 yX12_named yX12_named ∈ gT := gT_in (inP (List.mem_of_getElem? (i := 64) rfl)) rfl
theorem mi_X12_readCart : Mi yX12_readCart cX12_readCart 1 (none) 0 := ⟨kc_X12_readCart, ki_RX12, ⟨by decide +kernel, by decide +kernel⟩, by decide +kernel⟩
theorem in_X12_readCart : Cond.instanceMethod yX12_readCart ∈ gT := gT_in (inT6 (List.mem_of_getElem? (i := 197) rfl)) rfl
theorem se_X12_readCart : Cond.selects RX12 yX12_readCart yX12_readCart ∈ gT := gT_in (inP (List.mem_of_getElem? (i := 70) rfl)) rfl
theorem mi_X12_readPerson : Mi yX12_readPerson cX12_readPerson 2 (none) 0 := ⟨kc_X12_readPerson, ki_RX12, ⟨by decide +kernel, by decide +kernel⟩, by decide +kernel⟩
theorem in_X12_readPerson : Cond.instanceMethod yX12_readPerson ∈ gT := gT_in (inT6 (List.mem_of_getElem? (i := 201) rfl)) rfl
theorem se_X12_readPerson : Cond.selects RX12 yX12_readPerson yX12_readPerson ∈ gT := gT_in (inP (List.mem_of_getElem? (i := 71) rfl)) rfl
theorem mi_X12_readLaw : Mi yX12_readLaw cX12_readLaw 3 (none) 1 := ⟨kc_X12_readLaw, ki_RX12, ⟨by decide +kernel, by decide +kernel⟩, by decide +kernel⟩
theorem in_X12_readLaw : Cond.instanceMethod yX12_readLaw ∈ gT := gT_in (inT6 (List.mem_of_getElem? (i := 205) rfl)) rfl
theorem se_X12_readLaw : Cond.selects RX12 yX12_readLaw yX12_readLaw ∈ gT := gT_in (inP (List.mem_of_getElem? (i := 72) rfl)) rfl
theorem mi_X12_readLine : Mi yX12_readLine cX12_readLine 1 (none) 0 := ⟨kc_X12_readLine, ki_RX12, ⟨by decide +kernel, by decide +kernel⟩, by decide +kernel⟩
theorem in_X12_readLine : Cond.instanceMethod yX12_readLine ∈ gT := gT_in (inT6 (List.mem_of_getElem? (i := 185) rfl)) rfl
theorem se_X12_readLine : Cond.selects RX12 yX12_readLine yX12_readLine ∈ gT := gT_in (inP (List.mem_of_getElem? (i := 67) rfl)) rfl
theorem mi_X12_closes : Mi yX12_closes cX12_closes 1 (none) 0 := ⟨kc_X12_closes, ki_RX12, ⟨by decide +kernel, by decide +kernel⟩, by decide +kernel⟩
theorem in_X12_closes : Cond.instanceMethod yX12_closes ∈ gT := gT_in (inT6 (List.mem_of_getElem? (i := 181) rfl)) rfl
theorem se_X12_closes : Cond.selects RX12 yX12_closes yX12_closes ∈ gT := gT_in (inP (List.mem_of_getElem? (i := 66) rfl)) rfl
theorem mi_X12_land : Mi yX12_land cX12_land 3 (some .int) 1 := ⟨kc_X12_land, ki_RX12, ⟨by decide +kernel, by decide +kernel⟩, by decide +kernel⟩
theorem in_X12_land : Cond.instanceMethod yX12_land ∈ gT := gT_in (inT6 (List.mem_of_getElem? (i := 131) rfl)) rfl
theorem se_X12_land : Cond.selects RX12 yX12_land yX12_land ∈ gT := gT_in (inT6 (List.mem_of_getElem? (i := 132) rfl)) rfl
theorem mi_X12_fault : Mi yX12_fault cX12_fault 2 (some .int) 1 := ⟨kc_X12_fault, ki_RX12, ⟨by decide +kernel, by decide +kernel⟩, by decide +kernel⟩
theorem in_X12_fault : Cond.instanceMethod yX12_fault ∈ gT := gT_in (inT7 (List.mem_of_getElem? (i := 8) rfl)) rfl
theorem se_X12_fault : Cond.selects RX12 yX12_fault yX12_fault ∈ gT := gT_in (inT7 (List.mem_of_getElem? (i := 9) rfl)) rfl
theorem mi_X12_isPlace : Mi yX12_isPlace cX12_isPlace 2 (some .boolean) 1 := ⟨kc_X12_isPlace, ki_RX12, ⟨by decide +kernel, by decide +kernel⟩, by decide +kernel⟩
theorem in_X12_isPlace : Cond.instanceMethod yX12_isPlace ∈ gT := gT_in (inT7 (List.mem_of_getElem? (i := 205) rfl)) rfl
theorem se_X12_isPlace : Cond.selects RX12 yX12_isPlace yX12_isPlace ∈ gT := gT_in (inP (List.mem_of_getElem? (i := 109) rfl)) rfl
theorem mi_X12_isLane : Mi yX12_isLane cX12_isLane 3 (some .boolean) 1 := ⟨kc_X12_isLane, ki_RX12, ⟨by decide +kernel, by decide +kernel⟩, by decide +kernel⟩
theorem in_X12_isLane : Cond.instanceMethod yX12_isLane ∈ gT := gT_in (inT7 (List.mem_of_getElem? (i := 17) rfl)) rfl
theorem se_X12_isLane : Cond.selects RX12 yX12_isLane yX12_isLane ∈ gT := gT_in (inP (List.mem_of_getElem? (i := 83) rfl)) rfl
theorem mi_X12_isPerson : Mi yX12_isPerson cX12_isPerson 3 (some .boolean) 1 := ⟨kc_X12_isPerson, ki_RX12, ⟨by decide +kernel, by decide +kernel⟩, by decide +kernel⟩
theorem in_X12_isPerson : Cond.instanceMethod yX12_isPerson ∈ gT := gT_in (inT7 (List.mem_of_getElem? (i := 105) rfl)) rfl
theorem se_X12_isPerson : Cond.selects RX12 yX12_isPerson yX12_isPerson ∈ gT := gT_in (inP (List.mem_of_getElem? (i := 96) rfl)) rfl
theorem mi_X12_bitsOf : Mi yX12_bitsOf cX12_bitsOf 3 (some .int) 1 := ⟨kc_X12_bitsOf, ki_RX12, ⟨by decide +kernel, by decide +kernel⟩, by decide +kernel⟩
theorem st_X12_bitsOf : Cond.static yX12_bitsOf ∈ gT := gT_in (inT7 (List.mem_of_getElem? (i := 32) rfl)) rfl
theorem mi_X12_otherEnd : Mi yX12_otherEnd cX12_otherEnd 3 (some .int) 2 := ⟨kc_X12_otherEnd, ki_RX12, ⟨by decide +kernel, by decide +kernel⟩, by decide +kernel⟩
theorem in_X12_otherEnd : Cond.instanceMethod yX12_otherEnd ∈ gT := gT_in (inT7 (List.mem_of_getElem? (i := 49) rfl)) rfl
theorem se_X12_otherEnd : Cond.selects RX12 yX12_otherEnd yX12_otherEnd ∈ gT := gT_in (inP (List.mem_of_getElem? (i := 88) rfl)) rfl
theorem mi_X12_between : Mi yX12_between cX12_between 5 (some .int) 3 := ⟨kc_X12_between, ki_RX12, ⟨by decide +kernel, by decide +kernel⟩, by decide +kernel⟩
theorem st_X12_between : Cond.static yX12_between ∈ gT := gT_in (inT7 (List.mem_of_getElem? (i := 35) rfl)) rfl
theorem mi_X12_reckons : Mi yX12_reckons cX12_reckons 8 (some .int) 4 := ⟨kc_X12_reckons, ki_RX12, ⟨by decide +kernel, by decide +kernel⟩, by decide +kernel⟩
theorem in_X12_reckons : Cond.instanceMethod yX12_reckons ∈ gT := gT_in (inT7 (List.mem_of_getElem? (i := 29) rfl)) rfl
theorem se_X12_reckons : Cond.selects RX12 yX12_reckons yX12_reckons ∈ gT := gT_in (inP (List.mem_of_getElem? (i := 86) rfl)) rfl
theorem mi_X12_mayGo : Mi yX12_mayGo cX12_mayGo 3 (some .boolean) 2 := ⟨kc_X12_mayGo, ki_RX12, ⟨by decide +kernel, by decide +kernel⟩, by decide +kernel⟩
theorem in_X12_mayGo : Cond.instanceMethod yX12_mayGo ∈ gT := gT_in (inT7 (List.mem_of_getElem? (i := 25) rfl)) rfl
theorem se_X12_mayGo : Cond.selects RX12 yX12_mayGo yX12_mayGo ∈ gT := gT_in (inP (List.mem_of_getElem? (i := 85) rfl)) rfl
theorem mi_X12_isOpen : Mi yX12_isOpen cX12_isOpen 2 (some .boolean) 1 := ⟨kc_X12_isOpen, ki_RX12, ⟨by decide +kernel, by decide +kernel⟩, by decide +kernel⟩
theorem in_X12_isOpen : Cond.instanceMethod yX12_isOpen ∈ gT := gT_in (inT7 (List.mem_of_getElem? (i := 21) rfl)) rfl
theorem se_X12_isOpen : Cond.selects RX12 yX12_isOpen yX12_isOpen ∈ gT := gT_in (inP (List.mem_of_getElem? (i := 84) rfl)) rfl
theorem mi_X12_wornTo : Mi yX12_wornTo cX12_wornTo 5 (some .int) 3 := ⟨kc_X12_wornTo, ki_RX12, ⟨by decide +kernel, by decide +kernel⟩, by decide +kernel⟩
theorem in_X12_wornTo : Cond.instanceMethod yX12_wornTo ∈ gT := gT_in (inT7 (List.mem_of_getElem? (i := 57) rfl)) rfl
theorem se_X12_wornTo : Cond.selects RX12 yX12_wornTo yX12_wornTo ∈ gT := gT_in (inP (List.mem_of_getElem? (i := 89) rfl)) rfl
theorem mi_X12_fillingsOf : Mi yX12_fillingsOf cX12_fillingsOf 3 (some .int) 1 := ⟨kc_X12_fillingsOf, ki_RX12, ⟨by decide +kernel, by decide +kernel⟩, by decide +kernel⟩
theorem in_X12_fillingsOf : Cond.instanceMethod yX12_fillingsOf ∈ gT := gT_in (inT7 (List.mem_of_getElem? (i := 65) rfl)) rfl
theorem se_X12_fillingsOf : Cond.selects RX12 yX12_fillingsOf yX12_fillingsOf ∈ gT := gT_in (inP (List.mem_of_getElem? (i := 90) rfl)) rfl
theorem mi_X12_whyGo : Mi yX12_whyGo cX12_whyGo 3 (some .int) 1 := ⟨kc_X12_whyGo, ki_RX12, ⟨by decide +kernel, by decide +kernel⟩, by decide +kernel⟩
theorem in_X12_whyGo : Cond.instanceMethod yX12_whyGo ∈ gT := gT_in (inT7 (List.mem_of_getElem? (i := 45) rfl)) rfl
theorem se_X12_whyGo : Cond.selects RX12 yX12_whyGo yX12_whyGo ∈ gT := gT_in (inP (List.mem_of_getElem? (i := 87) rfl)) rfl
theorem mi_X12_lane : Mi yX12_lane cX12_lane 3 (some .int) 2 := ⟨kc_X12_lane, ki_RX12, ⟨by decide +kernel, by decide +kernel⟩, by decide +kernel⟩
theorem in_X12_lane : Cond.instanceMethod yX12_lane ∈ gT := gT_in (inT7 (List.mem_of_getElem? (i := 12) rfl)) rfl
theorem se_X12_lane : Cond.selects RX12 yX12_lane yX12_lane ∈ gT := gT_in (inT7 (List.mem_of_getElem? (i := 13) rfl)) rfl
theorem mi_X12_why : Mi yX12_why cX12_why 2 (some .int) 1 := ⟨kc_X12_why, ki_RX12, ⟨by decide +kernel, by decide +kernel⟩, by decide +kernel⟩
theorem in_X12_why : Cond.instanceMethod yX12_why ∈ gT := gT_in (inT7 (List.mem_of_getElem? (i := 40) rfl)) rfl
theorem se_X12_why : Cond.selects RX12 yX12_why yX12_why ∈ gT := gT_in (inT7 (List.mem_of_getElem? (i := 41) rfl)) rfl
theorem mi_X12_worn : Mi yX12_worn cX12_worn 2 (some .int) 1 := ⟨kc_X12_worn, ki_RX12, ⟨by decide +kernel, by decide +kernel⟩, by decide +kernel⟩
theorem in_X12_worn : Cond.instanceMethod yX12_worn ∈ gT := gT_in (inT7 (List.mem_of_getElem? (i := 52) rfl)) rfl
theorem se_X12_worn : Cond.selects RX12 yX12_worn yX12_worn ∈ gT := gT_in (inT7 (List.mem_of_getElem? (i := 53) rfl)) rfl
theorem mi_X12_fillings : Mi yX12_fillings cX12_fillings 2 (some .int) 1 := ⟨kc_X12_fillings, ki_RX12, ⟨by decide +kernel, by decide +kernel⟩, by decide +kernel⟩
theorem in_X12_fillings : Cond.instanceMethod yX12_fillings ∈ gT := gT_in (inT7 (List.mem_of_getElem? (i := 60) rfl)) rfl
theorem se_X12_fillings : Cond.selects RX12 yX12_fillings yX12_fillings ∈ gT := gT_in (inT7 (List.mem_of_getElem? (i := 61) rfl)) rfl
theorem mi_X12_stores : Mi yX12_stores cX12_stores 2 (none) 0 := ⟨kc_X12_stores, ki_RX12, ⟨by decide +kernel, by decide +kernel⟩, by decide +kernel⟩
theorem in_X12_stores : Cond.instanceMethod yX12_stores ∈ gT := gT_in (inT7 (List.mem_of_getElem? (i := 73) rfl)) rfl
theorem se_X12_stores : Cond.selects RX12 yX12_stores yX12_stores ∈ gT := gT_in (inP (List.mem_of_getElem? (i := 91) rfl)) rfl
theorem mi_X12_isAgain : Mi yX12_isAgain cX12_isAgain 2 (none) 0 := ⟨kc_X12_isAgain, ki_RX12, ⟨by decide +kernel, by decide +kernel⟩, by decide +kernel⟩
theorem in_X12_isAgain : Cond.instanceMethod yX12_isAgain ∈ gT := gT_in (inT7 (List.mem_of_getElem? (i := 160) rfl)) rfl
theorem se_X12_isAgain : Cond.selects RX12 yX12_isAgain yX12_isAgain ∈ gT := gT_in (inP (List.mem_of_getElem? (i := 103) rfl)) rfl
theorem mi_X12_notes : Mi yX12_notes cX12_notes 2 (none) 0 := ⟨kc_X12_notes, ki_RX12, ⟨by decide +kernel, by decide +kernel⟩, by decide +kernel⟩
theorem in_X12_notes : Cond.instanceMethod yX12_notes ∈ gT := gT_in (inT7 (List.mem_of_getElem? (i := 81) rfl)) rfl
theorem se_X12_notes : Cond.selects RX12 yX12_notes yX12_notes ∈ gT := gT_in (inP (List.mem_of_getElem? (i := 93) rfl)) rfl
theorem mi_X12_goes : Mi yX12_goes cX12_goes 2 (none) 1 := ⟨kc_X12_goes, ki_RX12, ⟨by decide +kernel, by decide +kernel⟩, by decide +kernel⟩
theorem in_X12_goes : Cond.instanceMethod yX12_goes ∈ gT := gT_in (inT7 (List.mem_of_getElem? (i := 77) rfl)) rfl
theorem se_X12_goes : Cond.selects RX12 yX12_goes yX12_goes ∈ gT := gT_in (inP (List.mem_of_getElem? (i := 92) rfl)) rfl
theorem mi_X12_go : Mi yX12_go cX12_go 3 (some .int) 1 := ⟨kc_X12_go, ki_RX12, ⟨by decide +kernel, by decide +kernel⟩, by decide +kernel⟩
theorem in_X12_go : Cond.instanceMethod yX12_go ∈ gT := gT_in (inT7 (List.mem_of_getElem? (i := 68) rfl)) rfl
theorem se_X12_go : Cond.selects RX12 yX12_go yX12_go ∈ gT := gT_in (inT7 (List.mem_of_getElem? (i := 69) rfl)) rfl
theorem mi_X12_whyRut : Mi yX12_whyRut cX12_whyRut 4 (some .int) 2 := ⟨kc_X12_whyRut, ki_RX12, ⟨by decide +kernel, by decide +kernel⟩, by decide +kernel⟩
theorem in_X12_whyRut : Cond.instanceMethod yX12_whyRut ∈ gT := gT_in (inT7 (List.mem_of_getElem? (i := 93) rfl)) rfl
theorem se_X12_whyRut : Cond.selects RX12 yX12_whyRut yX12_whyRut ∈ gT := gT_in (inP (List.mem_of_getElem? (i := 95) rfl)) rfl
theorem mi_X12_shovels : Mi yX12_shovels cX12_shovels 4 (some .int) 2 := ⟨kc_X12_shovels, ki_RX12, ⟨by decide +kernel, by decide +kernel⟩, by decide +kernel⟩
theorem in_X12_shovels : Cond.instanceMethod yX12_shovels ∈ gT := gT_in (inT7 (List.mem_of_getElem? (i := 89) rfl)) rfl
theorem se_X12_shovels : Cond.selects RX12 yX12_shovels yX12_shovels ∈ gT := gT_in (inP (List.mem_of_getElem? (i := 94) rfl)) rfl
theorem mi_X12_fill : Mi yX12_fill cX12_fill 2 (some .int) 1 := ⟨kc_X12_fill, ki_RX12, ⟨by decide +kernel, by decide +kernel⟩, by decide +kernel⟩
theorem in_X12_fill : Cond.instanceMethod yX12_fill ∈ gT := gT_in (inT7 (List.mem_of_getElem? (i := 84) rfl)) rfl
theorem se_X12_fill : Cond.selects RX12 yX12_fill yX12_fill ∈ gT := gT_in (inT7 (List.mem_of_getElem? (i := 85) rfl)) rfl
theorem mi_X12_dig : Mi yX12_dig cX12_dig 2 (some .int) 1 := ⟨kc_X12_dig, ki_RX12, ⟨by decide +kernel, by decide +kernel⟩, by decide +kernel⟩
theorem in_X12_dig : Cond.instanceMethod yX12_dig ∈ gT := gT_in (inT7 (List.mem_of_getElem? (i := 96) rfl)) rfl
theorem se_X12_dig : Cond.selects RX12 yX12_dig yX12_dig ∈ gT := gT_in (inT7 (List.mem_of_getElem? (i := 97) rfl)) rfl
theorem mi_X12_turn : Mi yX12_turn cX12_turn 2 (some .int) 1 := ⟨kc_X12_turn, ki_RX12, ⟨by decide +kernel, by decide +kernel⟩, by decide +kernel⟩
theorem in_X12_turn : Cond.instanceMethod yX12_turn ∈ gT := gT_in (inT7 (List.mem_of_getElem? (i := 100) rfl)) rfl
theorem se_X12_turn : Cond.selects RX12 yX12_turn yX12_turn ∈ gT := gT_in (inT7 (List.mem_of_getElem? (i := 101) rfl)) rfl
theorem mi_X12_seasonTo : Mi yX12_seasonTo cX12_seasonTo 4 (some .int) 1 := ⟨kc_X12_seasonTo, ki_RX12, ⟨by decide +kernel, by decide +kernel⟩, by decide +kernel⟩
theorem in_X12_seasonTo : Cond.instanceMethod yX12_seasonTo ∈ gT := gT_in (inT7 (List.mem_of_getElem? (i := 114) rfl)) rfl
theorem se_X12_seasonTo : Cond.selects RX12 yX12_seasonTo yX12_seasonTo ∈ gT := gT_in (inP (List.mem_of_getElem? (i := 97) rfl)) rfl
theorem mi_X12_seasons : Mi yX12_seasons cX12_seasons 3 (some .int) 1 := ⟨kc_X12_seasons, ki_RX12, ⟨by decide +kernel, by decide +kernel⟩, by decide +kernel⟩
theorem in_X12_seasons : Cond.instanceMethod yX12_seasons ∈ gT := gT_in (inT7 (List.mem_of_getElem? (i := 108) rfl)) rfl
theorem se_X12_seasons : Cond.selects RX12 yX12_seasons yX12_seasons ∈ gT := gT_in (inT7 (List.mem_of_getElem? (i := 109) rfl)) rfl
theorem mi_X12_rain : Mi yX12_rain cX12_rain 2 (some .int) 1 := ⟨kc_X12_rain, ki_RX12, ⟨by decide +kernel, by decide +kernel⟩, by decide +kernel⟩
theorem in_X12_rain : Cond.instanceMethod yX12_rain ∈ gT := gT_in (inT7 (List.mem_of_getElem? (i := 117) rfl)) rfl
theorem se_X12_rain : Cond.selects RX12 yX12_rain yX12_rain ∈ gT := gT_in (inT7 (List.mem_of_getElem? (i := 118) rfl)) rfl
theorem mi_X12_undo : Mi yX12_undo cX12_undo 3 (some .int) 1 := ⟨kc_X12_undo, ki_RX12, ⟨by decide +kernel, by decide +kernel⟩, by decide +kernel⟩
theorem in_X12_undo : Cond.instanceMethod yX12_undo ∈ gT := gT_in (inT7 (List.mem_of_getElem? (i := 122) rfl)) rfl
theorem se_X12_undo : Cond.selects RX12 yX12_undo yX12_undo ∈ gT := gT_in (inT7 (List.mem_of_getElem? (i := 123) rfl)) rfl
theorem mi_X12_whyNot : Mi yX12_whyNot cX12_whyNot 3 (some .int) 1 := ⟨kc_X12_whyNot, ki_RX12, ⟨by decide +kernel, by decide +kernel⟩, by decide +kernel⟩
theorem in_X12_whyNot : Cond.instanceMethod yX12_whyNot ∈ gT := gT_in (inT7 (List.mem_of_getElem? (i := 141) rfl)) rfl
theorem se_X12_whyNot : Cond.selects RX12 yX12_whyNot yX12_whyNot ∈ gT := gT_in (inP (List.mem_of_getElem? (i := 100) rfl)) rfl
theorem mi_X12_does : Mi yX12_does cX12_does 2 (none) 1 := ⟨kc_X12_does, ki_RX12, ⟨by decide +kernel, by decide +kernel⟩, by decide +kernel⟩
theorem in_X12_does : Cond.instanceMethod yX12_does ∈ gT := gT_in (inT7 (List.mem_of_getElem? (i := 152) rfl)) rfl
theorem se_X12_does : Cond.selects RX12 yX12_does yX12_does ∈ gT := gT_in (inP (List.mem_of_getElem? (i := 101) rfl)) rfl
theorem mi_X12_tells : Mi yX12_tells cX12_tells 3 (some .int) 1 := ⟨kc_X12_tells, ki_RX12, ⟨by decide +kernel, by decide +kernel⟩, by decide +kernel⟩
theorem in_X12_tells : Cond.instanceMethod yX12_tells ∈ gT := gT_in (inT7 (List.mem_of_getElem? (i := 137) rfl)) rfl
theorem se_X12_tells : Cond.selects RX12 yX12_tells yX12_tells ∈ gT := gT_in (inP (List.mem_of_getElem? (i := 99) rfl)) rfl
theorem mi_X12_noTray : Mi yX12_noTray cX12_noTray 2 (some .int) 1 := ⟨kc_X12_noTray, ki_RX12, ⟨by decide +kernel, by decide +kernel⟩, by decide +kernel⟩
theorem in_X12_noTray : Cond.instanceMethod yX12_noTray ∈ gT := gT_in (inT7 (List.mem_of_getElem? (i := 133) rfl)) rfl
theorem se_X12_noTray : Cond.selects RX12 yX12_noTray yX12_noTray ∈ gT := gT_in (inP (List.mem_of_getElem? (i := 98) rfl)) rfl
theorem mi_X12_depthSum : Mi yX12_depthSum cX12_depthSum 3 (some .int) 0 := ⟨kc_X12_depthSum, ki_RX12, ⟨by decide +kernel, by decide +kernel⟩, by decide +kernel⟩
theorem in_X12_depthSum : Cond.instanceMethod yX12_depthSum ∈ gT := gT_in (inT7 (List.mem_of_getElem? (i := 156) rfl)) rfl
theorem se_X12_depthSum : Cond.selects RX12 yX12_depthSum yX12_depthSum ∈ gT := gT_in (inP (List.mem_of_getElem? (i := 102) rfl)) rfl
theorem mi_X12_judge : Mi yX12_judge cX12_judge 7 (some .int) 2 := ⟨kc_X12_judge, ki_RX12, ⟨by decide +kernel, by decide +kernel⟩, by decide +kernel⟩
theorem in_X12_judge : Cond.instanceMethod yX12_judge ∈ gT := gT_in (inT7 (List.mem_of_getElem? (i := 127) rfl)) rfl
theorem se_X12_judge : Cond.selects RX12 yX12_judge yX12_judge ∈ gT := gT_in (inT7 (List.mem_of_getElem? (i := 128) rfl)) rfl
theorem mi_X12_perform : Mi yX12_perform cX12_perform 4 (some .int) 1 := ⟨kc_X12_perform, ki_RX12, ⟨by decide +kernel, by decide +kernel⟩, by decide +kernel⟩
theorem in_X12_perform : Cond.instanceMethod yX12_perform ∈ gT := gT_in (inT7 (List.mem_of_getElem? (i := 163) rfl)) rfl
theorem se_X12_perform : Cond.selects RX12 yX12_perform yX12_perform ∈ gT := gT_in (inT7 (List.mem_of_getElem? (i := 164) rfl)) rfl
theorem mi_X12_draw : Mi yX12_draw cX12_draw 2 (some .int) 1 := ⟨kc_X12_draw, ki_RX12, ⟨by decide +kernel, by decide +kernel⟩, by decide +kernel⟩
theorem in_X12_draw : Cond.instanceMethod yX12_draw ∈ gT := gT_in (inT7 (List.mem_of_getElem? (i := 176) rfl)) rfl
theorem se_X12_draw : Cond.selects RX12 yX12_draw yX12_draw ∈ gT := gT_in (inP (List.mem_of_getElem? (i := 105) rfl)) rfl
theorem mi_X12_drawn : Mi yX12_drawn cX12_drawn 2 (some .int) 0 := ⟨kc_X12_drawn, ki_RX12, ⟨by decide +kernel, by decide +kernel⟩, by decide +kernel⟩
theorem in_X12_drawn : Cond.instanceMethod yX12_drawn ∈ gT := gT_in (inT7 (List.mem_of_getElem? (i := 172) rfl)) rfl
theorem se_X12_drawn : Cond.selects RX12 yX12_drawn yX12_drawn ∈ gT := gT_in (inP (List.mem_of_getElem? (i := 104) rfl)) rfl
theorem mi_X12_year : Mi yX12_year cX12_year 6 (some .int) 2 := ⟨kc_X12_year, ki_RX12, ⟨by decide +kernel, by decide +kernel⟩, by decide +kernel⟩
theorem in_X12_year : Cond.instanceMethod yX12_year ∈ gT := gT_in (inT7 (List.mem_of_getElem? (i := 167) rfl)) rfl
theorem se_X12_year : Cond.selects RX12 yX12_year yX12_year ∈ gT := gT_in (inT7 (List.mem_of_getElem? (i := 168) rfl)) rfl
theorem mi_X12_laysFar : Mi yX12_laysFar cX12_laysFar 4 (none) 1 := ⟨kc_X12_laysFar, ki_RX12, ⟨by decide +kernel, by decide +kernel⟩, by decide +kernel⟩
theorem in_X12_laysFar : Cond.instanceMethod yX12_laysFar ∈ gT := gT_in (inT7 (List.mem_of_getElem? (i := 189) rfl)) rfl
theorem se_X12_laysFar : Cond.selects RX12 yX12_laysFar yX12_laysFar ∈ gT := gT_in (inP (List.mem_of_getElem? (i := 107) rfl)) rfl
theorem mi_X12_nearer : Mi yX12_nearer cX12_nearer 3 (some .boolean) 2 := ⟨kc_X12_nearer, ki_RX12, ⟨by decide +kernel, by decide +kernel⟩, by decide +kernel⟩
theorem in_X12_nearer : Cond.instanceMethod yX12_nearer ∈ gT := gT_in (inT7 (List.mem_of_getElem? (i := 197) rfl)) rfl
theorem se_X12_nearer : Cond.selects RX12 yX12_nearer yX12_nearer ∈ gT := gT_in (inP (List.mem_of_getElem? (i := 108) rfl)) rfl
theorem mi_X12_everyLane : Mi yX12_everyLane cX12_everyLane 1 (some .int) 0 := ⟨kc_X12_everyLane, ki_RX12, ⟨by decide +kernel, by decide +kernel⟩, by decide +kernel⟩
theorem in_X12_everyLane : Cond.instanceMethod yX12_everyLane ∈ gT := gT_in (inT7 (List.mem_of_getElem? (i := 185) rfl)) rfl
theorem se_X12_everyLane : Cond.selects RX12 yX12_everyLane yX12_everyLane ∈ gT := gT_in (inP (List.mem_of_getElem? (i := 106) rfl)) rfl
theorem mi_X12_reach : Mi yX12_reach cX12_reach 3 (some .int) 0 := ⟨kc_X12_reach, ki_RX12, ⟨by decide +kernel, by decide +kernel⟩, by decide +kernel⟩
theorem in_X12_reach : Cond.instanceMethod yX12_reach ∈ gT := gT_in (inT7 (List.mem_of_getElem? (i := 180) rfl)) rfl
theorem se_X12_reach : Cond.selects RX12 yX12_reach yX12_reach ∈ gT := gT_in (inT7 (List.mem_of_getElem? (i := 181) rfl)) rfl
theorem mi_X12_toldFar : Mi yX12_toldFar cX12_toldFar 1 (some .int) 1 := ⟨kc_X12_toldFar, ki_RX12, ⟨by decide +kernel, by decide +kernel⟩, by decide +kernel⟩
theorem st_X12_toldFar : Cond.static yX12_toldFar ∈ gT := gT_in (inT7 (List.mem_of_getElem? (i := 208) rfl)) rfl
theorem mi_X12_soonest : Mi yX12_soonest cX12_soonest 2 (some .int) 1 := ⟨kc_X12_soonest, ki_RX12, ⟨by decide +kernel, by decide +kernel⟩, by decide +kernel⟩
theorem in_X12_soonest : Cond.instanceMethod yX12_soonest ∈ gT := gT_in (inT7 (List.mem_of_getElem? (i := 200) rfl)) rfl
theorem se_X12_soonest : Cond.selects RX12 yX12_soonest yX12_soonest ∈ gT := gT_in (inT7 (List.mem_of_getElem? (i := 201) rfl)) rfl
theorem mi_X12_rowsFrom : Mi yX12_rowsFrom cX12_rowsFrom 8 (some .int) 3 := ⟨kc_X12_rowsFrom, ki_RX12, ⟨by decide +kernel, by decide +kernel⟩, by decide +kernel⟩
theorem in_X12_rowsFrom : Cond.instanceMethod yX12_rowsFrom ∈ gT := gT_in (inT7 (List.mem_of_getElem? (i := 217) rfl)) rfl
theorem se_X12_rowsFrom : Cond.selects RX12 yX12_rowsFrom yX12_rowsFrom ∈ gT := gT_in (inP (List.mem_of_getElem? (i := 110) rfl)) rfl
theorem mi_X12_rows : Mi yX12_rows cX12_rows 3 (some .int) 2 := ⟨kc_X12_rows, ki_RX12, ⟨by decide +kernel, by decide +kernel⟩, by decide +kernel⟩
theorem in_X12_rows : Cond.instanceMethod yX12_rows ∈ gT := gT_in (inT7 (List.mem_of_getElem? (i := 211) rfl)) rfl
theorem se_X12_rows : Cond.selects RX12 yX12_rows yX12_rows ∈ gT := gT_in (inT7 (List.mem_of_getElem? (i := 212) rfl)) rfl
theorem mi_X12_finds : Mi yX12_finds cX12_finds 9 (some .boolean) 4 := ⟨kc_X12_finds, ki_RX12, ⟨by decide +kernel, by decide +kernel⟩, by decide +kernel⟩
theorem in_X12_finds : Cond.instanceMethod yX12_finds ∈ gT := gT_in (inT7 (List.mem_of_getElem? (i := 225) rfl)) rfl
theorem se_X12_finds : Cond.selects RX12 yX12_finds yX12_finds ∈ gT := gT_in (inP (List.mem_of_getElem? (i := 111) rfl)) rfl
theorem mi_X12_way : Mi yX12_way cX12_way 4 (some .int) 2 := ⟨kc_X12_way, ki_RX12, ⟨by decide +kernel, by decide +kernel⟩, by decide +kernel⟩
theorem in_X12_way : Cond.instanceMethod yX12_way ∈ gT := gT_in (inT7 (List.mem_of_getElem? (i := 220) rfl)) rfl
theorem se_X12_way : Cond.selects RX12 yX12_way yX12_way ∈ gT := gT_in (inT7 (List.mem_of_getElem? (i := 221) rfl)) rfl
theorem mi_X12_toAndFro : Mi yX12_toAndFro cX12_toAndFro 4 (some .int) 1 := ⟨kc_X12_toAndFro, ki_RX12, ⟨by decide +kernel, by decide +kernel⟩, by decide +kernel⟩
theorem in_X12_toAndFro : Cond.instanceMethod yX12_toAndFro ∈ gT := gT_in (inT7 (List.mem_of_getElem? (i := 228) rfl)) rfl
theorem se_X12_toAndFro : Cond.selects RX12 yX12_toAndFro yX12_toAndFro ∈ gT := gT_in (inT7 (List.mem_of_getElem? (i := 229) rfl)) rfl
theorem mi_X12_costOf : Mi yX12_costOf cX12_costOf 3 (some .int) 1 := ⟨kc_X12_costOf, ki_RX12, ⟨by decide +kernel, by decide +kernel⟩, by decide +kernel⟩
theorem in_X12_costOf : Cond.instanceMethod yX12_costOf ∈ gT := gT_in (inT8 (List.mem_of_getElem? (i := 5) rfl)) rfl
theorem se_X12_costOf : Cond.selects RX12 yX12_costOf yX12_costOf ∈ gT := gT_in (inP (List.mem_of_getElem? (i := 114) rfl)) rfl
theorem mi_X12_costBy : Mi yX12_costBy cX12_costBy 4 (some .int) 2 := ⟨kc_X12_costBy, ki_RX12, ⟨by decide +kernel, by decide +kernel⟩, by decide +kernel⟩
theorem in_X12_costBy : Cond.instanceMethod yX12_costBy ∈ gT := gT_in (inT8 (List.mem_of_getElem? (i := 1) rfl)) rfl
theorem se_X12_costBy : Cond.selects RX12 yX12_costBy yX12_costBy ∈ gT := gT_in (inP (List.mem_of_getElem? (i := 113) rfl)) rfl
theorem mi_X12_laysCost : Mi yX12_laysCost cX12_laysCost 5 (some .int) 1 := ⟨kc_X12_laysCost, ki_RX12, ⟨by decide +kernel, by decide +kernel⟩, by decide +kernel⟩
theorem in_X12_laysCost : Cond.instanceMethod yX12_laysCost ∈ gT := gT_in (inT7 (List.mem_of_getElem? (i := 237) rfl)) rfl
theorem se_X12_laysCost : Cond.selects RX12 yX12_laysCost yX12_laysCost ∈ gT := gT_in (inP (List.mem_of_getElem? (i := 112) rfl)) rfl
theorem mi_X12_laneAt : Mi yX12_laneAt cX12_laneAt 5 (some .int) 1 := ⟨kc_X12_laneAt, ki_RX12, ⟨by decide +kernel, by decide +kernel⟩, by decide +kernel⟩
theorem in_X12_laneAt : Cond.instanceMethod yX12_laneAt ∈ gT := gT_in (inT8 (List.mem_of_getElem? (i := 13) rfl)) rfl
theorem se_X12_laneAt : Cond.selects RX12 yX12_laneAt yX12_laneAt ∈ gT := gT_in (inP (List.mem_of_getElem? (i := 115) rfl)) rfl
theorem mi_X12_cheapest : Mi yX12_cheapest cX12_cheapest 4 (some .int) 2 := ⟨kc_X12_cheapest, ki_RX12, ⟨by decide +kernel, by decide +kernel⟩, by decide +kernel⟩
theorem in_X12_cheapest : Cond.instanceMethod yX12_cheapest ∈ gT := gT_in (inT7 (List.mem_of_getElem? (i := 232) rfl)) rfl
theorem se_X12_cheapest : Cond.selects RX12 yX12_cheapest yX12_cheapest ∈ gT := gT_in (inT7 (List.mem_of_getElem? (i := 233) rfl)) rfl
theorem mi_X12_cheapBy : Mi yX12_cheapBy cX12_cheapBy 3 (some .int) 2 := ⟨kc_X12_cheapBy, ki_RX12, ⟨by decide +kernel, by decide +kernel⟩, by decide +kernel⟩
theorem in_X12_cheapBy : Cond.instanceMethod yX12_cheapBy ∈ gT := gT_in (inT8 (List.mem_of_getElem? (i := 8) rfl)) rfl
theorem se_X12_cheapBy : Cond.selects RX12 yX12_cheapBy yX12_cheapBy ∈ gT := gT_in (inT8 (List.mem_of_getElem? (i := 9) rfl)) rfl
theorem mi_X12_areJoined : Mi yX12_areJoined cX12_areJoined 7 (some .boolean) 1 := ⟨kc_X12_areJoined, ki_RX12, ⟨by decide +kernel, by decide +kernel⟩, by decide +kernel⟩
theorem in_X12_areJoined : Cond.instanceMethod yX12_areJoined ∈ gT := gT_in (inT8 (List.mem_of_getElem? (i := 21) rfl)) rfl
theorem se_X12_areJoined : Cond.selects RX12 yX12_areJoined yX12_areJoined ∈ gT := gT_in (inP (List.mem_of_getElem? (i := 116) rfl)) rfl
theorem mi_X12_joins : Mi yX12_joins cX12_joins 7 (some .int) 1 := ⟨kc_X12_joins, ki_RX12, ⟨by decide +kernel, by decide +kernel⟩, by decide +kernel⟩
theorem in_X12_joins : Cond.instanceMethod yX12_joins ∈ gT := gT_in (inT8 (List.mem_of_getElem? (i := 16) rfl)) rfl
theorem se_X12_joins : Cond.selects RX12 yX12_joins yX12_joins ∈ gT := gT_in (inT8 (List.mem_of_getElem? (i := 17) rfl)) rfl
theorem mi_X12_shuts : Mi yX12_shuts cX12_shuts 5 (some .int) 2 := ⟨kc_X12_shuts, ki_RX12, ⟨by decide +kernel, by decide +kernel⟩, by decide +kernel⟩
theorem in_X12_shuts : Cond.instanceMethod yX12_shuts ∈ gT := gT_in (inT8 (List.mem_of_getElem? (i := 24) rfl)) rfl
theorem se_X12_shuts : Cond.selects RX12 yX12_shuts yX12_shuts ∈ gT := gT_in (inT8 (List.mem_of_getElem? (i := 25) rfl)) rfl
theorem mi_X12_turnedTo : Mi yX12_turnedTo cX12_turnedTo 3 (some .int) 1 := ⟨kc_X12_turnedTo, ki_RX12, ⟨by decide +kernel, by decide +kernel⟩, by decide +kernel⟩
theorem in_X12_turnedTo : Cond.instanceMethod yX12_turnedTo ∈ gT := gT_in (inT8 (List.mem_of_getElem? (i := 33) rfl)) rfl
theorem se_X12_turnedTo : Cond.selects RX12 yX12_turnedTo yX12_turnedTo ∈ gT := gT_in (inP (List.mem_of_getElem? (i := 117) rfl)) rfl
theorem mi_X12_turning : Mi yX12_turning cX12_turning 3 (some .int) 1 := ⟨kc_X12_turning, ki_RX12, ⟨by decide +kernel, by decide +kernel⟩, by decide +kernel⟩
theorem in_X12_turning : Cond.instanceMethod yX12_turning ∈ gT := gT_in (inT8 (List.mem_of_getElem? (i := 28) rfl)) rfl
theorem se_X12_turning : Cond.selects RX12 yX12_turning yX12_turning ∈ gT := gT_in (inT8 (List.mem_of_getElem? (i := 29) rfl)) rfl
theorem mi_X12_when : Mi yX12_when cX12_when 4 (some .int) 1 := ⟨kc_X12_when, ki_RX12, ⟨by decide +kernel, by decide +kernel⟩, by decide +kernel⟩
theorem in_X12_when : Cond.instanceMethod yX12_when ∈ gT := gT_in (inT8 (List.mem_of_getElem? (i := 36) rfl)) rfl
theorem se_X12_when : Cond.selects RX12 yX12_when yX12_when ∈ gT := gT_in (inT8 (List.mem_of_getElem? (i := 37) rfl)) rfl
theorem mi_X12_starts : Mi yX12_starts cX12_starts 5 (some .int) 1 := ⟨kc_X12_starts, ki_RX12, ⟨by decide +kernel, by decide +kernel⟩, by decide +kernel⟩
theorem in_X12_starts : Cond.instanceMethod yX12_starts ∈ gT := gT_in (inT8 (List.mem_of_getElem? (i := 40) rfl)) rfl
theorem se_X12_starts : Cond.selects RX12 yX12_starts yX12_starts ∈ gT := gT_in (inT8 (List.mem_of_getElem? (i := 41) rfl)) rfl
theorem mi_X12_noWorn : Mi yX12_noWorn cX12_noWorn 6 (some .int) 1 := ⟨kc_X12_noWorn, ki_RX12, ⟨by decide +kernel, by decide +kernel⟩, by decide +kernel⟩
theorem in_X12_noWorn : Cond.instanceMethod yX12_noWorn ∈ gT := gT_in (inT8 (List.mem_of_getElem? (i := 49) rfl)) rfl
theorem se_X12_noWorn : Cond.selects RX12 yX12_noWorn yX12_noWorn ∈ gT := gT_in (inP (List.mem_of_getElem? (i := 118) rfl)) rfl
theorem mi_X12_rainsOf : Mi yX12_rainsOf cX12_rainsOf 7 (some .int) 1 := ⟨kc_X12_rainsOf, ki_RX12, ⟨by decide +kernel, by decide +kernel⟩, by decide +kernel⟩
theorem in_X12_rainsOf : Cond.instanceMethod yX12_rainsOf ∈ gT := gT_in (inT8 (List.mem_of_getElem? (i := 54) rfl)) rfl
theorem se_X12_rainsOf : Cond.selects RX12 yX12_rainsOf yX12_rainsOf ∈ gT := gT_in (inP (List.mem_of_getElem? (i := 119) rfl)) rfl
theorem mi_X12_rains : Mi yX12_rains cX12_rains 3 (some .int) 1 := ⟨kc_X12_rains, ki_RX12, ⟨by decide +kernel, by decide +kernel⟩, by decide +kernel⟩
theorem in_X12_rains : Cond.instanceMethod yX12_rains ∈ gT := gT_in (inT8 (List.mem_of_getElem? (i := 44) rfl)) rfl
theorem se_X12_rains : Cond.selects RX12 yX12_rains yX12_rains ∈ gT := gT_in (inT8 (List.mem_of_getElem? (i := 45) rfl)) rfl
theorem mi_X12_mostOften : Mi yX12_mostOften cX12_mostOften 6 (some .int) 2 := ⟨kc_X12_mostOften, ki_RX12, ⟨by decide +kernel, by decide +kernel⟩, by decide +kernel⟩
theorem in_X12_mostOften : Cond.instanceMethod yX12_mostOften ∈ gT := gT_in (inT8 (List.mem_of_getElem? (i := 62) rfl)) rfl
theorem se_X12_mostOften : Cond.selects RX12 yX12_mostOften yX12_mostOften ∈ gT := gT_in (inP (List.mem_of_getElem? (i := 120) rfl)) rfl
theorem mi_X12_attempt : Mi yX12_attempt cX12_attempt 8 (some .int) 1 := ⟨kc_X12_attempt, ki_RX12, ⟨by decide +kernel, by decide +kernel⟩, by decide +kernel⟩
theorem in_X12_attempt : Cond.instanceMethod yX12_attempt ∈ gT := gT_in (inT8 (List.mem_of_getElem? (i := 57) rfl)) rfl
theorem se_X12_attempt : Cond.selects RX12 yX12_attempt yX12_attempt ∈ gT := gT_in (inT8 (List.mem_of_getElem? (i := 58) rfl)) rfl
theorem mi_X12_winsAt : Mi yX12_winsAt cX12_winsAt 6 (some .boolean) 2 := ⟨kc_X12_winsAt, ki_RX12, ⟨by decide +kernel, by decide +kernel⟩, by decide +kernel⟩
theorem in_X12_winsAt : Cond.instanceMethod yX12_winsAt ∈ gT := gT_in (inT8 (List.mem_of_getElem? (i := 74) rfl)) rfl
theorem se_X12_winsAt : Cond.selects RX12 yX12_winsAt yX12_winsAt ∈ gT := gT_in (inP (List.mem_of_getElem? (i := 122) rfl)) rfl
theorem mi_X12_winsBy : Mi yX12_winsBy cX12_winsBy 5 (some .boolean) 3 := ⟨kc_X12_winsBy, ki_RX12, ⟨by decide +kernel, by decide +kernel⟩, by decide +kernel⟩
theorem in_X12_winsBy : Cond.instanceMethod yX12_winsBy ∈ gT := gT_in (inT8 (List.mem_of_getElem? (i := 78) rfl)) rfl
theorem se_X12_winsBy : Cond.selects RX12 yX12_winsBy yX12_winsBy ∈ gT := gT_in (inP (List.mem_of_getElem? (i := 123) rfl)) rfl
theorem mi_X12_forgets : Mi yX12_forgets cX12_forgets 2 (none) 0 := ⟨kc_X12_forgets, ki_RX12, ⟨by decide +kernel, by decide +kernel⟩, by decide +kernel⟩
theorem in_X12_forgets : Cond.instanceMethod yX12_forgets ∈ gT := gT_in (inT8 (List.mem_of_getElem? (i := 70) rfl)) rfl
theorem se_X12_forgets : Cond.selects RX12 yX12_forgets yX12_forgets ∈ gT := gT_in (inP (List.mem_of_getElem? (i := 121) rfl)) rfl
theorem mi_X12_wins : Mi yX12_wins cX12_wins 1 (some .int) 0 := ⟨kc_X12_wins, ki_RX12, ⟨by decide +kernel, by decide +kernel⟩, by decide +kernel⟩
theorem in_X12_wins : Cond.instanceMethod yX12_wins ∈ gT := gT_in (inT8 (List.mem_of_getElem? (i := 65) rfl)) rfl
theorem se_X12_wins : Cond.selects RX12 yX12_wins yX12_wins ∈ gT := gT_in (inT8 (List.mem_of_getElem? (i := 66) rfl)) rfl
theorem mi_X12_best : Mi yX12_best cX12_best 2 (some .int) 0 := ⟨kc_X12_best, ki_RX12, ⟨by decide +kernel, by decide +kernel⟩, by decide +kernel⟩
theorem in_X12_best : Cond.instanceMethod yX12_best ∈ gT := gT_in (inT8 (List.mem_of_getElem? (i := 81) rfl)) rfl
theorem se_X12_best : Cond.selects RX12 yX12_best yX12_best ∈ gT := gT_in (inT8 (List.mem_of_getElem? (i := 82) rfl)) rfl
theorem mi_X12_wholeOf : Mi yX12_wholeOf cX12_wholeOf 3 (some .int) 1 := ⟨kc_X12_wholeOf, ki_RX12, ⟨by decide +kernel, by decide +kernel⟩, by decide +kernel⟩
theorem st_X12_wholeOf : Cond.static yX12_wholeOf ∈ gT := gT_in (inT8 (List.mem_of_getElem? (i := 94) rfl)) rfl
theorem mi_X12_likelyBy : Mi yX12_likelyBy cX12_likelyBy 5 (some .int) 3 := ⟨kc_X12_likelyBy, ki_RX12, ⟨by decide +kernel, by decide +kernel⟩, by decide +kernel⟩
theorem in_X12_likelyBy : Cond.instanceMethod yX12_likelyBy ∈ gT := gT_in (inT8 (List.mem_of_getElem? (i := 98) rfl)) rfl
theorem se_X12_likelyBy : Cond.selects RX12 yX12_likelyBy yX12_likelyBy ∈ gT := gT_in (inP (List.mem_of_getElem? (i := 125) rfl)) rfl
theorem mi_X12_laysLikely : Mi yX12_laysLikely cX12_laysLikely 7 (some .int) 2 := ⟨kc_X12_laysLikely, ki_RX12, ⟨by decide +kernel, by decide +kernel⟩, by decide +kernel⟩
theorem in_X12_laysLikely : Cond.instanceMethod yX12_laysLikely ∈ gT := gT_in (inT8 (List.mem_of_getElem? (i := 91) rfl)) rfl
theorem se_X12_laysLikely : Cond.selects RX12 yX12_laysLikely yX12_laysLikely ∈ gT := gT_in (inP (List.mem_of_getElem? (i := 124) rfl)) rfl
theorem mi_X12_common : Mi yX12_common cX12_common 2 (some .int) 2 := ⟨kc_X12_common, ki_RX12, ⟨by decide +kernel, by decide +kernel⟩, by decide +kernel⟩
theorem st_X12_common : Cond.static yX12_common ∈ gT := gT_in (inT8 (List.mem_of_getElem? (i := 101) rfl)) rfl
theorem mi_X12_chance : Mi yX12_chance cX12_chance 5 (some .int) 3 := ⟨kc_X12_chance, ki_RX12, ⟨by decide +kernel, by decide +kernel⟩, by decide +kernel⟩
theorem in_X12_chance : Cond.instanceMethod yX12_chance ∈ gT := gT_in (inT8 (List.mem_of_getElem? (i := 85) rfl)) rfl
theorem se_X12_chance : Cond.selects RX12 yX12_chance yX12_chance ∈ gT := gT_in (inT8 (List.mem_of_getElem? (i := 86) rfl)) rfl
theorem mi_X12_bestBy : Mi yX12_bestBy cX12_bestBy 5 (some .int) 2 := ⟨kc_X12_bestBy, ki_RX12, ⟨by decide +kernel, by decide +kernel⟩, by decide +kernel⟩
theorem in_X12_bestBy : Cond.instanceMethod yX12_bestBy ∈ gT := gT_in (inT8 (List.mem_of_getElem? (i := 104) rfl)) rfl
theorem se_X12_bestBy : Cond.selects RX12 yX12_bestBy yX12_bestBy ∈ gT := gT_in (inT8 (List.mem_of_getElem? (i := 105) rfl)) rfl
theorem mi_X12_cut : Mi yX12_cut cX12_cut 3 (some .long) 2 := ⟨kc_X12_cut, ki_RX12, ⟨by decide +kernel, by decide +kernel⟩, by decide +kernel⟩
theorem st_X12_cut : Cond.static yX12_cut ∈ gT := gT_in (inT8 (List.mem_of_getElem? (i := 117) rfl)) rfl
theorem mi_X12_numbers : Mi yX12_numbers cX12_numbers 5 (some .int) 3 := ⟨kc_X12_numbers, ki_RX12, ⟨by decide +kernel, by decide +kernel⟩, by decide +kernel⟩
theorem in_X12_numbers : Cond.instanceMethod yX12_numbers ∈ gT := gT_in (inT8 (List.mem_of_getElem? (i := 108) rfl)) rfl
theorem se_X12_numbers : Cond.selects RX12 yX12_numbers yX12_numbers ∈ gT := gT_in (inT8 (List.mem_of_getElem? (i := 109) rfl)) rfl
theorem mi_X12_write : Mi yX12_write cX12_write 6 (some .long) 3 := ⟨kc_X12_write, ki_RX12, ⟨by decide +kernel, by decide +kernel⟩, by decide +kernel⟩
theorem in_X12_write : Cond.instanceMethod yX12_write ∈ gT := gT_in (inT8 (List.mem_of_getElem? (i := 112) rfl)) rfl
theorem se_X12_write : Cond.selects RX12 yX12_write yX12_write ∈ gT := gT_in (inT8 (List.mem_of_getElem? (i := 113) rfl)) rfl
theorem mi_X12_lists : Mi yX12_lists cX12_lists 7 (some .int) 2 := ⟨kc_X12_lists, ki_RX12, ⟨by decide +kernel, by decide +kernel⟩, by decide +kernel⟩
theorem in_X12_lists : Cond.instanceMethod yX12_lists ∈ gT := gT_in (inT8 (List.mem_of_getElem? (i := 120) rfl)) rfl
theorem se_X12_lists : Cond.selects RX12 yX12_lists yX12_lists ∈ gT := gT_in (inT8 (List.mem_of_getElem? (i := 121) rfl)) rfl
theorem mi_X12_image : Mi yX12_image cX12_image 3 (some .int) 1 := ⟨kc_X12_image, ki_RX12, ⟨by decide +kernel, by decide +kernel⟩, by decide +kernel⟩
theorem in_X12_image : Cond.instanceMethod yX12_image ∈ gT := gT_in (inT8 (List.mem_of_getElem? (i := 124) rfl)) rfl
theorem se_X12_image : Cond.selects RX12 yX12_image yX12_image ∈ gT := gT_in (inT8 (List.mem_of_getElem? (i := 125) rfl)) rfl
theorem mi_X12_restore : Mi yX12_restore cX12_restore 3 (some .int) 1 := ⟨kc_X12_restore, ki_RX12, ⟨by decide +kernel, by decide +kernel⟩, by decide +kernel⟩
theorem in_X12_restore : Cond.instanceMethod yX12_restore ∈ gT := gT_in (inT8 (List.mem_of_getElem? (i := 128) rfl)) rfl
theorem se_X12_restore : Cond.selects RX12 yX12_restore yX12_restore ∈ gT := gT_in (inT8 (List.mem_of_getElem? (i := 129) rfl)) rfl
theorem mi_X12_count : Mi yX12_count cX12_count 2 (some .int) 1 := ⟨kc_X12_count, ki_RX12, ⟨by decide +kernel, by decide +kernel⟩, by decide +kernel⟩
theorem in_X12_count : Cond.instanceMethod yX12_count ∈ gT := gT_in (inT8 (List.mem_of_getElem? (i := 132) rfl)) rfl
theorem se_X12_count : Cond.selects RX12 yX12_count yX12_count ∈ gT := gT_in (inT8 (List.mem_of_getElem? (i := 133) rfl)) rfl
theorem mi_J6_bitCount_0f7a4 : Mi yJ6_bitCount_0f7a4 cJ6_bitCount_0f7a4 1 (some .int) 1 := ⟨kc_J6_bitCount_0f7a4, ki_RJ6, ⟨by decide +kernel, by decide +kernel⟩, by decide +kernel⟩
theorem st_J6_bitCount_0f7a4 : Cond.static yJ6_bitCount_0f7a4 ∈ gT := gT_in (inT4 (List.mem_of_getElem? (i := 15) rfl)) rfl
theorem mi_J9_floorMod_7cf53 : Mi yJ9_floorMod_7cf53 cJ9_floorMod_7cf53 3 (some .int) 2 := ⟨kc_J9_floorMod_7cf53, ki_RJ9, ⟨by decide +kernel, by decide +kernel⟩, by decide +kernel⟩
theorem st_J9_floorMod_7cf53 : Cond.static yJ9_floorMod_7cf53 ∈ gT := gT_in (inT4 (List.mem_of_getElem? (i := 160) rfl)) rfl
theorem mi_J9_max_7cf53 : Mi yJ9_max_7cf53 cJ9_max_7cf53 2 (some .int) 2 := ⟨kc_J9_max_7cf53, ki_RJ9, ⟨by decide +kernel, by decide +kernel⟩, by decide +kernel⟩
theorem st_J9_max_7cf53 : Cond.static yJ9_max_7cf53 ∈ gT := gT_in (inT3 (List.mem_of_getElem? (i := 39) rfl)) rfl
theorem mi_J9_min_7cf53 : Mi yJ9_min_7cf53 cJ9_min_7cf53 2 (some .int) 2 := ⟨kc_J9_min_7cf53, ki_RJ9, ⟨by decide +kernel, by decide +kernel⟩, by decide +kernel⟩
theorem st_J9_min_7cf53 : Cond.static yJ9_min_7cf53 ∈ gT := gT_in (inT2 (List.mem_of_getElem? (i := 212) rfl)) rfl
theorem mi_J1_canEncode_9a6ad : Mi yJ1_canEncode_9a6ad cJ1_canEncode_9a6ad 1 (some .boolean) 1 := ⟨kc_J1_canEncode_9a6ad, ki_RJ1, ⟨by decide +kernel, by decide +kernel⟩, by decide +kernel⟩
theorem st_J1_canEncode_9a6ad : Cond.static yJ1_canEncode_9a6ad ∈ gT := gT_in (inT3 (List.mem_of_getElem? (i := 66) rfl)) rfl
theorem mi_J7_fill_d0a16 : Mi yJ7_fill_d0a16 cJ7_fill_d0a16 5 (none) 2 := ⟨kc_J7_fill_d0a16, ki_RJ7, ⟨by decide +kernel, by decide +kernel⟩, by decide +kernel⟩
theorem st_J7_fill_d0a16 : Cond.static yJ7_fill_d0a16 ∈ gT := gT_in (inT5 (List.mem_of_getElem? (i := 222) rfl)) rfl
theorem mi_J7_fill_53178 : Mi yJ7_fill_53178 cJ7_fill_53178 4 (none) 2 := ⟨kc_J7_fill_53178, ki_RJ7, ⟨by decide +kernel, by decide +kernel⟩, by decide +kernel⟩
theorem st_J7_fill_53178 : Cond.static yJ7_fill_53178 ∈ gT := gT_in (inT2 (List.mem_of_getElem? (i := 200) rfl)) rfl
theorem kw1035 : Cond.constant RX11 223 (1103515245) ∈ gT := gT_in (inT4 (List.mem_of_getElem? (i := 189) rfl)) rfl
theorem kw888 : Cond.constant RX4 66 (1000000) ∈ gT := gT_in (inT4 (List.mem_of_getElem? (i := 42) rfl)) rfl
theorem kw890 : Cond.constant RX4 69 (-1000000) ∈ gT := gT_in (inT4 (List.mem_of_getElem? (i := 44) rfl)) rfl
theorem kw1744 : Cond.constant RX12 311 (1103515245) ∈ gT := gT_in (inT7 (List.mem_of_getElem? (i := 178) rfl)) rfl
theorem kw1757 : Cond.constant RX12 321 (268435456) ∈ gT := gT_in (inT7 (List.mem_of_getElem? (i := 191) rfl)) rfl
theorem kw863 : Cond.constant RJ6 265 (1431655765) ∈ gT := gT_in (inT4 (List.mem_of_getElem? (i := 17) rfl)) rfl
theorem kw864 : Cond.constant RJ6 266 (858993459) ∈ gT := gT_in (inT4 (List.mem_of_getElem? (i := 18) rfl)) rfl
theorem kw865 : Cond.constant RJ6 267 (252645135) ∈ gT := gT_in (inT4 (List.mem_of_getElem? (i := 19) rfl)) rfl
theorem kf_11_9 : Cond.fieldLink RX11 9 (TX11 0).1 (TX11 0).2.1 (TX11 0).2.2.1 ∈ gT := gT_in (inT2 (List.mem_of_getElem? (i := 126) rfl)) rfl
theorem kf_11_16 : Cond.fieldLink RX11 16 (TX11 2).1 (TX11 2).2.1 (TX11 2).2.2.1 ∈ gT := gT_in (inT2 (List.mem_of_getElem? (i := 128) rfl)) rfl
theorem kf_11_20 : Cond.fieldLink RX11 20 (TX11 4).1 (TX11 4).2.1 (TX11 4).2.2.1 ∈ gT := gT_in (inT2 (List.mem_of_getElem? (i := 130) rfl)) rfl
theorem kf_11_26 : Cond.fieldLink RX11 26 (TX11 5).1 (TX11 5).2.1 (TX11 5).2.2.1 ∈ gT := gT_in (inT2 (List.mem_of_getElem? (i := 131) rfl)) rfl
theorem kf_11_36 : Cond.fieldLink RX11 36 (TX11 6).1 (TX11 6).2.1 (TX11 6).2.2.1 ∈ gT := gT_in (inT2 (List.mem_of_getElem? (i := 132) rfl)) rfl
theorem kf_11_40 : Cond.fieldLink RX11 40 (TX11 7).1 (TX11 7).2.1 (TX11 7).2.2.1 ∈ gT := gT_in (inT2 (List.mem_of_getElem? (i := 133) rfl)) rfl
theorem kf_11_46 : Cond.fieldLink RX11 46 (TX11 8).1 (TX11 8).2.1 (TX11 8).2.2.1 ∈ gT := gT_in (inT2 (List.mem_of_getElem? (i := 134) rfl)) rfl
theorem kf_11_50 : Cond.fieldLink RX11 50 (TX11 9).1 (TX11 9).2.1 (TX11 9).2.2.1 ∈ gT := gT_in (inT2 (List.mem_of_getElem? (i := 135) rfl)) rfl
theorem kf_11_56 : Cond.fieldLink RX11 56 (TX11 11).1 (TX11 11).2.1 (TX11 11).2.2.1 ∈ gT := gT_in (inT2 (List.mem_of_getElem? (i := 137) rfl)) rfl
theorem kf_11_64 : Cond.fieldLink RX11 64 (TX11 12).1 (TX11 12).2.1 (TX11 12).2.2.1 ∈ gT := gT_in (inT2 (List.mem_of_getElem? (i := 138) rfl)) rfl
theorem kf_11_71 : Cond.fieldLink RX11 71 (TX11 13).1 (TX11 13).2.1 (TX11 13).2.2.1 ∈ gT := gT_in (inT2 (List.mem_of_getElem? (i := 139) rfl)) rfl
theorem kf_11_78 : Cond.fieldLink RX11 78 (TX11 14).1 (TX11 14).2.1 (TX11 14).2.2.1 ∈ gT := gT_in (inT2 (List.mem_of_getElem? (i := 140) rfl)) rfl
theorem kf_11_85 : Cond.fieldLink RX11 85 (TX11 15).1 (TX11 15).2.1 (TX11 15).2.2.1 ∈ gT := gT_in (inT2 (List.mem_of_getElem? (i := 141) rfl)) rfl
theorem kf_11_89 : Cond.fieldLink RX11 89 (TX11 1).1 (TX11 1).2.1 (TX11 1).2.2.1 ∈ gT := gT_in (inT2 (List.mem_of_getElem? (i := 127) rfl)) rfl
theorem kf_11_104 : Cond.fieldLink RX11 104 (TX11 3).1 (TX11 3).2.1 (TX11 3).2.2.1 ∈ gT := gT_in (inT2 (List.mem_of_getElem? (i := 129) rfl)) rfl
theorem kf_11_117 : Cond.fieldLink RX11 117 (TX3 3).1 (TX3 3).2.1 (TX3 3).2.2.1 ∈ gT := gT_in (inT1 (List.mem_of_getElem? (i := 144) rfl)) rfl
theorem kf_11_120 : Cond.fieldLink RX11 120 (TX0 0).1 (TX0 0).2.1 (TX0 0).2.2.1 ∈ gT := gT_in (inT1 (List.mem_of_getElem? (i := 226) rfl)) rfl
theorem kf_11_128 : Cond.fieldLink RX11 128 (TX3 8).1 (TX3 8).2.1 (TX3 8).2.2.1 ∈ gT := gT_in (inT1 (List.mem_of_getElem? (i := 161) rfl)) rfl
theorem kf_11_132 : Cond.fieldLink RX11 132 (TX3 9).1 (TX3 9).2.1 (TX3 9).2.2.1 ∈ gT := gT_in (inT1 (List.mem_of_getElem? (i := 168) rfl)) rfl
theorem kf_11_135 : Cond.fieldLink RX11 135 (TX0 5).1 (TX0 5).2.1 (TX0 5).2.2.1 ∈ gT := gT_in (inT2 (List.mem_of_getElem? (i := 2) rfl)) rfl
theorem kf_11_138 : Cond.fieldLink RX11 138 (TX3 11).1 (TX3 11).2.1 (TX3 11).2.2.1 ∈ gT := gT_in (inT1 (List.mem_of_getElem? (i := 174) rfl)) rfl
theorem kf_11_141 : Cond.fieldLink RX11 141 (TX3 12).1 (TX3 12).2.1 (TX3 12).2.2.1 ∈ gT := gT_in (inT1 (List.mem_of_getElem? (i := 178) rfl)) rfl
theorem kf_11_151 : Cond.fieldLink RX11 151 (TX0 2).1 (TX0 2).2.1 (TX0 2).2.2.1 ∈ gT := gT_in (inT1 (List.mem_of_getElem? (i := 235) rfl)) rfl
theorem kf_11_165 : Cond.fieldLink RX11 165 (TX0 1).1 (TX0 1).2.1 (TX0 1).2.2.1 ∈ gT := gT_in (inT1 (List.mem_of_getElem? (i := 231) rfl)) rfl
theorem kf_11_171 : Cond.fieldLink RX11 171 (TX0 3).1 (TX0 3).2.1 (TX0 3).2.2.1 ∈ gT := gT_in (inT1 (List.mem_of_getElem? (i := 238) rfl)) rfl
theorem kf_11_203 : Cond.fieldLink RX11 203 (TX10 0).1 (TX10 0).2.1 (TX10 0).2.2.1 ∈ gT := gT_in (inT2 (List.mem_of_getElem? (i := 43) rfl)) rfl
theorem kf_11_207 : Cond.fieldLink RX11 207 (TX10 1).1 (TX10 1).2.1 (TX10 1).2.2.1 ∈ gT := gT_in (inT2 (List.mem_of_getElem? (i := 45) rfl)) rfl
theorem kf_11_275 : Cond.fieldLink RX11 275 (TX3 1).1 (TX3 1).2.1 (TX3 1).2.2.1 ∈ gT := gT_in (inT1 (List.mem_of_getElem? (i := 138) rfl)) rfl
theorem kf_11_287 : Cond.fieldLink RX11 287 (TX3 2).1 (TX3 2).2.1 (TX3 2).2.2.1 ∈ gT := gT_in (inT1 (List.mem_of_getElem? (i := 142) rfl)) rfl
theorem kf_11_357 : Cond.fieldLink RX11 357 (TX11 10).1 (TX11 10).2.1 (TX11 10).2.2.1 ∈ gT := gT_in (inT2 (List.mem_of_getElem? (i := 136) rfl)) rfl
theorem kf_11_360 : Cond.fieldLink RX11 360 (TX3 0).1 (TX3 0).2.1 (TX3 0).2.2.1 ∈ gT := gT_in (inT1 (List.mem_of_getElem? (i := 130) rfl)) rfl
theorem kf_11_363 : Cond.fieldLink RX11 363 (TX3 5).1 (TX3 5).2.1 (TX3 5).2.2.1 ∈ gT := gT_in (inT1 (List.mem_of_getElem? (i := 151) rfl)) rfl
theorem kf_11_366 : Cond.fieldLink RX11 366 (TX0 4).1 (TX0 4).2.1 (TX0 4).2.2.1 ∈ gT := gT_in (inT2 (List.mem_of_getElem? (i := 0) rfl)) rfl
theorem kf_0_9 : Cond.fieldLink RX0 9 (TX0 5).1 (TX0 5).2.1 (TX0 5).2.2.1 ∈ gT := gT_in (inT2 (List.mem_of_getElem? (i := 1) rfl)) rfl
theorem kf_0_15 : Cond.fieldLink RX0 15 (TX0 0).1 (TX0 0).2.1 (TX0 0).2.2.1 ∈ gT := gT_in (inT1 (List.mem_of_getElem? (i := 221) rfl)) rfl
theorem kf_0_19 : Cond.fieldLink RX0 19 (TX3 4).1 (TX3 4).2.1 (TX3 4).2.2.1 ∈ gT := gT_in (inT1 (List.mem_of_getElem? (i := 146) rfl)) rfl
theorem kf_0_25 : Cond.fieldLink RX0 25 (TX0 1).1 (TX0 1).2.1 (TX0 1).2.2.1 ∈ gT := gT_in (inT1 (List.mem_of_getElem? (i := 227) rfl)) rfl
theorem kf_0_26 : Cond.fieldLink RX0 26 (TX3 6).1 (TX3 6).2.1 (TX3 6).2.2.1 ∈ gT := gT_in (inT1 (List.mem_of_getElem? (i := 152) rfl)) rfl
theorem kf_0_29 : Cond.fieldLink RX0 29 (TX0 2).1 (TX0 2).2.1 (TX0 2).2.2.1 ∈ gT := gT_in (inT1 (List.mem_of_getElem? (i := 232) rfl)) rfl
theorem kf_0_30 : Cond.fieldLink RX0 30 (TX3 7).1 (TX3 7).2.1 (TX3 7).2.2.1 ∈ gT := gT_in (inT1 (List.mem_of_getElem? (i := 155) rfl)) rfl
theorem kf_0_33 : Cond.fieldLink RX0 33 (TX0 3).1 (TX0 3).2.1 (TX0 3).2.2.1 ∈ gT := gT_in (inT1 (List.mem_of_getElem? (i := 236) rfl)) rfl
theorem kf_0_34 : Cond.fieldLink RX0 34 (TX0 4).1 (TX0 4).2.1 (TX0 4).2.2.1 ∈ gT := gT_in (inT1 (List.mem_of_getElem? (i := 239) rfl)) rfl
theorem kf_0_37 : Cond.fieldLink RX0 37 (TX3 10).1 (TX3 10).2.1 (TX3 10).2.2.1 ∈ gT := gT_in (inT1 (List.mem_of_getElem? (i := 171) rfl)) rfl
theorem kf_0_48 : Cond.fieldLink RX0 48 (TX3 1).1 (TX3 1).2.1 (TX3 1).2.2.1 ∈ gT := gT_in (inT1 (List.mem_of_getElem? (i := 135) rfl)) rfl
theorem kf_0_87 : Cond.fieldLink RX0 87 (TX3 2).1 (TX3 2).2.1 (TX3 2).2.2.1 ∈ gT := gT_in (inT1 (List.mem_of_getElem? (i := 141) rfl)) rfl
theorem kf_1_9 : Cond.fieldLink RX1 9 (TX1 0).1 (TX1 0).2.1 (TX1 0).2.2.1 ∈ gT := gT_in (inT2 (List.mem_of_getElem? (i := 106) rfl)) rfl
theorem kf_1_15 : Cond.fieldLink RX1 15 (TX0 0).1 (TX0 0).2.1 (TX0 0).2.2.1 ∈ gT := gT_in (inT1 (List.mem_of_getElem? (i := 222) rfl)) rfl
theorem kf_1_25 : Cond.fieldLink RX1 25 (TX3 1).1 (TX3 1).2.1 (TX3 1).2.2.1 ∈ gT := gT_in (inT1 (List.mem_of_getElem? (i := 132) rfl)) rfl
theorem kf_1_35 : Cond.fieldLink RX1 35 (TX0 1).1 (TX0 1).2.1 (TX0 1).2.2.1 ∈ gT := gT_in (inT1 (List.mem_of_getElem? (i := 228) rfl)) rfl
theorem kf_1_42 : Cond.fieldLink RX1 42 (TX3 8).1 (TX3 8).2.1 (TX3 8).2.2.1 ∈ gT := gT_in (inT1 (List.mem_of_getElem? (i := 159) rfl)) rfl
theorem kf_1_45 : Cond.fieldLink RX1 45 (TX3 9).1 (TX3 9).2.1 (TX3 9).2.2.1 ∈ gT := gT_in (inT1 (List.mem_of_getElem? (i := 165) rfl)) rfl
theorem kf_2_11 : Cond.fieldLink RX2 11 (TX2 0).1 (TX2 0).2.1 (TX2 0).2.2.1 ∈ gT := gT_in (inT2 (List.mem_of_getElem? (i := 25) rfl)) rfl
theorem kf_2_20 : Cond.fieldLink RX2 20 (TX2 2).1 (TX2 2).2.1 (TX2 2).2.2.1 ∈ gT := gT_in (inT2 (List.mem_of_getElem? (i := 27) rfl)) rfl
theorem kf_2_24 : Cond.fieldLink RX2 24 (TX2 1).1 (TX2 1).2.1 (TX2 1).2.2.1 ∈ gT := gT_in (inT2 (List.mem_of_getElem? (i := 26) rfl)) rfl
theorem kf_3_9 : Cond.fieldLink RX3 9 (TX3 8).1 (TX3 8).2.1 (TX3 8).2.2.1 ∈ gT := gT_in (inT1 (List.mem_of_getElem? (i := 158) rfl)) rfl
theorem kf_3_15 : Cond.fieldLink RX3 15 (TX3 9).1 (TX3 9).2.1 (TX3 9).2.2.1 ∈ gT := gT_in (inT1 (List.mem_of_getElem? (i := 164) rfl)) rfl
theorem kf_3_18 : Cond.fieldLink RX3 18 (TX3 10).1 (TX3 10).2.1 (TX3 10).2.2.1 ∈ gT := gT_in (inT1 (List.mem_of_getElem? (i := 170) rfl)) rfl
theorem kf_3_21 : Cond.fieldLink RX3 21 (TX3 11).1 (TX3 11).2.1 (TX3 11).2.2.1 ∈ gT := gT_in (inT1 (List.mem_of_getElem? (i := 173) rfl)) rfl
theorem kf_3_24 : Cond.fieldLink RX3 24 (TX3 12).1 (TX3 12).2.1 (TX3 12).2.2.1 ∈ gT := gT_in (inT1 (List.mem_of_getElem? (i := 176) rfl)) rfl
theorem kf_3_27 : Cond.fieldLink RX3 27 (TX3 13).1 (TX3 13).2.1 (TX3 13).2.2.1 ∈ gT := gT_in (inT1 (List.mem_of_getElem? (i := 180) rfl)) rfl
theorem kf_3_33 : Cond.fieldLink RX3 33 (TX3 14).1 (TX3 14).2.1 (TX3 14).2.2.1 ∈ gT := gT_in (inT1 (List.mem_of_getElem? (i := 182) rfl)) rfl
theorem kf_3_37 : Cond.fieldLink RX3 37 (TX3 0).1 (TX3 0).2.1 (TX3 0).2.2.1 ∈ gT := gT_in (inT1 (List.mem_of_getElem? (i := 127) rfl)) rfl
theorem kf_3_41 : Cond.fieldLink RX3 41 (TX3 1).1 (TX3 1).2.1 (TX3 1).2.2.1 ∈ gT := gT_in (inT1 (List.mem_of_getElem? (i := 131) rfl)) rfl
theorem kf_3_44 : Cond.fieldLink RX3 44 (TX3 2).1 (TX3 2).2.1 (TX3 2).2.2.1 ∈ gT := gT_in (inT1 (List.mem_of_getElem? (i := 139) rfl)) rfl
theorem kf_3_53 : Cond.fieldLink RX3 53 (TX3 5).1 (TX3 5).2.1 (TX3 5).2.2.1 ∈ gT := gT_in (inT1 (List.mem_of_getElem? (i := 149) rfl)) rfl
theorem kf_3_78 : Cond.fieldLink RX3 78 (TX0 2).1 (TX0 2).2.1 (TX0 2).2.2.1 ∈ gT := gT_in (inT1 (List.mem_of_getElem? (i := 234) rfl)) rfl
theorem kf_3_81 : Cond.fieldLink RX3 81 (TX0 3).1 (TX0 3).2.1 (TX0 3).2.2.1 ∈ gT := gT_in (inT1 (List.mem_of_getElem? (i := 237) rfl)) rfl
theorem kf_4_9 : Cond.fieldLink RX4 9 (TX4 0).1 (TX4 0).2.1 (TX4 0).2.2.1 ∈ gT := gT_in (inT1 (List.mem_of_getElem? (i := 105) rfl)) rfl
theorem kf_4_15 : Cond.fieldLink RX4 15 (TX4 2).1 (TX4 2).2.1 (TX4 2).2.2.1 ∈ gT := gT_in (inT1 (List.mem_of_getElem? (i := 107) rfl)) rfl
theorem kf_4_18 : Cond.fieldLink RX4 18 (TX4 3).1 (TX4 3).2.1 (TX4 3).2.2.1 ∈ gT := gT_in (inT1 (List.mem_of_getElem? (i := 108) rfl)) rfl
theorem kf_4_21 : Cond.fieldLink RX4 21 (TX4 4).1 (TX4 4).2.1 (TX4 4).2.2.1 ∈ gT := gT_in (inT1 (List.mem_of_getElem? (i := 109) rfl)) rfl
theorem kf_4_24 : Cond.fieldLink RX4 24 (TX4 5).1 (TX4 5).2.1 (TX4 5).2.2.1 ∈ gT := gT_in (inT1 (List.mem_of_getElem? (i := 110) rfl)) rfl
theorem kf_4_27 : Cond.fieldLink RX4 27 (TX4 1).1 (TX4 1).2.1 (TX4 1).2.2.1 ∈ gT := gT_in (inT1 (List.mem_of_getElem? (i := 106) rfl)) rfl
theorem kf_4_37 : Cond.fieldLink RX4 37 (TX4 6).1 (TX4 6).2.1 (TX4 6).2.2.1 ∈ gT := gT_in (inT1 (List.mem_of_getElem? (i := 111) rfl)) rfl
theorem kf_5_9 : Cond.fieldLink RX5 9 (TX5 0).1 (TX5 0).2.1 (TX5 0).2.2.1 ∈ gT := gT_in (inT2 (List.mem_of_getElem? (i := 116) rfl)) rfl
theorem kf_5_15 : Cond.fieldLink RX5 15 (TX5 1).1 (TX5 1).2.1 (TX5 1).2.2.1 ∈ gT := gT_in (inT2 (List.mem_of_getElem? (i := 117) rfl)) rfl
theorem kf_5_18 : Cond.fieldLink RX5 18 (TX5 2).1 (TX5 2).2.1 (TX5 2).2.2.1 ∈ gT := gT_in (inT2 (List.mem_of_getElem? (i := 118) rfl)) rfl
theorem kf_5_22 : Cond.fieldLink RX5 22 (TX0 0).1 (TX0 0).2.1 (TX0 0).2.2.1 ∈ gT := gT_in (inT1 (List.mem_of_getElem? (i := 224) rfl)) rfl
theorem kf_5_42 : Cond.fieldLink RX5 42 (TX3 1).1 (TX3 1).2.1 (TX3 1).2.2.1 ∈ gT := gT_in (inT1 (List.mem_of_getElem? (i := 134) rfl)) rfl
theorem kf_5_47 : Cond.fieldLink RX5 47 (TX3 8).1 (TX3 8).2.1 (TX3 8).2.2.1 ∈ gT := gT_in (inT1 (List.mem_of_getElem? (i := 160) rfl)) rfl
theorem kf_5_50 : Cond.fieldLink RX5 50 (TX3 9).1 (TX3 9).2.1 (TX3 9).2.2.1 ∈ gT := gT_in (inT1 (List.mem_of_getElem? (i := 166) rfl)) rfl
theorem kf_5_71 : Cond.fieldLink RX5 71 (TX3 12).1 (TX3 12).2.1 (TX3 12).2.2.1 ∈ gT := gT_in (inT1 (List.mem_of_getElem? (i := 177) rfl)) rfl
theorem kf_5_78 : Cond.fieldLink RX5 78 (TX0 1).1 (TX0 1).2.1 (TX0 1).2.2.1 ∈ gT := gT_in (inT1 (List.mem_of_getElem? (i := 230) rfl)) rfl
theorem kf_6_9 : Cond.fieldLink RX6 9 (TX6 0).1 (TX6 0).2.1 (TX6 0).2.2.1 ∈ gT := gT_in (inT2 (List.mem_of_getElem? (i := 64) rfl)) rfl
theorem kf_6_15 : Cond.fieldLink RX6 15 (TX6 1).1 (TX6 1).2.1 (TX6 1).2.2.1 ∈ gT := gT_in (inT2 (List.mem_of_getElem? (i := 65) rfl)) rfl
theorem kf_6_24 : Cond.fieldLink RX6 24 (TX0 0).1 (TX0 0).2.1 (TX0 0).2.2.1 ∈ gT := gT_in (inT1 (List.mem_of_getElem? (i := 225) rfl)) rfl
theorem kf_6_51 : Cond.fieldLink RX6 51 (TX3 1).1 (TX3 1).2.1 (TX3 1).2.2.1 ∈ gT := gT_in (inT1 (List.mem_of_getElem? (i := 136) rfl)) rfl
theorem kf_6_58 : Cond.fieldLink RX6 58 (TX3 8).1 (TX3 8).2.1 (TX3 8).2.2.1 ∈ gT := gT_in (inT1 (List.mem_of_getElem? (i := 162) rfl)) rfl
theorem kf_6_61 : Cond.fieldLink RX6 61 (TX3 9).1 (TX3 9).2.1 (TX3 9).2.2.1 ∈ gT := gT_in (inT1 (List.mem_of_getElem? (i := 167) rfl)) rfl
theorem kf_6_79 : Cond.fieldLink RX6 79 (TX3 0).1 (TX3 0).2.1 (TX3 0).2.2.1 ∈ gT := gT_in (inT1 (List.mem_of_getElem? (i := 129) rfl)) rfl
theorem kf_7_12 : Cond.fieldLink RX7 12 (TX7 0).1 (TX7 0).2.1 (TX7 0).2.2.1 ∈ gT := gT_in (inT1 (List.mem_of_getElem? (i := 73) rfl)) rfl
theorem kf_7_18 : Cond.fieldLink RX7 18 (TX7 2).1 (TX7 2).2.1 (TX7 2).2.2.1 ∈ gT := gT_in (inT1 (List.mem_of_getElem? (i := 75) rfl)) rfl
theorem kf_7_22 : Cond.fieldLink RX7 22 (TX7 3).1 (TX7 3).2.1 (TX7 3).2.2.1 ∈ gT := gT_in (inT1 (List.mem_of_getElem? (i := 76) rfl)) rfl
theorem kf_7_25 : Cond.fieldLink RX7 25 (TX7 1).1 (TX7 1).2.1 (TX7 1).2.2.1 ∈ gT := gT_in (inT1 (List.mem_of_getElem? (i := 74) rfl)) rfl
theorem kf_7_42 : Cond.fieldLink RX7 42 (TX9 0).1 (TX9 0).2.1 (TX9 0).2.2.1 ∈ gT := gT_in (inT1 (List.mem_of_getElem? (i := 43) rfl)) rfl
theorem kf_7_48 : Cond.fieldLink RX7 48 (TX9 1).1 (TX9 1).2.1 (TX9 1).2.2.1 ∈ gT := gT_in (inT1 (List.mem_of_getElem? (i := 46) rfl)) rfl
theorem kf_7_58 : Cond.fieldLink RX7 58 (TX9 2).1 (TX9 2).2.1 (TX9 2).2.2.1 ∈ gT := gT_in (inT1 (List.mem_of_getElem? (i := 48) rfl)) rfl
theorem kf_7_61 : Cond.fieldLink RX7 61 (TX7 4).1 (TX7 4).2.1 (TX7 4).2.2.1 ∈ gT := gT_in (inT1 (List.mem_of_getElem? (i := 77) rfl)) rfl
theorem kf_7_67 : Cond.fieldLink RX7 67 (TX3 3).1 (TX3 3).2.1 (TX3 3).2.2.1 ∈ gT := gT_in (inT1 (List.mem_of_getElem? (i := 145) rfl)) rfl
theorem kf_7_74 : Cond.fieldLink RX7 74 (TX3 0).1 (TX3 0).2.1 (TX3 0).2.2.1 ∈ gT := gT_in (inT1 (List.mem_of_getElem? (i := 128) rfl)) rfl
theorem kf_7_98 : Cond.fieldLink RX7 98 (TX3 1).1 (TX3 1).2.1 (TX3 1).2.2.1 ∈ gT := gT_in (inT1 (List.mem_of_getElem? (i := 137) rfl)) rfl
theorem kf_7_101 : Cond.fieldLink RX7 101 (TX3 8).1 (TX3 8).2.1 (TX3 8).2.2.1 ∈ gT := gT_in (inT1 (List.mem_of_getElem? (i := 163) rfl)) rfl
theorem kf_7_105 : Cond.fieldLink RX7 105 (TX3 9).1 (TX3 9).2.1 (TX3 9).2.2.1 ∈ gT := gT_in (inT1 (List.mem_of_getElem? (i := 169) rfl)) rfl
theorem kf_7_111 : Cond.fieldLink RX7 111 (TX3 10).1 (TX3 10).2.1 (TX3 10).2.2.1 ∈ gT := gT_in (inT1 (List.mem_of_getElem? (i := 172) rfl)) rfl
theorem kf_7_114 : Cond.fieldLink RX7 114 (TX3 11).1 (TX3 11).2.1 (TX3 11).2.2.1 ∈ gT := gT_in (inT1 (List.mem_of_getElem? (i := 175) rfl)) rfl
theorem kf_7_117 : Cond.fieldLink RX7 117 (TX3 12).1 (TX3 12).2.1 (TX3 12).2.2.1 ∈ gT := gT_in (inT1 (List.mem_of_getElem? (i := 179) rfl)) rfl
theorem kf_7_126 : Cond.fieldLink RX7 126 (TX3 2).1 (TX3 2).2.1 (TX3 2).2.2.1 ∈ gT := gT_in (inT1 (List.mem_of_getElem? (i := 140) rfl)) rfl
theorem kf_7_129 : Cond.fieldLink RX7 129 (TX3 13).1 (TX3 13).2.1 (TX3 13).2.2.1 ∈ gT := gT_in (inT1 (List.mem_of_getElem? (i := 181) rfl)) rfl
theorem kf_7_132 : Cond.fieldLink RX7 132 (TX3 7).1 (TX3 7).2.1 (TX3 7).2.2.1 ∈ gT := gT_in (inT1 (List.mem_of_getElem? (i := 157) rfl)) rfl
theorem kf_7_138 : Cond.fieldLink RX7 138 (TX7 5).1 (TX7 5).2.1 (TX7 5).2.2.1 ∈ gT := gT_in (inT1 (List.mem_of_getElem? (i := 78) rfl)) rfl
theorem kf_7_142 : Cond.fieldLink RX7 142 (TX3 14).1 (TX3 14).2.1 (TX3 14).2.2.1 ∈ gT := gT_in (inT1 (List.mem_of_getElem? (i := 183) rfl)) rfl
theorem kf_8_11 : Cond.fieldLink RX8 11 (TX8 0).1 (TX8 0).2.1 (TX8 0).2.2.1 ∈ gT := gT_in (inT2 (List.mem_of_getElem? (i := 77) rfl)) rfl
theorem kf_8_15 : Cond.fieldLink RX8 15 (TX8 1).1 (TX8 1).2.1 (TX8 1).2.2.1 ∈ gT := gT_in (inT2 (List.mem_of_getElem? (i := 78) rfl)) rfl
theorem kf_8_19 : Cond.fieldLink RX8 19 (TX8 2).1 (TX8 2).2.1 (TX8 2).2.2.1 ∈ gT := gT_in (inT2 (List.mem_of_getElem? (i := 79) rfl)) rfl
theorem kf_8_22 : Cond.fieldLink RX8 22 (TX8 3).1 (TX8 3).2.1 (TX8 3).2.2.1 ∈ gT := gT_in (inT2 (List.mem_of_getElem? (i := 80) rfl)) rfl
theorem kf_8_25 : Cond.fieldLink RX8 25 (TX0 0).1 (TX0 0).2.1 (TX0 0).2.2.1 ∈ gT := gT_in (inT1 (List.mem_of_getElem? (i := 223) rfl)) rfl
theorem kf_8_31 : Cond.fieldLink RX8 31 (TX8 4).1 (TX8 4).2.1 (TX8 4).2.2.1 ∈ gT := gT_in (inT2 (List.mem_of_getElem? (i := 81) rfl)) rfl
theorem kf_8_32 : Cond.fieldLink RX8 32 (TX8 5).1 (TX8 5).2.1 (TX8 5).2.2.1 ∈ gT := gT_in (inT2 (List.mem_of_getElem? (i := 82) rfl)) rfl
theorem kf_8_36 : Cond.fieldLink RX8 36 (TX8 6).1 (TX8 6).2.1 (TX8 6).2.2.1 ∈ gT := gT_in (inT2 (List.mem_of_getElem? (i := 83) rfl)) rfl
theorem kf_8_50 : Cond.fieldLink RX8 50 (TX0 2).1 (TX0 2).2.1 (TX0 2).2.2.1 ∈ gT := gT_in (inT1 (List.mem_of_getElem? (i := 233) rfl)) rfl
theorem kf_8_57 : Cond.fieldLink RX8 57 (TX0 1).1 (TX0 1).2.1 (TX0 1).2.2.1 ∈ gT := gT_in (inT1 (List.mem_of_getElem? (i := 229) rfl)) rfl
theorem kf_8_72 : Cond.fieldLink RX8 72 (TX3 1).1 (TX3 1).2.1 (TX3 1).2.2.1 ∈ gT := gT_in (inT1 (List.mem_of_getElem? (i := 133) rfl)) rfl
theorem kf_9_9 : Cond.fieldLink RX9 9 (TX9 5).1 (TX9 5).2.1 (TX9 5).2.2.1 ∈ gT := gT_in (inT1 (List.mem_of_getElem? (i := 51) rfl)) rfl
theorem kf_9_15 : Cond.fieldLink RX9 15 (TX9 3).1 (TX9 3).2.1 (TX9 3).2.2.1 ∈ gT := gT_in (inT1 (List.mem_of_getElem? (i := 49) rfl)) rfl
theorem kf_9_25 : Cond.fieldLink RX9 25 (TX9 4).1 (TX9 4).2.1 (TX9 4).2.2.1 ∈ gT := gT_in (inT1 (List.mem_of_getElem? (i := 50) rfl)) rfl
theorem kf_9_29 : Cond.fieldLink RX9 29 (TX9 6).1 (TX9 6).2.1 (TX9 6).2.2.1 ∈ gT := gT_in (inT1 (List.mem_of_getElem? (i := 52) rfl)) rfl
theorem kf_9_60 : Cond.fieldLink RX9 60 (TX9 7).1 (TX9 7).2.1 (TX9 7).2.2.1 ∈ gT := gT_in (inT1 (List.mem_of_getElem? (i := 53) rfl)) rfl
theorem kf_10_15 : Cond.fieldLink RX10 15 (TX10 3).1 (TX10 3).2.1 (TX10 3).2.2.1 ∈ gT := gT_in (inT2 (List.mem_of_getElem? (i := 47) rfl)) rfl
theorem kf_10_19 : Cond.fieldLink RX10 19 (TX10 2).1 (TX10 2).2.1 (TX10 2).2.2.1 ∈ gT := gT_in (inT2 (List.mem_of_getElem? (i := 46) rfl)) rfl
theorem kf_10_23 : Cond.fieldLink RX10 23 (TX10 1).1 (TX10 1).2.1 (TX10 1).2.2.1 ∈ gT := gT_in (inT2 (List.mem_of_getElem? (i := 44) rfl)) rfl
theorem kf_12_13 : Cond.fieldLink RX12 13 (TX12 1).1 (TX12 1).2.1 (TX12 1).2.2.1 ∈ gT := gT_in (inT6 (List.mem_of_getElem? (i := 30) rfl)) rfl
theorem kf_12_17 : Cond.fieldLink RX12 17 (TX12 2).1 (TX12 2).2.1 (TX12 2).2.2.1 ∈ gT := gT_in (inT6 (List.mem_of_getElem? (i := 31) rfl)) rfl
theorem kf_12_21 : Cond.fieldLink RX12 21 (TX12 3).1 (TX12 3).2.1 (TX12 3).2.2.1 ∈ gT := gT_in (inT6 (List.mem_of_getElem? (i := 32) rfl)) rfl
theorem kf_12_24 : Cond.fieldLink RX12 24 (TX12 4).1 (TX12 4).2.1 (TX12 4).2.2.1 ∈ gT := gT_in (inT6 (List.mem_of_getElem? (i := 33) rfl)) rfl
theorem kf_12_27 : Cond.fieldLink RX12 27 (TX12 14).1 (TX12 14).2.1 (TX12 14).2.2.1 ∈ gT := gT_in (inT6 (List.mem_of_getElem? (i := 43) rfl)) rfl
theorem kf_12_30 : Cond.fieldLink RX12 30 (TX12 16).1 (TX12 16).2.1 (TX12 16).2.2.1 ∈ gT := gT_in (inT6 (List.mem_of_getElem? (i := 45) rfl)) rfl
theorem kf_12_33 : Cond.fieldLink RX12 33 (TX12 17).1 (TX12 17).2.1 (TX12 17).2.2.1 ∈ gT := gT_in (inT6 (List.mem_of_getElem? (i := 46) rfl)) rfl
theorem kf_12_36 : Cond.fieldLink RX12 36 (TX12 18).1 (TX12 18).2.1 (TX12 18).2.2.1 ∈ gT := gT_in (inT6 (List.mem_of_getElem? (i := 47) rfl)) rfl
theorem kf_12_39 : Cond.fieldLink RX12 39 (TX12 21).1 (TX12 21).2.1 (TX12 21).2.2.1 ∈ gT := gT_in (inT6 (List.mem_of_getElem? (i := 50) rfl)) rfl
theorem kf_12_42 : Cond.fieldLink RX12 42 (TX12 22).1 (TX12 22).2.1 (TX12 22).2.2.1 ∈ gT := gT_in (inT6 (List.mem_of_getElem? (i := 51) rfl)) rfl
theorem kf_12_45 : Cond.fieldLink RX12 45 (TX12 23).1 (TX12 23).2.1 (TX12 23).2.2.1 ∈ gT := gT_in (inT6 (List.mem_of_getElem? (i := 52) rfl)) rfl
theorem kf_12_48 : Cond.fieldLink RX12 48 (TX12 25).1 (TX12 25).2.1 (TX12 25).2.2.1 ∈ gT := gT_in (inT6 (List.mem_of_getElem? (i := 54) rfl)) rfl
theorem kf_12_51 : Cond.fieldLink RX12 51 (TX12 26).1 (TX12 26).2.1 (TX12 26).2.2.1 ∈ gT := gT_in (inT6 (List.mem_of_getElem? (i := 55) rfl)) rfl
theorem kf_12_54 : Cond.fieldLink RX12 54 (TX12 27).1 (TX12 27).2.1 (TX12 27).2.2.1 ∈ gT := gT_in (inT6 (List.mem_of_getElem? (i := 56) rfl)) rfl
theorem kf_12_57 : Cond.fieldLink RX12 57 (TX12 28).1 (TX12 28).2.1 (TX12 28).2.2.1 ∈ gT := gT_in (inT6 (List.mem_of_getElem? (i := 57) rfl)) rfl
theorem kf_12_60 : Cond.fieldLink RX12 60 (TX12 29).1 (TX12 29).2.1 (TX12 29).2.2.1 ∈ gT := gT_in (inT6 (List.mem_of_getElem? (i := 58) rfl)) rfl
theorem kf_12_63 : Cond.fieldLink RX12 63 (TX12 30).1 (TX12 30).2.1 (TX12 30).2.2.1 ∈ gT := gT_in (inT6 (List.mem_of_getElem? (i := 59) rfl)) rfl
theorem kf_12_66 : Cond.fieldLink RX12 66 (TX12 31).1 (TX12 31).2.1 (TX12 31).2.2.1 ∈ gT := gT_in (inT6 (List.mem_of_getElem? (i := 60) rfl)) rfl
theorem kf_12_74 : Cond.fieldLink RX12 74 (TX12 5).1 (TX12 5).2.1 (TX12 5).2.2.1 ∈ gT := gT_in (inT6 (List.mem_of_getElem? (i := 34) rfl)) rfl
theorem kf_12_77 : Cond.fieldLink RX12 77 (TX12 8).1 (TX12 8).2.1 (TX12 8).2.2.1 ∈ gT := gT_in (inT6 (List.mem_of_getElem? (i := 37) rfl)) rfl
theorem kf_12_92 : Cond.fieldLink RX12 92 (TX12 6).1 (TX12 6).2.1 (TX12 6).2.2.1 ∈ gT := gT_in (inT6 (List.mem_of_getElem? (i := 35) rfl)) rfl
theorem kf_12_95 : Cond.fieldLink RX12 95 (TX12 7).1 (TX12 7).2.1 (TX12 7).2.2.1 ∈ gT := gT_in (inT6 (List.mem_of_getElem? (i := 36) rfl)) rfl
theorem kf_12_102 : Cond.fieldLink RX12 102 (TX12 9).1 (TX12 9).2.1 (TX12 9).2.2.1 ∈ gT := gT_in (inT6 (List.mem_of_getElem? (i := 38) rfl)) rfl
theorem kf_12_115 : Cond.fieldLink RX12 115 (TX12 10).1 (TX12 10).2.1 (TX12 10).2.2.1 ∈ gT := gT_in (inT6 (List.mem_of_getElem? (i := 39) rfl)) rfl
theorem kf_12_120 : Cond.fieldLink RX12 120 (TX12 11).1 (TX12 11).2.1 (TX12 11).2.2.1 ∈ gT := gT_in (inT6 (List.mem_of_getElem? (i := 40) rfl)) rfl
theorem kf_12_123 : Cond.fieldLink RX12 123 (TX12 12).1 (TX12 12).2.1 (TX12 12).2.2.1 ∈ gT := gT_in (inT6 (List.mem_of_getElem? (i := 41) rfl)) rfl
theorem kf_12_140 : Cond.fieldLink RX12 140 (TX12 15).1 (TX12 15).2.1 (TX12 15).2.2.1 ∈ gT := gT_in (inT6 (List.mem_of_getElem? (i := 44) rfl)) rfl
theorem kf_12_205 : Cond.fieldLink RX12 205 (TX12 13).1 (TX12 13).2.1 (TX12 13).2.2.1 ∈ gT := gT_in (inT6 (List.mem_of_getElem? (i := 42) rfl)) rfl
theorem kf_12_288 : Cond.fieldLink RX12 288 (TX12 19).1 (TX12 19).2.1 (TX12 19).2.2.1 ∈ gT := gT_in (inT6 (List.mem_of_getElem? (i := 48) rfl)) rfl
theorem kf_12_312 : Cond.fieldLink RX12 312 (TX12 20).1 (TX12 20).2.1 (TX12 20).2.2.1 ∈ gT := gT_in (inT6 (List.mem_of_getElem? (i := 49) rfl)) rfl
theorem kf_12_365 : Cond.fieldLink RX12 365 (TX12 24).1 (TX12 24).2.1 (TX12 24).2.2.1 ∈ gT := gT_in (inT6 (List.mem_of_getElem? (i := 53) rfl)) rfl
theorem kw987 : Cond.constantLong RX11 178 (50) ∈ gT := gT_in (inT4 (List.mem_of_getElem? (i := 141) rfl)) rfl
theorem kw1211 : Cond.constantLong RX11 303 (10) ∈ gT := gT_in (inT5 (List.mem_of_getElem? (i := 125) rfl)) rfl
theorem kw1212 : Cond.constantLong RX11 305 (6) ∈ gT := gT_in (inT5 (List.mem_of_getElem? (i := 126) rfl)) rfl
theorem kw1314 : Cond.constantLong RX11 340 (-2) ∈ gT := gT_in (inT5 (List.mem_of_getElem? (i := 228) rfl)) rfl
theorem kw1315 : Cond.constantLong RX11 342 (-6) ∈ gT := gT_in (inT5 (List.mem_of_getElem? (i := 229) rfl)) rfl
theorem kw1316 : Cond.constantLong RX11 344 (-7) ∈ gT := gT_in (inT5 (List.mem_of_getElem? (i := 230) rfl)) rfl
theorem kw944 : Cond.constantLong RX0 63 (50) ∈ gT := gT_in (inT4 (List.mem_of_getElem? (i := 98) rfl)) rfl
theorem kw945 : Cond.constantLong RX0 65 (10) ∈ gT := gT_in (inT4 (List.mem_of_getElem? (i := 99) rfl)) rfl
theorem kw887 : Cond.constantLong RX4 64 (1000000) ∈ gT := gT_in (inT4 (List.mem_of_getElem? (i := 41) rfl)) rfl
theorem kw889 : Cond.constantLong RX4 67 (-1000000) ∈ gT := gT_in (inT4 (List.mem_of_getElem? (i := 43) rfl)) rfl
theorem kw1603 : Cond.constantLong RX12 208 (1000000) ∈ gT := gT_in (inT7 (List.mem_of_getElem? (i := 37) rfl)) rfl
theorem kw1604 : Cond.constantLong RX12 210 (-1000000) ∈ gT := gT_in (inT7 (List.mem_of_getElem? (i := 38) rfl)) rfl
theorem kw1677 : Cond.constantLong RX12 265 (99) ∈ gT := gT_in (inT7 (List.mem_of_getElem? (i := 111) rfl)) rfl
theorem kw1686 : Cond.constantLong RX12 270 (9) ∈ gT := gT_in (inT7 (List.mem_of_getElem? (i := 120) rfl)) rfl
theorem kw1691 : Cond.constantLong RX12 272 (10) ∈ gT := gT_in (inT7 (List.mem_of_getElem? (i := 125) rfl)) rfl
theorem kw1709 : Cond.constantLong RX12 274 (29) ∈ gT := gT_in (inT7 (List.mem_of_getElem? (i := 143) rfl)) rfl
theorem kw1710 : Cond.constantLong RX12 276 (20) ∈ gT := gT_in (inT7 (List.mem_of_getElem? (i := 144) rfl)) rfl
theorem kw1711 : Cond.constantLong RX12 278 (40) ∈ gT := gT_in (inT7 (List.mem_of_getElem? (i := 145) rfl)) rfl
theorem kw1712 : Cond.constantLong RX12 280 (49) ∈ gT := gT_in (inT7 (List.mem_of_getElem? (i := 146) rfl)) rfl
theorem kw1713 : Cond.constantLong RX12 282 (30) ∈ gT := gT_in (inT7 (List.mem_of_getElem? (i := 147) rfl)) rfl
theorem kw1714 : Cond.constantLong RX12 284 (39) ∈ gT := gT_in (inT7 (List.mem_of_getElem? (i := 148) rfl)) rfl
theorem kw1715 : Cond.constantLong RX12 286 (50) ∈ gT := gT_in (inT7 (List.mem_of_getElem? (i := 149) rfl)) rfl
theorem kw1696 : Cond.constantLong RX12 297 (3) ∈ gT := gT_in (inT7 (List.mem_of_getElem? (i := 130) rfl)) rfl
theorem kw1780 : Cond.constantLong RX12 344 (6) ∈ gT := gT_in (inT7 (List.mem_of_getElem? (i := 214) rfl)) rfl
theorem kw1857 : Cond.constantLong RX12 371 (8) ∈ gT := gT_in (inT8 (List.mem_of_getElem? (i := 51) rfl)) rfl
theorem kw1894 : Cond.constantLong RX12 401 (7) ∈ gT := gT_in (inT8 (List.mem_of_getElem? (i := 88) rfl)) rfl
theorem kw1921 : Cond.constantLong RX12 406 (-7) ∈ gT := gT_in (inT8 (List.mem_of_getElem? (i := 115) rfl)) rfl
theorem kl_11_92 : Cond.methodLink RX11 92 yX11_putOnTape ∈ gT := gT_in (inT2 (List.mem_of_getElem? (i := 179) rfl)) rfl
theorem kl_11_96 : Cond.methodLink RX11 96 yX11_spareLand ∈ gT := gT_in (inT2 (List.mem_of_getElem? (i := 187) rfl)) rfl
theorem kl_11_100 : Cond.methodLink RX11 100 yX7_readInto ∈ gT := gT_in (inT2 (List.mem_of_getElem? (i := 191) rfl)) rfl
theorem kl_11_107 : Cond.methodLink RX11 107 yX7_placeOfFault ∈ gT := gT_in (inT3 (List.mem_of_getElem? (i := 213) rfl)) rfl
theorem kl_11_111 : Cond.methodLink RX11 111 yX0_beginIn ∈ gT := gT_in (inT3 (List.mem_of_getElem? (i := 217) rfl)) rfl
theorem kl_11_114 : Cond.methodLink RX11 114 yX2_forgetAll ∈ gT := gT_in (inT3 (List.mem_of_getElem? (i := 224) rfl)) rfl
theorem kl_11_124 : Cond.methodLink RX11 124 yX3_hasLane ∈ gT := gT_in (inT3 (List.mem_of_getElem? (i := 236) rfl)) rfl
theorem kl_11_144 : Cond.methodLink RX11 144 yX0_isOpen ∈ gT := gT_in (inT4 (List.mem_of_getElem? (i := 0) rfl)) rfl
theorem kl_11_147 : Cond.methodLink RX11 147 yX0_whyNoGoing ∈ gT := gT_in (inT4 (List.mem_of_getElem? (i := 52) rfl)) rfl
theorem kl_11_154 : Cond.methodLink RX11 154 yX3_wornFrom ∈ gT := gT_in (inT4 (List.mem_of_getElem? (i := 64) rfl)) rfl
theorem kl_11_158 : Cond.methodLink RX11 158 yX0_fillingsOf ∈ gT := gT_in (inT4 (List.mem_of_getElem? (i := 74) rfl)) rfl
theorem kl_11_161 : Cond.methodLink RX11 161 yX11_doOne ∈ gT := gT_in (inT4 (List.mem_of_getElem? (i := 86) rfl)) rfl
theorem kl_11_168 : Cond.methodLink RX11 168 yX0_depthOf ∈ gT := gT_in (inT4 (List.mem_of_getElem? (i := 128) rfl)) rfl
theorem kl_11_174 : Cond.methodLink RX11 174 yX2_keep ∈ gT := gT_in (inT4 (List.mem_of_getElem? (i := 118) rfl)) rfl
theorem kl_11_180 : Cond.methodLink RX11 180 yX0_tryDeed ∈ gT := gT_in (inT4 (List.mem_of_getElem? (i := 94) rfl)) rfl
theorem kl_11_184 : Cond.methodLink RX11 184 yJ6_bitCount_0f7a4 ∈ gT := gT_in (inT4 (List.mem_of_getElem? (i := 142) rfl)) rfl
theorem kl_11_189 : Cond.methodLink RX11 189 yX0_takeOver ∈ gT := gT_in (inT4 (List.mem_of_getElem? (i := 90) rfl)) rfl
theorem kl_11_192 : Cond.methodLink RX11 192 yX2_kept ∈ gT := gT_in (inT4 (List.mem_of_getElem? (i := 151) rfl)) rfl
theorem kl_11_195 : Cond.methodLink RX11 195 yX2_bringBack ∈ gT := gT_in (inT4 (List.mem_of_getElem? (i := 155) rfl)) rfl
theorem kl_11_199 : Cond.methodLink RX11 199 yX11_trayOf ∈ gT := gT_in (inT4 (List.mem_of_getElem? (i := 166) rfl)) rfl
theorem kl_11_210 : Cond.methodLink RX11 210 yX10_numberAt ∈ gT := gT_in (inT4 (List.mem_of_getElem? (i := 170) rfl)) rfl
theorem kl_11_214 : Cond.methodLink RX11 214 yX0_allDepths ∈ gT := gT_in (inT4 (List.mem_of_getElem? (i := 174) rfl)) rfl
theorem kl_11_217 : Cond.methodLink RX11 217 yX11_drawBehind ∈ gT := gT_in (inT4 (List.mem_of_getElem? (i := 186) rfl)) rfl
theorem kl_11_220 : Cond.methodLink RX11 220 yX11_drawnDeed ∈ gT := gT_in (inT4 (List.mem_of_getElem? (i := 190) rfl)) rfl
theorem kl_11_224 : Cond.methodLink RX11 224 yX0_openLanes ∈ gT := gT_in (inT4 (List.mem_of_getElem? (i := 197) rfl)) rfl
theorem kl_11_227 : Cond.methodLink RX11 227 yX3_comingFrom ∈ gT := gT_in (inT4 (List.mem_of_getElem? (i := 201) rfl)) rfl
theorem kl_11_230 : Cond.methodLink RX11 230 yX3_hasPlace ∈ gT := gT_in (inT4 (List.mem_of_getElem? (i := 209) rfl)) rfl
theorem kl_11_233 : Cond.methodLink RX11 233 yX6_measureOpen ∈ gT := gT_in (inT4 (List.mem_of_getElem? (i := 213) rfl)) rfl
theorem kl_11_237 : Cond.methodLink RX11 237 yX6_farFrom ∈ gT := gT_in (inT4 (List.mem_of_getElem? (i := 235) rfl)) rfl
theorem kl_11_240 : Cond.methodLink RX11 240 yX8_countRows ∈ gT := gT_in (inT5 (List.mem_of_getElem? (i := 0) rfl)) rfl
theorem kl_11_244 : Cond.methodLink RX11 244 yX6_laneOnWay ∈ gT := gT_in (inT5 (List.mem_of_getElem? (i := 30) rfl)) rfl
theorem kl_11_248 : Cond.methodLink RX11 248 yX3_mayGo ∈ gT := gT_in (inT5 (List.mem_of_getElem? (i := 43) rfl)) rfl
theorem kl_11_252 : Cond.methodLink RX11 252 yX6_measureFillings ∈ gT := gT_in (inT5 (List.mem_of_getElem? (i := 48) rfl)) rfl
theorem kl_11_255 : Cond.methodLink RX11 255 yX6_fillingsIn ∈ gT := gT_in (inT5 (List.mem_of_getElem? (i := 58) rfl)) rfl
theorem kl_11_258 : Cond.methodLink RX11 258 yX6_lanesIn ∈ gT := gT_in (inT5 (List.mem_of_getElem? (i := 61) rfl)) rfl
theorem kl_11_261 : Cond.methodLink RX11 261 yX6_weighFillings ∈ gT := gT_in (inT5 (List.mem_of_getElem? (i := 72) rfl)) rfl
theorem kl_11_264 : Cond.methodLink RX11 264 yX6_leastJoining ∈ gT := gT_in (inT5 (List.mem_of_getElem? (i := 73) rfl)) rfl
theorem kl_11_268 : Cond.methodLink RX11 268 yX6_weightOfAll ∈ gT := gT_in (inT5 (List.mem_of_getElem? (i := 82) rfl)) rfl
theorem kl_11_272 : Cond.methodLink RX11 272 yX11_leastShutting ∈ gT := gT_in (inT5 (List.mem_of_getElem? (i := 87) rfl)) rfl
theorem kl_11_278 : Cond.methodLink RX11 278 yX3_backInTheEnd ∈ gT := gT_in (inT5 (List.mem_of_getElem? (i := 95) rfl)) rfl
theorem kl_11_281 : Cond.methodLink RX11 281 yX11_seasonsOfTurning ∈ gT := gT_in (inT5 (List.mem_of_getElem? (i := 100) rfl)) rfl
theorem kl_11_284 : Cond.methodLink RX11 284 yX3_backBehindSeason ∈ gT := gT_in (inT5 (List.mem_of_getElem? (i := 104) rfl)) rfl
theorem kl_11_290 : Cond.methodLink RX11 290 yX11_leastStarting ∈ gT := gT_in (inT5 (List.mem_of_getElem? (i := 113) rfl)) rfl
theorem kl_11_293 : Cond.methodLink RX11 293 yX11_whyNotWorn ∈ gT := gT_in (inT5 (List.mem_of_getElem? (i := 121) rfl)) rfl
theorem kl_11_297 : Cond.methodLink RX11 297 yX11_rainsBy ∈ gT := gT_in (inT5 (List.mem_of_getElem? (i := 127) rfl)) rfl
theorem kl_11_300 : Cond.methodLink RX11 300 yX11_mostAlike ∈ gT := gT_in (inT5 (List.mem_of_getElem? (i := 139) rfl)) rfl
theorem kl_11_307 : Cond.methodLink RX11 307 yX11_wornByRain ∈ gT := gT_in (inT5 (List.mem_of_getElem? (i := 131) rfl)) rfl
theorem kl_11_310 : Cond.methodLink RX11 310 yJ9_max_7cf53 ∈ gT := gT_in (inT5 (List.mem_of_getElem? (i := 143) rfl)) rfl
theorem kl_11_315 : Cond.methodLink RX11 315 yX1_firstWinning ∈ gT := gT_in (inT5 (List.mem_of_getElem? (i := 148) rfl)) rfl
theorem kl_11_319 : Cond.methodLink RX11 319 yX5_weigh ∈ gT := gT_in (inT5 (List.mem_of_getElem? (i := 170) rfl)) rfl
theorem kl_11_323 : Cond.methodLink RX11 323 yX5_aboveAt ∈ gT := gT_in (inT5 (List.mem_of_getElem? (i := 190) rfl)) rfl
theorem kl_11_326 : Cond.methodLink RX11 326 yX5_belowAll ∈ gT := gT_in (inT5 (List.mem_of_getElem? (i := 194) rfl)) rfl
theorem kl_11_329 : Cond.methodLink RX11 329 yX5_commonOf ∈ gT := gT_in (inT5 (List.mem_of_getElem? (i := 198) rfl)) rfl
theorem kl_11_332 : Cond.methodLink RX11 332 yX5_firstLikeliest ∈ gT := gT_in (inT5 (List.mem_of_getElem? (i := 205) rfl)) rfl
theorem kl_11_336 : Cond.methodLink RX11 336 yX10_makeNew ∈ gT := gT_in (inT5 (List.mem_of_getElem? (i := 217) rfl)) rfl
theorem kl_11_346 : Cond.methodLink RX11 346 yX10_put ∈ gT := gT_in (inT5 (List.mem_of_getElem? (i := 231) rfl)) rfl
theorem kl_11_350 : Cond.methodLink RX11 350 yJ9_min_7cf53 ∈ gT := gT_in (inT6 (List.mem_of_getElem? (i := 3) rfl)) rfl
theorem kl_11_353 : Cond.methodLink RX11 353 yX11_pictureOf ∈ gT := gT_in (inT6 (List.mem_of_getElem? (i := 8) rfl)) rfl
theorem kl_0_38 : Cond.methodLink RX0 38 arraycopyName ∈ gT := gT_in (inT3 (List.mem_of_getElem? (i := 221) rfl)) rfl
theorem kl_0_44 : Cond.methodLink RX0 44 yX3_hasLane ∈ gT := gT_in (inT4 (List.mem_of_getElem? (i := 4) rfl)) rfl
theorem kl_0_51 : Cond.methodLink RX0 51 yX3_mayGo ∈ gT := gT_in (inT4 (List.mem_of_getElem? (i := 5) rfl)) rfl
theorem kl_0_55 : Cond.methodLink RX0 55 yX0_depthOf ∈ gT := gT_in (inT4 (List.mem_of_getElem? (i := 78) rfl)) rfl
theorem kl_0_59 : Cond.methodLink RX0 59 yX3_otherEnd ∈ gT := gT_in (inT4 (List.mem_of_getElem? (i := 56) rfl)) rfl
theorem kl_0_67 : Cond.methodLink RX0 67 yX0_whyNoGoing ∈ gT := gT_in (inT4 (List.mem_of_getElem? (i := 100) rfl)) rfl
theorem kl_0_70 : Cond.methodLink RX0 70 yX0_goBy ∈ gT := gT_in (inT4 (List.mem_of_getElem? (i := 101) rfl)) rfl
theorem kl_0_74 : Cond.methodLink RX0 74 yX0_tryDepth ∈ gT := gT_in (inT4 (List.mem_of_getElem? (i := 106) rfl)) rfl
theorem kl_0_77 : Cond.methodLink RX0 77 yX0_tryTurning ∈ gT := gT_in (inT4 (List.mem_of_getElem? (i := 110) rfl)) rfl
theorem kl_0_80 : Cond.methodLink RX0 80 yX3_backBehindSeason ∈ gT := gT_in (inT4 (List.mem_of_getElem? (i := 114) rfl)) rfl
theorem kl_0_83 : Cond.methodLink RX0 83 yX3_wornFrom ∈ gT := gT_in (inT4 (List.mem_of_getElem? (i := 105) rfl)) rfl
theorem kl_1_21 : Cond.methodLink RX1 21 yX0_openLanes ∈ gT := gT_in (inT5 (List.mem_of_getElem? (i := 152) rfl)) rfl
theorem kl_1_31 : Cond.methodLink RX1 31 yX1_wonBehind ∈ gT := gT_in (inT5 (List.mem_of_getElem? (i := 153) rfl)) rfl
theorem kl_1_38 : Cond.methodLink RX1 38 yX1_leadsToLoss ∈ gT := gT_in (inT5 (List.mem_of_getElem? (i := 157) rfl)) rfl
theorem kl_1_48 : Cond.methodLink RX1 48 yX3_otherEnd ∈ gT := gT_in (inT5 (List.mem_of_getElem? (i := 161) rfl)) rfl
theorem kl_2_27 : Cond.methodLink RX2 27 yX0_takeOver ∈ gT := gT_in (inT4 (List.mem_of_getElem? (i := 122) rfl)) rfl
theorem kl_2_31 : Cond.methodLink RX2 31 yJ9_min_7cf53 ∈ gT := gT_in (inT4 (List.mem_of_getElem? (i := 123) rfl)) rfl
theorem kl_2_37 : Cond.methodLink RX2 37 yJ9_floorMod_7cf53 ∈ gT := gT_in (inT4 (List.mem_of_getElem? (i := 159) rfl)) rfl
theorem kl_3_62 : Cond.methodLink RX3 62 yJ7_fill_53178 ∈ gT := gT_in (inT2 (List.mem_of_getElem? (i := 199) rfl)) rfl
theorem kl_3_68 : Cond.methodLink RX3 68 yX4_makeEmpty ∈ gT := gT_in (inT2 (List.mem_of_getElem? (i := 202) rfl)) rfl
theorem kl_3_71 : Cond.methodLink RX3 71 yX3_hasLane ∈ gT := gT_in (inT4 (List.mem_of_getElem? (i := 9) rfl)) rfl
theorem kl_3_75 : Cond.methodLink RX3 75 yX4_hasLaw ∈ gT := gT_in (inT4 (List.mem_of_getElem? (i := 10) rfl)) rfl
theorem kl_3_82 : Cond.methodLink RX3 82 yJ6_bitCount_0f7a4 ∈ gT := gT_in (inT4 (List.mem_of_getElem? (i := 14) rfl)) rfl
theorem kl_3_88 : Cond.methodLink RX3 88 yX4_look ∈ gT := gT_in (inT4 (List.mem_of_getElem? (i := 20) rfl)) rfl
theorem kl_3_92 : Cond.methodLink RX3 92 yX4_tell ∈ gT := gT_in (inT4 (List.mem_of_getElem? (i := 24) rfl)) rfl
theorem kl_3_95 : Cond.methodLink RX3 95 yJ9_min_7cf53 ∈ gT := gT_in (inT4 (List.mem_of_getElem? (i := 68) rfl)) rfl
theorem kl_3_101 : Cond.methodLink RX3 101 yJ9_max_7cf53 ∈ gT := gT_in (inT4 (List.mem_of_getElem? (i := 69) rfl)) rfl
theorem kl_3_104 : Cond.methodLink RX3 104 yX3_backBehindSeason ∈ gT := gT_in (inT5 (List.mem_of_getElem? (i := 99) rfl)) rfl
theorem kl_4_31 : Cond.methodLink RX4 31 yJ7_fill_53178 ∈ gT := gT_in (inT2 (List.mem_of_getElem? (i := 206) rfl)) rfl
theorem kl_4_40 : Cond.methodLink RX4 40 yJ9_max_7cf53 ∈ gT := gT_in (inT4 (List.mem_of_getElem? (i := 28) rfl)) rfl
theorem kl_4_46 : Cond.methodLink RX4 46 yJ9_min_7cf53 ∈ gT := gT_in (inT4 (List.mem_of_getElem? (i := 29) rfl)) rfl
theorem kl_4_49 : Cond.methodLink RX4 49 yX4_push ∈ gT := gT_in (inT4 (List.mem_of_getElem? (i := 30) rfl)) rfl
theorem kl_4_53 : Cond.methodLink RX4 53 yX4_pop ∈ gT := gT_in (inT4 (List.mem_of_getElem? (i := 34) rfl)) rfl
theorem kl_4_57 : Cond.methodLink RX4 57 yX4_reckon ∈ gT := gT_in (inT4 (List.mem_of_getElem? (i := 38) rfl)) rfl
theorem kl_4_61 : Cond.methodLink RX4 61 yX4_compare ∈ gT := gT_in (inT4 (List.mem_of_getElem? (i := 45) rfl)) rfl
theorem kl_5_28 : Cond.methodLink RX5 28 yX0_openLanes ∈ gT := gT_in (inT5 (List.mem_of_getElem? (i := 174) rfl)) rfl
theorem kl_5_32 : Cond.methodLink RX5 32 yJ7_fill_53178 ∈ gT := gT_in (inT5 (List.mem_of_getElem? (i := 175) rfl)) rfl
theorem kl_5_38 : Cond.methodLink RX5 38 yX5_putWhole ∈ gT := gT_in (inT5 (List.mem_of_getElem? (i := 176) rfl)) rfl
theorem kl_5_53 : Cond.methodLink RX5 53 yX5_throughTo ∈ gT := gT_in (inT5 (List.mem_of_getElem? (i := 180) rfl)) rfl
theorem kl_5_57 : Cond.methodLink RX5 57 yX5_raise ∈ gT := gT_in (inT5 (List.mem_of_getElem? (i := 185) rfl)) rfl
theorem kl_5_61 : Cond.methodLink RX5 61 yJ9_max_7cf53 ∈ gT := gT_in (inT5 (List.mem_of_getElem? (i := 189) rfl)) rfl
theorem kl_5_67 : Cond.methodLink RX5 67 yX3_hasLane ∈ gT := gT_in (inT5 (List.mem_of_getElem? (i := 184) rfl)) rfl
theorem kl_5_74 : Cond.methodLink RX5 74 yX5_weigh ∈ gT := gT_in (inT5 (List.mem_of_getElem? (i := 209) rfl)) rfl
theorem kl_5_81 : Cond.methodLink RX5 81 yX5_aboveAt ∈ gT := gT_in (inT5 (List.mem_of_getElem? (i := 210) rfl)) rfl
theorem kl_5_85 : Cond.methodLink RX5 85 yX3_otherEnd ∈ gT := gT_in (inT5 (List.mem_of_getElem? (i := 211) rfl)) rfl
theorem kl_5_88 : Cond.methodLink RX5 88 yX0_isOpen ∈ gT := gT_in (inT5 (List.mem_of_getElem? (i := 212) rfl)) rfl
theorem kl_6_18 : Cond.methodLink RX6 18 yX0_isOpen ∈ gT := gT_in (inT4 (List.mem_of_getElem? (i := 217) rfl)) rfl
theorem kl_6_28 : Cond.methodLink RX6 28 yX6_measure ∈ gT := gT_in (inT4 (List.mem_of_getElem? (i := 218) rfl)) rfl
theorem kl_6_32 : Cond.methodLink RX6 32 yX6_weighFillings ∈ gT := gT_in (inT5 (List.mem_of_getElem? (i := 52) rfl)) rfl
theorem kl_6_36 : Cond.methodLink RX6 36 yX3_hasLane ∈ gT := gT_in (inT5 (List.mem_of_getElem? (i := 56) rfl)) rfl
theorem kl_6_41 : Cond.methodLink RX6 41 yX0_fillingsOf ∈ gT := gT_in (inT5 (List.mem_of_getElem? (i := 57) rfl)) rfl
theorem kl_6_45 : Cond.methodLink RX6 45 yJ7_fill_53178 ∈ gT := gT_in (inT4 (List.mem_of_getElem? (i := 222) rfl)) rfl
theorem kl_6_55 : Cond.methodLink RX6 55 yX6_weightOf ∈ gT := gT_in (inT4 (List.mem_of_getElem? (i := 223) rfl)) rfl
theorem kl_6_64 : Cond.methodLink RX6 64 yX6_relax ∈ gT := gT_in (inT4 (List.mem_of_getElem? (i := 227) rfl)) rfl
theorem kl_6_68 : Cond.methodLink RX6 68 yX6_farFrom ∈ gT := gT_in (inT4 (List.mem_of_getElem? (i := 231) rfl)) rfl
theorem kl_6_71 : Cond.methodLink RX6 71 yX6_firstOnward ∈ gT := gT_in (inT5 (List.mem_of_getElem? (i := 34) rfl)) rfl
theorem kl_6_75 : Cond.methodLink RX6 75 yX3_otherEnd ∈ gT := gT_in (inT5 (List.mem_of_getElem? (i := 38) rfl)) rfl
theorem kl_6_82 : Cond.methodLink RX6 82 yX6_weightOfAll ∈ gT := gT_in (inT5 (List.mem_of_getElem? (i := 77) rfl)) rfl
theorem kl_6_85 : Cond.methodLink RX6 85 yX3_comingFrom ∈ gT := gT_in (inT5 (List.mem_of_getElem? (i := 81) rfl)) rfl
theorem kl_7_29 : Cond.methodLink RX7 29 yX3_makeEmpty ∈ gT := gT_in (inT2 (List.mem_of_getElem? (i := 195) rfl)) rfl
theorem kl_7_34 : Cond.methodLink RX7 34 yX9_begin ∈ gT := gT_in (inT2 (List.mem_of_getElem? (i := 207) rfl)) rfl
theorem kl_7_38 : Cond.methodLink RX7 38 yX7_readLandLine ∈ gT := gT_in (inT3 (List.mem_of_getElem? (i := 112) rfl)) rfl
theorem kl_7_45 : Cond.methodLink RX7 45 yX7_readLine ∈ gT := gT_in (inT3 (List.mem_of_getElem? (i := 133) rfl)) rfl
theorem kl_7_51 : Cond.methodLink RX7 51 yX7_refuse ∈ gT := gT_in (inT3 (List.mem_of_getElem? (i := 120) rfl)) rfl
theorem kl_7_55 : Cond.methodLink RX7 55 yX9_advance ∈ gT := gT_in (inT3 (List.mem_of_getElem? (i := 124) rfl)) rfl
theorem kl_7_64 : Cond.methodLink RX7 64 yX7_take ∈ gT := gT_in (inT3 (List.mem_of_getElem? (i := 116) rfl)) rfl
theorem kl_7_70 : Cond.methodLink RX7 70 yX7_takeNumber ∈ gT := gT_in (inT3 (List.mem_of_getElem? (i := 125) rfl)) rfl
theorem kl_7_77 : Cond.methodLink RX7 77 yX7_takeLineEnd ∈ gT := gT_in (inT3 (List.mem_of_getElem? (i := 129) rfl)) rfl
theorem kl_7_80 : Cond.methodLink RX7 80 yX7_readLane ∈ gT := gT_in (inT3 (List.mem_of_getElem? (i := 137) rfl)) rfl
theorem kl_7_83 : Cond.methodLink RX7 83 yX7_readCart ∈ gT := gT_in (inT3 (List.mem_of_getElem? (i := 145) rfl)) rfl
theorem kl_7_86 : Cond.methodLink RX7 86 yX7_readPerson ∈ gT := gT_in (inT3 (List.mem_of_getElem? (i := 149) rfl)) rfl
theorem kl_7_89 : Cond.methodLink RX7 89 yX7_readRain ∈ gT := gT_in (inT3 (List.mem_of_getElem? (i := 153) rfl)) rfl
theorem kl_7_92 : Cond.methodLink RX7 92 yX7_readWears ∈ gT := gT_in (inT3 (List.mem_of_getElem? (i := 157) rfl)) rfl
theorem kl_7_95 : Cond.methodLink RX7 95 yX7_readMay ∈ gT := gT_in (inT3 (List.mem_of_getElem? (i := 209) rfl)) rfl
theorem kl_7_108 : Cond.methodLink RX7 108 yX7_readFlag ∈ gT := gT_in (inT3 (List.mem_of_getElem? (i := 141) rfl)) rfl
theorem kl_7_146 : Cond.methodLink RX7 146 yX4_stepsNow ∈ gT := gT_in (inT3 (List.mem_of_getElem? (i := 161) rfl)) rfl
theorem kl_7_152 : Cond.methodLink RX7 152 yX7_readSum ∈ gT := gT_in (inT3 (List.mem_of_getElem? (i := 165) rfl)) rfl
theorem kl_7_155 : Cond.methodLink RX7 155 yX4_enact ∈ gT := gT_in (inT3 (List.mem_of_getElem? (i := 205) rfl)) rfl
theorem kl_7_159 : Cond.methodLink RX7 159 yX7_readTruth ∈ gT := gT_in (inT3 (List.mem_of_getElem? (i := 193) rfl)) rfl
theorem kl_7_162 : Cond.methodLink RX7 162 yX7_readBoth ∈ gT := gT_in (inT3 (List.mem_of_getElem? (i := 197) rfl)) rfl
theorem kl_7_165 : Cond.methodLink RX7 165 yX4_addStep ∈ gT := gT_in (inT3 (List.mem_of_getElem? (i := 181) rfl)) rfl
theorem kl_7_168 : Cond.methodLink RX7 168 yX7_readUnit ∈ gT := gT_in (inT3 (List.mem_of_getElem? (i := 201) rfl)) rfl
theorem kl_7_171 : Cond.methodLink RX7 171 yX7_takeOpening ∈ gT := gT_in (inT3 (List.mem_of_getElem? (i := 185) rfl)) rfl
theorem kl_7_174 : Cond.methodLink RX7 174 yX7_readTerm ∈ gT := gT_in (inT3 (List.mem_of_getElem? (i := 169) rfl)) rfl
theorem kl_7_177 : Cond.methodLink RX7 177 yX7_readAtom ∈ gT := gT_in (inT3 (List.mem_of_getElem? (i := 173) rfl)) rfl
theorem kl_7_180 : Cond.methodLink RX7 180 yX7_addAtom ∈ gT := gT_in (inT3 (List.mem_of_getElem? (i := 177) rfl)) rfl
theorem kl_7_184 : Cond.methodLink RX7 184 yX7_readIf ∈ gT := gT_in (inT3 (List.mem_of_getElem? (i := 189) rfl)) rfl
theorem kl_8_40 : Cond.methodLink RX8 40 yX0_depthOf ∈ gT := gT_in (inT5 (List.mem_of_getElem? (i := 4) rfl)) rfl
theorem kl_8_44 : Cond.methodLink RX8 44 yX3_mayGo ∈ gT := gT_in (inT5 (List.mem_of_getElem? (i := 5) rfl)) rfl
theorem kl_8_53 : Cond.methodLink RX8 53 yX3_wornFrom ∈ gT := gT_in (inT5 (List.mem_of_getElem? (i := 6) rfl)) rfl
theorem kl_8_60 : Cond.methodLink RX8 60 yX8_rowsFrom ∈ gT := gT_in (inT5 (List.mem_of_getElem? (i := 7) rfl)) rfl
theorem kl_8_64 : Cond.methodLink RX8 64 yX6_farFrom ∈ gT := gT_in (inT5 (List.mem_of_getElem? (i := 11) rfl)) rfl
theorem kl_8_69 : Cond.methodLink RX8 69 yX8_pairsFrom ∈ gT := gT_in (inT5 (List.mem_of_getElem? (i := 12) rfl)) rfl
theorem kl_8_75 : Cond.methodLink RX8 75 yX3_otherEnd ∈ gT := gT_in (inT5 (List.mem_of_getElem? (i := 17) rfl)) rfl
theorem kl_8_78 : Cond.methodLink RX8 78 yX8_isOpenAt ∈ gT := gT_in (inT5 (List.mem_of_getElem? (i := 18) rfl)) rfl
theorem kl_8_82 : Cond.methodLink RX8 82 yX8_depthBehind ∈ gT := gT_in (inT5 (List.mem_of_getElem? (i := 22) rfl)) rfl
theorem kl_8_85 : Cond.methodLink RX8 85 yJ7_fill_53178 ∈ gT := gT_in (inT5 (List.mem_of_getElem? (i := 16) rfl)) rfl
theorem kl_9_19 : Cond.methodLink RX9 19 yJ9_min_7cf53 ∈ gT := gT_in (inT2 (List.mem_of_getElem? (i := 211) rfl)) rfl
theorem kl_9_32 : Cond.methodLink RX9 32 yX9_byteAt ∈ gT := gT_in (inT2 (List.mem_of_getElem? (i := 214) rfl)) rfl
theorem kl_9_36 : Cond.methodLink RX9 36 yX9_isLetter ∈ gT := gT_in (inT2 (List.mem_of_getElem? (i := 218) rfl)) rfl
theorem kl_9_40 : Cond.methodLink RX9 40 yX9_takeWord ∈ gT := gT_in (inT2 (List.mem_of_getElem? (i := 221) rfl)) rfl
theorem kl_9_43 : Cond.methodLink RX9 43 yX9_isDigit ∈ gT := gT_in (inT3 (List.mem_of_getElem? (i := 45) rfl)) rfl
theorem kl_9_46 : Cond.methodLink RX9 46 yX9_takeDigits ∈ gT := gT_in (inT3 (List.mem_of_getElem? (i := 48) rfl)) rfl
theorem kl_9_51 : Cond.methodLink RX9 51 yJ0_indexOf_0f7a4 ∈ gT := gT_in (inT3 (List.mem_of_getElem? (i := 53) rfl)) rfl
theorem kl_9_56 : Cond.methodLink RX9 56 yX9_keep ∈ gT := gT_in (inT3 (List.mem_of_getElem? (i := 41) rfl)) rfl
theorem kl_9_63 : Cond.methodLink RX9 63 yX9_advance ∈ gT := gT_in (inT3 (List.mem_of_getElem? (i := 108) rfl)) rfl
theorem kl_9_77 : Cond.methodLink RX9 77 yJ0_length_8abf5 ∈ gT := gT_in (inT2 (List.mem_of_getElem? (i := 226) rfl)) rfl
theorem kl_9_80 : Cond.methodLink RX9 80 yJ0_charAt_5068e ∈ gT := gT_in (inT2 (List.mem_of_getElem? (i := 236) rfl)) rfl
theorem kl_9_84 : Cond.methodLink RX9 84 yX9_isSame ∈ gT := gT_in (inT3 (List.mem_of_getElem? (i := 34) rfl)) rfl
theorem kl_9_88 : Cond.methodLink RX9 88 yJ9_max_7cf53 ∈ gT := gT_in (inT3 (List.mem_of_getElem? (i := 38) rfl)) rfl
theorem kl_10_26 : Cond.methodLink RX10 26 yJ7_fill_d0a16 ∈ gT := gT_in (inT5 (List.mem_of_getElem? (i := 221) rfl)) rfl
theorem kl_10_32 : Cond.methodLink RX10 32 yX10_cutToSort ∈ gT := gT_in (inT5 (List.mem_of_getElem? (i := 235) rfl)) rfl
theorem kl_12_70 : Cond.methodLink RX12 70 yX12_plain ∈ gT := gT_in (inT6 (List.mem_of_getElem? (i := 26) rfl)) rfl
theorem kl_12_82 : Cond.methodLink RX12 82 yJ0_length_8abf5 ∈ gT := gT_in (inT6 (List.mem_of_getElem? (i := 153) rfl)) rfl
theorem kl_12_88 : Cond.methodLink RX12 88 yJ0_charAt_5068e ∈ gT := gT_in (inT6 (List.mem_of_getElem? (i := 154) rfl)) rfl
theorem kl_12_98 : Cond.methodLink RX12 98 yX12_see ∈ gT := gT_in (inT6 (List.mem_of_getElem? (i := 141) rfl)) rfl
theorem kl_12_105 : Cond.methodLink RX12 105 yX12_isSmall ∈ gT := gT_in (inT6 (List.mem_of_getElem? (i := 145) rfl)) rfl
theorem kl_12_109 : Cond.methodLink RX12 109 yX12_keyAt ∈ gT := gT_in (inT6 (List.mem_of_getElem? (i := 148) rfl)) rfl
theorem kl_12_112 : Cond.methodLink RX12 112 yX12_isDigit ∈ gT := gT_in (inT6 (List.mem_of_getElem? (i := 155) rfl)) rfl
theorem kl_12_126 : Cond.methodLink RX12 126 yX12_is ∈ gT := gT_in (inT6 (List.mem_of_getElem? (i := 163) rfl)) rfl
theorem kl_12_129 : Cond.methodLink RX12 129 yX12_next ∈ gT := gT_in (inT6 (List.mem_of_getElem? (i := 137) rfl)) rfl
theorem kl_12_132 : Cond.methodLink RX12 132 yX12_fails ∈ gT := gT_in (inT6 (List.mem_of_getElem? (i := 167) rfl)) rfl
theorem kl_12_136 : Cond.methodLink RX12 136 yX12_within ∈ gT := gT_in (inT6 (List.mem_of_getElem? (i := 134) rfl)) rfl
theorem kl_12_143 : Cond.methodLink RX12 143 yX12_codes ∈ gT := gT_in (inT6 (List.mem_of_getElem? (i := 219) rfl)) rfl
theorem kl_12_146 : Cond.methodLink RX12 146 yX12_wordOf ∈ gT := gT_in (inT6 (List.mem_of_getElem? (i := 223) rfl)) rfl
theorem kl_12_149 : Cond.methodLink RX12 149 yX12_goesIn ∈ gT := gT_in (inT6 (List.mem_of_getElem? (i := 227) rfl)) rfl
theorem kl_12_152 : Cond.methodLink RX12 152 yX12_readSum ∈ gT := gT_in (inT6 (List.mem_of_getElem? (i := 207) rfl)) rfl
theorem kl_12_155 : Cond.methodLink RX12 155 yX12_eats ∈ gT := gT_in (inT6 (List.mem_of_getElem? (i := 159) rfl)) rfl
theorem kl_12_158 : Cond.methodLink RX12 158 yX12_readIf ∈ gT := gT_in (inT6 (List.mem_of_getElem? (i := 231) rfl)) rfl
theorem kl_12_161 : Cond.methodLink RX12 161 yX12_readTruth ∈ gT := gT_in (inT6 (List.mem_of_getElem? (i := 235) rfl)) rfl
theorem kl_12_164 : Cond.methodLink RX12 164 yX12_readAtom ∈ gT := gT_in (inT6 (List.mem_of_getElem? (i := 215) rfl)) rfl
theorem kl_12_167 : Cond.methodLink RX12 167 yX12_readTerm ∈ gT := gT_in (inT6 (List.mem_of_getElem? (i := 211) rfl)) rfl
theorem kl_12_170 : Cond.methodLink RX12 170 yX12_readUnit ∈ gT := gT_in (inT7 (List.mem_of_getElem? (i := 3) rfl)) rfl
theorem kl_12_173 : Cond.methodLink RX12 173 yX12_readBoth ∈ gT := gT_in (inT6 (List.mem_of_getElem? (i := 239) rfl)) rfl
theorem kl_12_176 : Cond.methodLink RX12 176 yX12_takes ∈ gT := gT_in (inT6 (List.mem_of_getElem? (i := 175) rfl)) rfl
theorem kl_12_180 : Cond.methodLink RX12 180 yX12_readFlag ∈ gT := gT_in (inT6 (List.mem_of_getElem? (i := 191) rfl)) rfl
theorem kl_12_183 : Cond.methodLink RX12 183 yX12_named ∈ gT := gT_in (inT6 (List.mem_of_getElem? (i := 171) rfl)) rfl
theorem kl_12_187 : Cond.methodLink RX12 187 yX12_readLane ∈ gT := gT_in (inT6 (List.mem_of_getElem? (i := 187) rfl)) rfl
theorem kl_12_190 : Cond.methodLink RX12 190 yX12_readCart ∈ gT := gT_in (inT6 (List.mem_of_getElem? (i := 195) rfl)) rfl
theorem kl_12_193 : Cond.methodLink RX12 193 yX12_readPerson ∈ gT := gT_in (inT6 (List.mem_of_getElem? (i := 199) rfl)) rfl
theorem kl_12_196 : Cond.methodLink RX12 196 yX12_readLaw ∈ gT := gT_in (inT6 (List.mem_of_getElem? (i := 203) rfl)) rfl
theorem kl_12_199 : Cond.methodLink RX12 199 yX12_closes ∈ gT := gT_in (inT6 (List.mem_of_getElem? (i := 179) rfl)) rfl
theorem kl_12_202 : Cond.methodLink RX12 202 yX12_readLine ∈ gT := gT_in (inT6 (List.mem_of_getElem? (i := 183) rfl)) rfl
theorem kl_12_212 : Cond.methodLink RX12 212 yX12_bitsOf ∈ gT := gT_in (inT7 (List.mem_of_getElem? (i := 31) rfl)) rfl
theorem kl_12_215 : Cond.methodLink RX12 215 yX12_between ∈ gT := gT_in (inT7 (List.mem_of_getElem? (i := 34) rfl)) rfl
theorem kl_12_218 : Cond.methodLink RX12 218 yX12_reckons ∈ gT := gT_in (inT7 (List.mem_of_getElem? (i := 27) rfl)) rfl
theorem kl_12_222 : Cond.methodLink RX12 222 yX12_mayGo ∈ gT := gT_in (inT7 (List.mem_of_getElem? (i := 23) rfl)) rfl
theorem kl_12_226 : Cond.methodLink RX12 226 yX12_isLane ∈ gT := gT_in (inT7 (List.mem_of_getElem? (i := 15) rfl)) rfl
theorem kl_12_230 : Cond.methodLink RX12 230 yX12_otherEnd ∈ gT := gT_in (inT7 (List.mem_of_getElem? (i := 47) rfl)) rfl
theorem kl_12_233 : Cond.methodLink RX12 233 yX12_isOpen ∈ gT := gT_in (inT7 (List.mem_of_getElem? (i := 19) rfl)) rfl
theorem kl_12_236 : Cond.methodLink RX12 236 yX12_whyGo ∈ gT := gT_in (inT7 (List.mem_of_getElem? (i := 43) rfl)) rfl
theorem kl_12_240 : Cond.methodLink RX12 240 yX12_wornTo ∈ gT := gT_in (inT7 (List.mem_of_getElem? (i := 55) rfl)) rfl
theorem kl_12_243 : Cond.methodLink RX12 243 yX12_fillingsOf ∈ gT := gT_in (inT7 (List.mem_of_getElem? (i := 63) rfl)) rfl
theorem kl_12_246 : Cond.methodLink RX12 246 yX12_stores ∈ gT := gT_in (inT7 (List.mem_of_getElem? (i := 71) rfl)) rfl
theorem kl_12_249 : Cond.methodLink RX12 249 yX12_goes ∈ gT := gT_in (inT7 (List.mem_of_getElem? (i := 75) rfl)) rfl
theorem kl_12_252 : Cond.methodLink RX12 252 yX12_notes ∈ gT := gT_in (inT7 (List.mem_of_getElem? (i := 79) rfl)) rfl
theorem kl_12_255 : Cond.methodLink RX12 255 yX12_whyRut ∈ gT := gT_in (inT7 (List.mem_of_getElem? (i := 91) rfl)) rfl
theorem kl_12_259 : Cond.methodLink RX12 259 yX12_shovels ∈ gT := gT_in (inT7 (List.mem_of_getElem? (i := 87) rfl)) rfl
theorem kl_12_262 : Cond.methodLink RX12 262 yX12_isPerson ∈ gT := gT_in (inT7 (List.mem_of_getElem? (i := 103) rfl)) rfl
theorem kl_12_267 : Cond.methodLink RX12 267 yX12_seasonTo ∈ gT := gT_in (inT7 (List.mem_of_getElem? (i := 112) rfl)) rfl
theorem kl_12_291 : Cond.methodLink RX12 291 yX12_whyNot ∈ gT := gT_in (inT7 (List.mem_of_getElem? (i := 139) rfl)) rfl
theorem kl_12_294 : Cond.methodLink RX12 294 yX12_does ∈ gT := gT_in (inT7 (List.mem_of_getElem? (i := 150) rfl)) rfl
theorem kl_12_299 : Cond.methodLink RX12 299 yX12_noTray ∈ gT := gT_in (inT7 (List.mem_of_getElem? (i := 131) rfl)) rfl
theorem kl_12_302 : Cond.methodLink RX12 302 yX12_tells ∈ gT := gT_in (inT7 (List.mem_of_getElem? (i := 135) rfl)) rfl
theorem kl_12_305 : Cond.methodLink RX12 305 yX12_depthSum ∈ gT := gT_in (inT7 (List.mem_of_getElem? (i := 154) rfl)) rfl
theorem kl_12_308 : Cond.methodLink RX12 308 yX12_isAgain ∈ gT := gT_in (inT7 (List.mem_of_getElem? (i := 158) rfl)) rfl
theorem kl_12_315 : Cond.methodLink RX12 315 yX12_draw ∈ gT := gT_in (inT7 (List.mem_of_getElem? (i := 174) rfl)) rfl
theorem kl_12_318 : Cond.methodLink RX12 318 yX12_drawn ∈ gT := gT_in (inT7 (List.mem_of_getElem? (i := 170) rfl)) rfl
theorem kl_12_322 : Cond.methodLink RX12 322 yX12_isIn ∈ gT := gT_in (inT7 (List.mem_of_getElem? (i := 192) rfl)) rfl
theorem kl_12_326 : Cond.methodLink RX12 326 yX12_nearer ∈ gT := gT_in (inT7 (List.mem_of_getElem? (i := 195) rfl)) rfl
theorem kl_12_329 : Cond.methodLink RX12 329 yX12_everyLane ∈ gT := gT_in (inT7 (List.mem_of_getElem? (i := 183) rfl)) rfl
theorem kl_12_332 : Cond.methodLink RX12 332 yX12_laysFar ∈ gT := gT_in (inT7 (List.mem_of_getElem? (i := 187) rfl)) rfl
theorem kl_12_335 : Cond.methodLink RX12 335 yX12_isPlace ∈ gT := gT_in (inT7 (List.mem_of_getElem? (i := 203) rfl)) rfl
theorem kl_12_338 : Cond.methodLink RX12 338 yX12_toldFar ∈ gT := gT_in (inT7 (List.mem_of_getElem? (i := 207) rfl)) rfl
theorem kl_12_341 : Cond.methodLink RX12 341 yX12_rowsFrom ∈ gT := gT_in (inT7 (List.mem_of_getElem? (i := 215) rfl)) rfl
theorem kl_12_346 : Cond.methodLink RX12 346 yX12_finds ∈ gT := gT_in (inT7 (List.mem_of_getElem? (i := 223) rfl)) rfl
theorem kl_12_350 : Cond.methodLink RX12 350 yX12_costOf ∈ gT := gT_in (inT8 (List.mem_of_getElem? (i := 3) rfl)) rfl
theorem kl_12_353 : Cond.methodLink RX12 353 yX12_costBy ∈ gT := gT_in (inT7 (List.mem_of_getElem? (i := 239) rfl)) rfl
theorem kl_12_356 : Cond.methodLink RX12 356 yX12_laysCost ∈ gT := gT_in (inT7 (List.mem_of_getElem? (i := 235) rfl)) rfl
theorem kl_12_359 : Cond.methodLink RX12 359 yX12_laneAt ∈ gT := gT_in (inT8 (List.mem_of_getElem? (i := 11) rfl)) rfl
theorem kl_12_362 : Cond.methodLink RX12 362 yX12_areJoined ∈ gT := gT_in (inT8 (List.mem_of_getElem? (i := 19) rfl)) rfl
theorem kl_12_368 : Cond.methodLink RX12 368 yX12_turnedTo ∈ gT := gT_in (inT8 (List.mem_of_getElem? (i := 31) rfl)) rfl
theorem kl_12_373 : Cond.methodLink RX12 373 yX12_noWorn ∈ gT := gT_in (inT8 (List.mem_of_getElem? (i := 47) rfl)) rfl
theorem kl_12_376 : Cond.methodLink RX12 376 yX12_rainsOf ∈ gT := gT_in (inT8 (List.mem_of_getElem? (i := 52) rfl)) rfl
theorem kl_12_379 : Cond.methodLink RX12 379 yX12_mostOften ∈ gT := gT_in (inT8 (List.mem_of_getElem? (i := 60) rfl)) rfl
theorem kl_12_382 : Cond.methodLink RX12 382 yX12_winsBy ∈ gT := gT_in (inT8 (List.mem_of_getElem? (i := 76) rfl)) rfl
theorem kl_12_386 : Cond.methodLink RX12 386 yX12_winsAt ∈ gT := gT_in (inT8 (List.mem_of_getElem? (i := 72) rfl)) rfl
theorem kl_12_389 : Cond.methodLink RX12 389 yX12_forgets ∈ gT := gT_in (inT8 (List.mem_of_getElem? (i := 68) rfl)) rfl
theorem kl_12_392 : Cond.methodLink RX12 392 yX12_wholeOf ∈ gT := gT_in (inT8 (List.mem_of_getElem? (i := 93) rfl)) rfl
theorem kl_12_395 : Cond.methodLink RX12 395 yX12_likelyBy ∈ gT := gT_in (inT8 (List.mem_of_getElem? (i := 96) rfl)) rfl
theorem kl_12_398 : Cond.methodLink RX12 398 yX12_common ∈ gT := gT_in (inT8 (List.mem_of_getElem? (i := 100) rfl)) rfl
theorem kl_12_403 : Cond.methodLink RX12 403 yX12_laysLikely ∈ gT := gT_in (inT8 (List.mem_of_getElem? (i := 89) rfl)) rfl
theorem kl_12_408 : Cond.methodLink RX12 408 yX12_cut ∈ gT := gT_in (inT8 (List.mem_of_getElem? (i := 116) rfl)) rfl
theorem kf_3_47 : Cond.fieldLink RX3 47 (TX3 3).1 (TX3 3).2.1 (TX3 3).2.2.1 ∈ gT := gT_in (inT1 (List.mem_of_getElem? (i := 143) rfl)) rfl
theorem kf_3_50 : Cond.fieldLink RX3 50 (TX3 4).1 (TX3 4).2.1 (TX3 4).2.2.1 ∈ gT := gT_in (inT1 (List.mem_of_getElem? (i := 147) rfl)) rfl
theorem kf_3_56 : Cond.fieldLink RX3 56 (TX3 6).1 (TX3 6).2.1 (TX3 6).2.2.1 ∈ gT := gT_in (inT1 (List.mem_of_getElem? (i := 153) rfl)) rfl
theorem kf_3_59 : Cond.fieldLink RX3 59 (TX3 7).1 (TX3 7).2.1 (TX3 7).2.2.1 ∈ gT := gT_in (inT1 (List.mem_of_getElem? (i := 156) rfl)) rfl
theorem kf_7_120 : Cond.fieldLink RX7 120 (TX3 4).1 (TX3 4).2.1 (TX3 4).2.2.1 ∈ gT := gT_in (inT1 (List.mem_of_getElem? (i := 148) rfl)) rfl
theorem kf_7_123 : Cond.fieldLink RX7 123 (TX3 5).1 (TX3 5).2.1 (TX3 5).2.2.1 ∈ gT := gT_in (inT1 (List.mem_of_getElem? (i := 150) rfl)) rfl
theorem kf_7_135 : Cond.fieldLink RX7 135 (TX3 6).1 (TX3 6).2.1 (TX3 6).2.2.1 ∈ gT := gT_in (inT1 (List.mem_of_getElem? (i := 154) rfl)) rfl
theorem kf_9_66 : Cond.fieldLink RX9 66 (TX9 0).1 (TX9 0).2.1 (TX9 0).2.2.1 ∈ gT := gT_in (inT1 (List.mem_of_getElem? (i := 44) rfl)) rfl
theorem kf_9_69 : Cond.fieldLink RX9 69 (TX9 1).1 (TX9 1).2.1 (TX9 1).2.2.1 ∈ gT := gT_in (inT1 (List.mem_of_getElem? (i := 45) rfl)) rfl
theorem kf_9_72 : Cond.fieldLink RX9 72 (TX9 2).1 (TX9 2).2.1 (TX9 2).2.2.1 ∈ gT := gT_in (inT1 (List.mem_of_getElem? (i := 47) rfl)) rfl
theorem kf_10_9 : Cond.fieldLink RX10 9 (TX10 0).1 (TX10 0).2.1 (TX10 0).2.2.1 ∈ gT := gT_in (inT2 (List.mem_of_getElem? (i := 42) rfl)) rfl
theorem kf_12_1 : Cond.fieldLink RX12 1 (TX12 0).1 (TX12 0).2.1 (TX12 0).2.2.1 ∈ gT := gT_in (inT6 (List.mem_of_getElem? (i := 29) rfl)) rfl
theorem nar_ref {b : Nat} (z : Int) (nm : String) : narrow (.object nm) (rfv b z) = rfv b z := by
  rcases Int.lt_or_le z 0 with h | h
  · rw [rfv_null h]; rfl
  · rw [rfv_ref h]; rfl
theorem fit_ref {b : Nat} (z : Int) (nm : String) : fits (.object nm) (rfv b z) = true := by
  rcases Int.lt_or_le z 0 with h | h
  · rw [rfv_null h]; rfl
  · rw [rfv_ref h]; rfl
theorem nar_arr {b : Nat} (z : Int) (t : FieldType) : narrow (.array t) (rfv b z) = rfv b z := by
  rcases Int.lt_or_le z 0 with h | h
  · rw [rfv_null h]; rfl
  · rw [rfv_ref h]; rfl
theorem fit_arr {b : Nat} (z : Int) (t : FieldType) : fits (.array t) (rfv b z) = true := by
  rcases Int.lt_or_le z 0 with h | h
  · rw [rfv_null h]; rfl
  · rw [rfv_ref h]; rfl
section LINKS
variable {p : Program} {l : Launch} {e : Env} {R : Room} {s : State} {m : MethodId} {args : Array Value} {below : List Frame} {meth : Method} {c : Code} {H : Heap} {locs : List Loc} {cells slots : Nat} {Q : State → Prop}
variable {D : Ds} {cc : ByteArray} {nL : Nat} {ret : Option FieldType} {pc : Nat} {ls : Array Slot} {rest : List Value} {b : Nat} {μ : Mem} {H0 : Heap}

theorem gf_11_9 (C : Cx p s m args meth c D b cc nL RX11 ret) (hw : Hw D b μ H0 H locs) {o : Int} (ho : isK o 11) (hd : decode cc pc = .ok (.getfield 9, 3)) (k : W p l e R s m args below meth c H locs cells slots Q (F0 m (pc + 3) ls (rfv b (o + 1) :: rest))) : W p l e R s m args below meth c H locs cells slots Q (F0 m (pc) ls (rfv b o :: rest)) := r_get C hw ok11 ho 0 (by decide) kf_11_9 (by rw [mg_fin (f := 1) ho (by decide) (by decide) (by decide)]; rfl) hd k
theorem gf_11_16 (C : Cx p s m args meth c D b cc nL RX11 ret) (hw : Hw D b μ H0 H locs) {o : Int} (ho : isK o 11) (hd : decode cc pc = .ok (.getfield 16, 3)) (k : W p l e R s m args below meth c H locs cells slots Q (F0 m (pc + 3) ls (rfv b (o + 2) :: rest))) : W p l e R s m args below meth c H locs cells slots Q (F0 m (pc) ls (rfv b o :: rest)) := r_get C hw ok11 ho 2 (by decide) kf_11_16 (by rw [mg_fin (f := 2) ho (by decide) (by decide) (by decide)]; rfl) hd k
theorem gf_11_20 (C : Cx p s m args meth c D b cc nL RX11 ret) (hw : Hw D b μ H0 H locs) {o : Int} (ho : isK o 11) (hd : decode cc pc = .ok (.getfield 20, 3)) (k : W p l e R s m args below meth c H locs cells slots Q (F0 m (pc + 3) ls (.int (jI (μ o 4)) :: rest))) : W p l e R s m args below meth c H locs cells slots Q (F0 m (pc) ls (rfv b o :: rest)) := r_get C hw ok11 ho 4 (by decide) kf_11_20 (by rw [mg_obj ho (by decide) (by decide)]; rfl) hd k
theorem gf_11_26 (C : Cx p s m args meth c D b cc nL RX11 ret) (hw : Hw D b μ H0 H locs) {o : Int} (ho : isK o 11) (hd : decode cc pc = .ok (.getfield 26, 3)) (k : W p l e R s m args below meth c H locs cells slots Q (F0 m (pc + 3) ls (rfv b (o + 5) :: rest))) : W p l e R s m args below meth c H locs cells slots Q (F0 m (pc) ls (rfv b o :: rest)) := r_get C hw ok11 ho 5 (by decide) kf_11_26 (by rw [mg_fin (f := 5) ho (by decide) (by decide) (by decide)]; rfl) hd k
theorem gf_11_36 (C : Cx p s m args meth c D b cc nL RX11 ret) (hw : Hw D b μ H0 H locs) {o : Int} (ho : isK o 11) (hd : decode cc pc = .ok (.getfield 36, 3)) (k : W p l e R s m args below meth c H locs cells slots Q (F0 m (pc + 3) ls (rfv b (o + 58) :: rest))) : W p l e R s m args below meth c H locs cells slots Q (F0 m (pc) ls (rfv b o :: rest)) := r_get C hw ok11 ho 6 (by decide) kf_11_36 (by rw [mg_fin (f := 58) ho (by decide) (by decide) (by decide)]; rfl) hd k
theorem gf_11_40 (C : Cx p s m args meth c D b cc nL RX11 ret) (hw : Hw D b μ H0 H locs) {o : Int} (ho : isK o 11) (hd : decode cc pc = .ok (.getfield 40, 3)) (k : W p l e R s m args below meth c H locs cells slots Q (F0 m (pc + 3) ls (rfv b (o + 60) :: rest))) : W p l e R s m args below meth c H locs cells slots Q (F0 m (pc) ls (rfv b o :: rest)) := r_get C hw ok11 ho 7 (by decide) kf_11_40 (by rw [mg_fin (f := 60) ho (by decide) (by decide) (by decide)]; rfl) hd k
theorem gf_11_46 (C : Cx p s m args meth c D b cc nL RX11 ret) (hw : Hw D b μ H0 H locs) {o : Int} (ho : isK o 11) (hd : decode cc pc = .ok (.getfield 46, 3)) (k : W p l e R s m args below meth c H locs cells slots Q (F0 m (pc + 3) ls (rfv b (o + 62) :: rest))) : W p l e R s m args below meth c H locs cells slots Q (F0 m (pc) ls (rfv b o :: rest)) := r_get C hw ok11 ho 8 (by decide) kf_11_46 (by rw [mg_fin (f := 62) ho (by decide) (by decide) (by decide)]; rfl) hd k
theorem gf_11_50 (C : Cx p s m args meth c D b cc nL RX11 ret) (hw : Hw D b μ H0 H locs) {o : Int} (ho : isK o 11) (hd : decode cc pc = .ok (.getfield 50, 3)) (k : W p l e R s m args below meth c H locs cells slots Q (F0 m (pc + 3) ls (rfv b (o + 84) :: rest))) : W p l e R s m args below meth c H locs cells slots Q (F0 m (pc) ls (rfv b o :: rest)) := r_get C hw ok11 ho 9 (by decide) kf_11_50 (by rw [mg_fin (f := 84) ho (by decide) (by decide) (by decide)]; rfl) hd k
theorem gf_11_56 (C : Cx p s m args meth c D b cc nL RX11 ret) (hw : Hw D b μ H0 H locs) {o : Int} (ho : isK o 11) (hd : decode cc pc = .ok (.getfield 56, 3)) (k : W p l e R s m args below meth c H locs cells slots Q (F0 m (pc + 3) ls (rfv b (o + 89) :: rest))) : W p l e R s m args below meth c H locs cells slots Q (F0 m (pc) ls (rfv b o :: rest)) := r_get C hw ok11 ho 11 (by decide) kf_11_56 (by rw [mg_fin (f := 89) ho (by decide) (by decide) (by decide)]; rfl) hd k
theorem gf_11_64 (C : Cx p s m args meth c D b cc nL RX11 ret) (hw : Hw D b μ H0 H locs) {o : Int} (ho : isK o 11) (hd : decode cc pc = .ok (.getfield 64, 3)) (k : W p l e R s m args below meth c H locs cells slots Q (F0 m (pc + 3) ls (rfv b (o + 98) :: rest))) : W p l e R s m args below meth c H locs cells slots Q (F0 m (pc) ls (rfv b o :: rest)) := r_get C hw ok11 ho 12 (by decide) kf_11_64 (by rw [mg_fin (f := 98) ho (by decide) (by decide) (by decide)]; rfl) hd k
theorem gf_11_71 (C : Cx p s m args meth c D b cc nL RX11 ret) (hw : Hw D b μ H0 H locs) {o : Int} (ho : isK o 11) (hd : decode cc pc = .ok (.getfield 71, 3)) (k : W p l e R s m args below meth c H locs cells slots Q (F0 m (pc + 3) ls (rfv b (o + 101) :: rest))) : W p l e R s m args below meth c H locs cells slots Q (F0 m (pc) ls (rfv b o :: rest)) := r_get C hw ok11 ho 13 (by decide) kf_11_71 (by rw [mg_fin (f := 101) ho (by decide) (by decide) (by decide)]; rfl) hd k
theorem gf_11_78 (C : Cx p s m args meth c D b cc nL RX11 ret) (hw : Hw D b μ H0 H locs) {o : Int} (ho : isK o 11) (hd : decode cc pc = .ok (.getfield 78, 3)) (k : W p l e R s m args below meth c H locs cells slots Q (F0 m (pc + 3) ls (rfv b (o + 106) :: rest))) : W p l e R s m args below meth c H locs cells slots Q (F0 m (pc) ls (rfv b o :: rest)) := r_get C hw ok11 ho 14 (by decide) kf_11_78 (by rw [mg_fin (f := 106) ho (by decide) (by decide) (by decide)]; rfl) hd k
theorem gf_11_85 (C : Cx p s m args meth c D b cc nL RX11 ret) (hw : Hw D b μ H0 H locs) {o : Int} (ho : isK o 11) (hd : decode cc pc = .ok (.getfield 85, 3)) (k : W p l e R s m args below meth c H locs cells slots Q (F0 m (pc + 3) ls (rfv b (o + 108) :: rest))) : W p l e R s m args below meth c H locs cells slots Q (F0 m (pc) ls (rfv b o :: rest)) := r_get C hw ok11 ho 15 (by decide) kf_11_85 (by rw [mg_fin (f := 108) ho (by decide) (by decide) (by decide)]; rfl) hd k
theorem gf_11_89 (C : Cx p s m args meth c D b cc nL RX11 ret) (hw : Hw D b μ H0 H locs) {o : Int} (ho : isK o 11) (hd : decode cc pc = .ok (.getfield 89, 3)) (k : W p l e R s m args below meth c H locs cells slots Q (F0 m (pc + 3) ls (.int (jI (μ o 1)) :: rest))) : W p l e R s m args below meth c H locs cells slots Q (F0 m (pc) ls (rfv b o :: rest)) := r_get C hw ok11 ho 1 (by decide) kf_11_89 (by rw [mg_obj ho (by decide) (by decide)]; rfl) hd k
theorem gf_11_104 (C : Cx p s m args meth c D b cc nL RX11 ret) (hw : Hw D b μ H0 H locs) {o : Int} (ho : isK o 11) (hd : decode cc pc = .ok (.getfield 104, 3)) (k : W p l e R s m args below meth c H locs cells slots Q (F0 m (pc + 3) ls (.int (jI (μ o 3)) :: rest))) : W p l e R s m args below meth c H locs cells slots Q (F0 m (pc) ls (rfv b o :: rest)) := r_get C hw ok11 ho 3 (by decide) kf_11_104 (by rw [mg_obj ho (by decide) (by decide)]; rfl) hd k
theorem gf_11_117 (C : Cx p s m args meth c D b cc nL RX11 ret) (hw : Hw D b μ H0 H locs) {o : Int} (ho : isK o 3) (hd : decode cc pc = .ok (.getfield 117, 3)) (k : W p l e R s m args below meth c H locs cells slots Q (F0 m (pc + 3) ls (.int (jI (μ o 3)) :: rest))) : W p l e R s m args below meth c H locs cells slots Q (F0 m (pc) ls (rfv b o :: rest)) := r_get C hw ok3 ho 3 (by decide) kf_11_117 (by rw [mg_obj ho (by decide) (by decide)]; rfl) hd k
theorem gf_11_120 (C : Cx p s m args meth c D b cc nL RX11 ret) (hw : Hw D b μ H0 H locs) {o : Int} (ho : isK o 0) (hd : decode cc pc = .ok (.getfield 120, 3)) (k : W p l e R s m args below meth c H locs cells slots Q (F0 m (pc + 3) ls (rfv b (μ o 0) :: rest))) : W p l e R s m args below meth c H locs cells slots Q (F0 m (pc) ls (rfv b o :: rest)) := r_get C hw ok0 ho 0 (by decide) kf_11_120 (by rw [mg_obj ho (by decide) (by decide)]; rfl) hd k
theorem gf_11_128 (C : Cx p s m args meth c D b cc nL RX11 ret) (hw : Hw D b μ H0 H locs) {o : Int} (ho : isK o 3) (hd : decode cc pc = .ok (.getfield 128, 3)) (k : W p l e R s m args below meth c H locs cells slots Q (F0 m (pc + 3) ls (rfv b (o + 1) :: rest))) : W p l e R s m args below meth c H locs cells slots Q (F0 m (pc) ls (rfv b o :: rest)) := r_get C hw ok3 ho 8 (by decide) kf_11_128 (by rw [mg_fin (f := 1) ho (by decide) (by decide) (by decide)]; rfl) hd k
theorem gf_11_132 (C : Cx p s m args meth c D b cc nL RX11 ret) (hw : Hw D b μ H0 H locs) {o : Int} (ho : isK o 3) (hd : decode cc pc = .ok (.getfield 132, 3)) (k : W p l e R s m args below meth c H locs cells slots Q (F0 m (pc + 3) ls (rfv b (o + 2) :: rest))) : W p l e R s m args below meth c H locs cells slots Q (F0 m (pc) ls (rfv b o :: rest)) := r_get C hw ok3 ho 9 (by decide) kf_11_132 (by rw [mg_fin (f := 2) ho (by decide) (by decide) (by decide)]; rfl) hd k
theorem gf_11_135 (C : Cx p s m args meth c D b cc nL RX11 ret) (hw : Hw D b μ H0 H locs) {o : Int} (ho : isK o 0) (hd : decode cc pc = .ok (.getfield 135, 3)) (k : W p l e R s m args below meth c H locs cells slots Q (F0 m (pc + 3) ls (rfv b (o + 1) :: rest))) : W p l e R s m args below meth c H locs cells slots Q (F0 m (pc) ls (rfv b o :: rest)) := r_get C hw ok0 ho 5 (by decide) kf_11_135 (by rw [mg_fin (f := 1) ho (by decide) (by decide) (by decide)]; rfl) hd k
theorem gf_11_138 (C : Cx p s m args meth c D b cc nL RX11 ret) (hw : Hw D b μ H0 H locs) {o : Int} (ho : isK o 3) (hd : decode cc pc = .ok (.getfield 138, 3)) (k : W p l e R s m args below meth c H locs cells slots Q (F0 m (pc + 3) ls (rfv b (o + 4) :: rest))) : W p l e R s m args below meth c H locs cells slots Q (F0 m (pc) ls (rfv b o :: rest)) := r_get C hw ok3 ho 11 (by decide) kf_11_138 (by rw [mg_fin (f := 4) ho (by decide) (by decide) (by decide)]; rfl) hd k
theorem gf_11_141 (C : Cx p s m args meth c D b cc nL RX11 ret) (hw : Hw D b μ H0 H locs) {o : Int} (ho : isK o 3) (hd : decode cc pc = .ok (.getfield 141, 3)) (k : W p l e R s m args below meth c H locs cells slots Q (F0 m (pc + 3) ls (rfv b (o + 5) :: rest))) : W p l e R s m args below meth c H locs cells slots Q (F0 m (pc) ls (rfv b o :: rest)) := r_get C hw ok3 ho 12 (by decide) kf_11_141 (by rw [mg_fin (f := 5) ho (by decide) (by decide) (by decide)]; rfl) hd k
theorem gf_11_151 (C : Cx p s m args meth c D b cc nL RX11 ret) (hw : Hw D b μ H0 H locs) {o : Int} (ho : isK o 0) (hd : decode cc pc = .ok (.getfield 151, 3)) (k : W p l e R s m args below meth c H locs cells slots Q (F0 m (pc + 3) ls (.int (jI (μ o 2)) :: rest))) : W p l e R s m args below meth c H locs cells slots Q (F0 m (pc) ls (rfv b o :: rest)) := r_get C hw ok0 ho 2 (by decide) kf_11_151 (by rw [mg_obj ho (by decide) (by decide)]; rfl) hd k
theorem gf_11_165 (C : Cx p s m args meth c D b cc nL RX11 ret) (hw : Hw D b μ H0 H locs) {o : Int} (ho : isK o 0) (hd : decode cc pc = .ok (.getfield 165, 3)) (k : W p l e R s m args below meth c H locs cells slots Q (F0 m (pc + 3) ls (.int (jI (μ o 1)) :: rest))) : W p l e R s m args below meth c H locs cells slots Q (F0 m (pc) ls (rfv b o :: rest)) := r_get C hw ok0 ho 1 (by decide) kf_11_165 (by rw [mg_obj ho (by decide) (by decide)]; rfl) hd k
theorem gf_11_171 (C : Cx p s m args meth c D b cc nL RX11 ret) (hw : Hw D b μ H0 H locs) {o : Int} (ho : isK o 0) (hd : decode cc pc = .ok (.getfield 171, 3)) (k : W p l e R s m args below meth c H locs cells slots Q (F0 m (pc + 3) ls (.int (jI (μ o 3)) :: rest))) : W p l e R s m args below meth c H locs cells slots Q (F0 m (pc) ls (rfv b o :: rest)) := r_get C hw ok0 ho 3 (by decide) kf_11_171 (by rw [mg_obj ho (by decide) (by decide)]; rfl) hd k
theorem gf_11_203 (C : Cx p s m args meth c D b cc nL RX11 ret) (hw : Hw D b μ H0 H locs) {o : Int} (ho : isK o 10) (hd : decode cc pc = .ok (.getfield 203, 3)) (k : W p l e R s m args below meth c H locs cells slots Q (F0 m (pc + 3) ls (.int (jI (μ o 0)) :: rest))) : W p l e R s m args below meth c H locs cells slots Q (F0 m (pc) ls (rfv b o :: rest)) := r_get C hw ok10 ho 0 (by decide) kf_11_203 (by rw [mg_obj ho (by decide) (by decide)]; rfl) hd k
theorem gf_11_207 (C : Cx p s m args meth c D b cc nL RX11 ret) (hw : Hw D b μ H0 H locs) {o : Int} (ho : isK o 10) (hd : decode cc pc = .ok (.getfield 207, 3)) (k : W p l e R s m args below meth c H locs cells slots Q (F0 m (pc + 3) ls (.int (jI (μ o 1)) :: rest))) : W p l e R s m args below meth c H locs cells slots Q (F0 m (pc) ls (rfv b o :: rest)) := r_get C hw ok10 ho 1 (by decide) kf_11_207 (by rw [mg_obj ho (by decide) (by decide)]; rfl) hd k
theorem gf_11_275 (C : Cx p s m args meth c D b cc nL RX11 ret) (hw : Hw D b μ H0 H locs) {o : Int} (ho : isK o 3) (hd : decode cc pc = .ok (.getfield 275, 3)) (k : W p l e R s m args below meth c H locs cells slots Q (F0 m (pc + 3) ls (.int (jI (μ o 1)) :: rest))) : W p l e R s m args below meth c H locs cells slots Q (F0 m (pc) ls (rfv b o :: rest)) := r_get C hw ok3 ho 1 (by decide) kf_11_275 (by rw [mg_obj ho (by decide) (by decide)]; rfl) hd k
theorem gf_11_287 (C : Cx p s m args meth c D b cc nL RX11 ret) (hw : Hw D b μ H0 H locs) {o : Int} (ho : isK o 3) (hd : decode cc pc = .ok (.getfield 287, 3)) (k : W p l e R s m args below meth c H locs cells slots Q (F0 m (pc + 3) ls (.int (jI (μ o 2)) :: rest))) : W p l e R s m args below meth c H locs cells slots Q (F0 m (pc) ls (rfv b o :: rest)) := r_get C hw ok3 ho 2 (by decide) kf_11_287 (by rw [mg_obj ho (by decide) (by decide)]; rfl) hd k
theorem gf_11_357 (C : Cx p s m args meth c D b cc nL RX11 ret) (hw : Hw D b μ H0 H locs) {o : Int} (ho : isK o 11) (hd : decode cc pc = .ok (.getfield 357, 3)) (k : W p l e R s m args below meth c H locs cells slots Q (F0 m (pc + 3) ls (.int (jI (μ o 10)) :: rest))) : W p l e R s m args below meth c H locs cells slots Q (F0 m (pc) ls (rfv b o :: rest)) := r_get C hw ok11 ho 10 (by decide) kf_11_357 (by rw [mg_obj ho (by decide) (by decide)]; rfl) hd k
theorem gf_11_360 (C : Cx p s m args meth c D b cc nL RX11 ret) (hw : Hw D b μ H0 H locs) {o : Int} (ho : isK o 3) (hd : decode cc pc = .ok (.getfield 360, 3)) (k : W p l e R s m args below meth c H locs cells slots Q (F0 m (pc + 3) ls (.int (jI (μ o 0)) :: rest))) : W p l e R s m args below meth c H locs cells slots Q (F0 m (pc) ls (rfv b o :: rest)) := r_get C hw ok3 ho 0 (by decide) kf_11_360 (by rw [mg_obj ho (by decide) (by decide)]; rfl) hd k
theorem gf_11_363 (C : Cx p s m args meth c D b cc nL RX11 ret) (hw : Hw D b μ H0 H locs) {o : Int} (ho : isK o 3) (hd : decode cc pc = .ok (.getfield 363, 3)) (k : W p l e R s m args below meth c H locs cells slots Q (F0 m (pc + 3) ls (.int (jI (μ o 5)) :: rest))) : W p l e R s m args below meth c H locs cells slots Q (F0 m (pc) ls (rfv b o :: rest)) := r_get C hw ok3 ho 5 (by decide) kf_11_363 (by rw [mg_obj ho (by decide) (by decide)]; rfl) hd k
theorem gf_11_366 (C : Cx p s m args meth c D b cc nL RX11 ret) (hw : Hw D b μ H0 H locs) {o : Int} (ho : isK o 0) (hd : decode cc pc = .ok (.getfield 366, 3)) (k : W p l e R s m args below meth c H locs cells slots Q (F0 m (pc + 3) ls (.int (jI (μ o 4)) :: rest))) : W p l e R s m args below meth c H locs cells slots Q (F0 m (pc) ls (rfv b o :: rest)) := r_get C hw ok0 ho 4 (by decide) kf_11_366 (by rw [mg_obj ho (by decide) (by decide)]; rfl) hd k
theorem gf_0_9 (C : Cx p s m args meth c D b cc nL RX0 ret) (hw : Hw D b μ H0 H locs) {o : Int} (ho : isK o 0) (hd : decode cc pc = .ok (.getfield 9, 3)) (k : W p l e R s m args below meth c H locs cells slots Q (F0 m (pc + 3) ls (rfv b (o + 1) :: rest))) : W p l e R s m args below meth c H locs cells slots Q (F0 m (pc) ls (rfv b o :: rest)) := r_get C hw ok0 ho 5 (by decide) kf_0_9 (by rw [mg_fin (f := 1) ho (by decide) (by decide) (by decide)]; rfl) hd k
theorem gf_0_15 (C : Cx p s m args meth c D b cc nL RX0 ret) (hw : Hw D b μ H0 H locs) {o : Int} (ho : isK o 0) (hd : decode cc pc = .ok (.getfield 15, 3)) (k : W p l e R s m args below meth c H locs cells slots Q (F0 m (pc + 3) ls (rfv b (μ o 0) :: rest))) : W p l e R s m args below meth c H locs cells slots Q (F0 m (pc) ls (rfv b o :: rest)) := r_get C hw ok0 ho 0 (by decide) kf_0_15 (by rw [mg_obj ho (by decide) (by decide)]; rfl) hd k
theorem gf_0_19 (C : Cx p s m args meth c D b cc nL RX0 ret) (hw : Hw D b μ H0 H locs) {o : Int} (ho : isK o 3) (hd : decode cc pc = .ok (.getfield 19, 3)) (k : W p l e R s m args below meth c H locs cells slots Q (F0 m (pc + 3) ls (.int (jI (μ o 4)) :: rest))) : W p l e R s m args below meth c H locs cells slots Q (F0 m (pc) ls (rfv b o :: rest)) := r_get C hw ok3 ho 4 (by decide) kf_0_19 (by rw [mg_obj ho (by decide) (by decide)]; rfl) hd k
theorem gf_0_25 (C : Cx p s m args meth c D b cc nL RX0 ret) (hw : Hw D b μ H0 H locs) {o : Int} (ho : isK o 0) (hd : decode cc pc = .ok (.getfield 25, 3)) (k : W p l e R s m args below meth c H locs cells slots Q (F0 m (pc + 3) ls (.int (jI (μ o 1)) :: rest))) : W p l e R s m args below meth c H locs cells slots Q (F0 m (pc) ls (rfv b o :: rest)) := r_get C hw ok0 ho 1 (by decide) kf_0_25 (by rw [mg_obj ho (by decide) (by decide)]; rfl) hd k
theorem gf_0_26 (C : Cx p s m args meth c D b cc nL RX0 ret) (hw : Hw D b μ H0 H locs) {o : Int} (ho : isK o 3) (hd : decode cc pc = .ok (.getfield 26, 3)) (k : W p l e R s m args below meth c H locs cells slots Q (F0 m (pc + 3) ls (.int (jI (μ o 6)) :: rest))) : W p l e R s m args below meth c H locs cells slots Q (F0 m (pc) ls (rfv b o :: rest)) := r_get C hw ok3 ho 6 (by decide) kf_0_26 (by rw [mg_obj ho (by decide) (by decide)]; rfl) hd k
theorem gf_0_29 (C : Cx p s m args meth c D b cc nL RX0 ret) (hw : Hw D b μ H0 H locs) {o : Int} (ho : isK o 0) (hd : decode cc pc = .ok (.getfield 29, 3)) (k : W p l e R s m args below meth c H locs cells slots Q (F0 m (pc + 3) ls (.int (jI (μ o 2)) :: rest))) : W p l e R s m args below meth c H locs cells slots Q (F0 m (pc) ls (rfv b o :: rest)) := r_get C hw ok0 ho 2 (by decide) kf_0_29 (by rw [mg_obj ho (by decide) (by decide)]; rfl) hd k
theorem gf_0_30 (C : Cx p s m args meth c D b cc nL RX0 ret) (hw : Hw D b μ H0 H locs) {o : Int} (ho : isK o 3) (hd : decode cc pc = .ok (.getfield 30, 3)) (k : W p l e R s m args below meth c H locs cells slots Q (F0 m (pc + 3) ls (.int (jI (μ o 7)) :: rest))) : W p l e R s m args below meth c H locs cells slots Q (F0 m (pc) ls (rfv b o :: rest)) := r_get C hw ok3 ho 7 (by decide) kf_0_30 (by rw [mg_obj ho (by decide) (by decide)]; rfl) hd k
theorem gf_0_33 (C : Cx p s m args meth c D b cc nL RX0 ret) (hw : Hw D b μ H0 H locs) {o : Int} (ho : isK o 0) (hd : decode cc pc = .ok (.getfield 33, 3)) (k : W p l e R s m args below meth c H locs cells slots Q (F0 m (pc + 3) ls (.int (jI (μ o 3)) :: rest))) : W p l e R s m args below meth c H locs cells slots Q (F0 m (pc) ls (rfv b o :: rest)) := r_get C hw ok0 ho 3 (by decide) kf_0_33 (by rw [mg_obj ho (by decide) (by decide)]; rfl) hd k
theorem gf_0_34 (C : Cx p s m args meth c D b cc nL RX0 ret) (hw : Hw D b μ H0 H locs) {o : Int} (ho : isK o 0) (hd : decode cc pc = .ok (.getfield 34, 3)) (k : W p l e R s m args below meth c H locs cells slots Q (F0 m (pc + 3) ls (.int (jI (μ o 4)) :: rest))) : W p l e R s m args below meth c H locs cells slots Q (F0 m (pc) ls (rfv b o :: rest)) := r_get C hw ok0 ho 4 (by decide) kf_0_34 (by rw [mg_obj ho (by decide) (by decide)]; rfl) hd k
theorem gf_0_37 (C : Cx p s m args meth c D b cc nL RX0 ret) (hw : Hw D b μ H0 H locs) {o : Int} (ho : isK o 3) (hd : decode cc pc = .ok (.getfield 37, 3)) (k : W p l e R s m args below meth c H locs cells slots Q (F0 m (pc + 3) ls (rfv b (o + 3) :: rest))) : W p l e R s m args below meth c H locs cells slots Q (F0 m (pc) ls (rfv b o :: rest)) := r_get C hw ok3 ho 10 (by decide) kf_0_37 (by rw [mg_fin (f := 3) ho (by decide) (by decide) (by decide)]; rfl) hd k
theorem gf_0_48 (C : Cx p s m args meth c D b cc nL RX0 ret) (hw : Hw D b μ H0 H locs) {o : Int} (ho : isK o 3) (hd : decode cc pc = .ok (.getfield 48, 3)) (k : W p l e R s m args below meth c H locs cells slots Q (F0 m (pc + 3) ls (.int (jI (μ o 1)) :: rest))) : W p l e R s m args below meth c H locs cells slots Q (F0 m (pc) ls (rfv b o :: rest)) := r_get C hw ok3 ho 1 (by decide) kf_0_48 (by rw [mg_obj ho (by decide) (by decide)]; rfl) hd k
theorem gf_0_87 (C : Cx p s m args meth c D b cc nL RX0 ret) (hw : Hw D b μ H0 H locs) {o : Int} (ho : isK o 3) (hd : decode cc pc = .ok (.getfield 87, 3)) (k : W p l e R s m args below meth c H locs cells slots Q (F0 m (pc + 3) ls (.int (jI (μ o 2)) :: rest))) : W p l e R s m args below meth c H locs cells slots Q (F0 m (pc) ls (rfv b o :: rest)) := r_get C hw ok3 ho 2 (by decide) kf_0_87 (by rw [mg_obj ho (by decide) (by decide)]; rfl) hd k
theorem gf_1_9 (C : Cx p s m args meth c D b cc nL RX1 ret) (hw : Hw D b μ H0 H locs) {o : Int} (ho : isK o 1) (hd : decode cc pc = .ok (.getfield 9, 3)) (k : W p l e R s m args below meth c H locs cells slots Q (F0 m (pc + 3) ls (rfv b (o + 1) :: rest))) : W p l e R s m args below meth c H locs cells slots Q (F0 m (pc) ls (rfv b o :: rest)) := r_get C hw ok1 ho 0 (by decide) kf_1_9 (by rw [mg_fin (f := 1) ho (by decide) (by decide) (by decide)]; rfl) hd k
theorem gf_1_15 (C : Cx p s m args meth c D b cc nL RX1 ret) (hw : Hw D b μ H0 H locs) {o : Int} (ho : isK o 0) (hd : decode cc pc = .ok (.getfield 15, 3)) (k : W p l e R s m args below meth c H locs cells slots Q (F0 m (pc + 3) ls (rfv b (μ o 0) :: rest))) : W p l e R s m args below meth c H locs cells slots Q (F0 m (pc) ls (rfv b o :: rest)) := r_get C hw ok0 ho 0 (by decide) kf_1_15 (by rw [mg_obj ho (by decide) (by decide)]; rfl) hd k
theorem gf_1_25 (C : Cx p s m args meth c D b cc nL RX1 ret) (hw : Hw D b μ H0 H locs) {o : Int} (ho : isK o 3) (hd : decode cc pc = .ok (.getfield 25, 3)) (k : W p l e R s m args below meth c H locs cells slots Q (F0 m (pc + 3) ls (.int (jI (μ o 1)) :: rest))) : W p l e R s m args below meth c H locs cells slots Q (F0 m (pc) ls (rfv b o :: rest)) := r_get C hw ok3 ho 1 (by decide) kf_1_25 (by rw [mg_obj ho (by decide) (by decide)]; rfl) hd k
theorem gf_1_35 (C : Cx p s m args meth c D b cc nL RX1 ret) (hw : Hw D b μ H0 H locs) {o : Int} (ho : isK o 0) (hd : decode cc pc = .ok (.getfield 35, 3)) (k : W p l e R s m args below meth c H locs cells slots Q (F0 m (pc + 3) ls (.int (jI (μ o 1)) :: rest))) : W p l e R s m args below meth c H locs cells slots Q (F0 m (pc) ls (rfv b o :: rest)) := r_get C hw ok0 ho 1 (by decide) kf_1_35 (by rw [mg_obj ho (by decide) (by decide)]; rfl) hd k
theorem gf_1_42 (C : Cx p s m args meth c D b cc nL RX1 ret) (hw : Hw D b μ H0 H locs) {o : Int} (ho : isK o 3) (hd : decode cc pc = .ok (.getfield 42, 3)) (k : W p l e R s m args below meth c H locs cells slots Q (F0 m (pc + 3) ls (rfv b (o + 1) :: rest))) : W p l e R s m args below meth c H locs cells slots Q (F0 m (pc) ls (rfv b o :: rest)) := r_get C hw ok3 ho 8 (by decide) kf_1_42 (by rw [mg_fin (f := 1) ho (by decide) (by decide) (by decide)]; rfl) hd k
theorem gf_1_45 (C : Cx p s m args meth c D b cc nL RX1 ret) (hw : Hw D b μ H0 H locs) {o : Int} (ho : isK o 3) (hd : decode cc pc = .ok (.getfield 45, 3)) (k : W p l e R s m args below meth c H locs cells slots Q (F0 m (pc + 3) ls (rfv b (o + 2) :: rest))) : W p l e R s m args below meth c H locs cells slots Q (F0 m (pc) ls (rfv b o :: rest)) := r_get C hw ok3 ho 9 (by decide) kf_1_45 (by rw [mg_fin (f := 2) ho (by decide) (by decide) (by decide)]; rfl) hd k
theorem gf_2_11 (C : Cx p s m args meth c D b cc nL RX2 ret) (hw : Hw D b μ H0 H locs) {o : Int} (ho : isK o 2) (hd : decode cc pc = .ok (.getfield 11, 3)) (k : W p l e R s m args below meth c H locs cells slots Q (F0 m (pc + 3) ls (rfv b (o + 1) :: rest))) : W p l e R s m args below meth c H locs cells slots Q (F0 m (pc) ls (rfv b o :: rest)) := r_get C hw ok2 ho 0 (by decide) kf_2_11 (by rw [mg_fin (f := 1) ho (by decide) (by decide) (by decide)]; rfl) hd k
theorem gf_2_20 (C : Cx p s m args meth c D b cc nL RX2 ret) (hw : Hw D b μ H0 H locs) {o : Int} (ho : isK o 2) (hd : decode cc pc = .ok (.getfield 20, 3)) (k : W p l e R s m args below meth c H locs cells slots Q (F0 m (pc + 3) ls (.int (jI (μ o 2)) :: rest))) : W p l e R s m args below meth c H locs cells slots Q (F0 m (pc) ls (rfv b o :: rest)) := r_get C hw ok2 ho 2 (by decide) kf_2_20 (by rw [mg_obj ho (by decide) (by decide)]; rfl) hd k
theorem gf_2_24 (C : Cx p s m args meth c D b cc nL RX2 ret) (hw : Hw D b μ H0 H locs) {o : Int} (ho : isK o 2) (hd : decode cc pc = .ok (.getfield 24, 3)) (k : W p l e R s m args below meth c H locs cells slots Q (F0 m (pc + 3) ls (.int (jI (μ o 1)) :: rest))) : W p l e R s m args below meth c H locs cells slots Q (F0 m (pc) ls (rfv b o :: rest)) := r_get C hw ok2 ho 1 (by decide) kf_2_24 (by rw [mg_obj ho (by decide) (by decide)]; rfl) hd k
theorem gf_3_9 (C : Cx p s m args meth c D b cc nL RX3 ret) (hw : Hw D b μ H0 H locs) {o : Int} (ho : isK o 3) (hd : decode cc pc = .ok (.getfield 9, 3)) (k : W p l e R s m args below meth c H locs cells slots Q (F0 m (pc + 3) ls (rfv b (o + 1) :: rest))) : W p l e R s m args below meth c H locs cells slots Q (F0 m (pc) ls (rfv b o :: rest)) := r_get C hw ok3 ho 8 (by decide) kf_3_9 (by rw [mg_fin (f := 1) ho (by decide) (by decide) (by decide)]; rfl) hd k
theorem gf_3_15 (C : Cx p s m args meth c D b cc nL RX3 ret) (hw : Hw D b μ H0 H locs) {o : Int} (ho : isK o 3) (hd : decode cc pc = .ok (.getfield 15, 3)) (k : W p l e R s m args below meth c H locs cells slots Q (F0 m (pc + 3) ls (rfv b (o + 2) :: rest))) : W p l e R s m args below meth c H locs cells slots Q (F0 m (pc) ls (rfv b o :: rest)) := r_get C hw ok3 ho 9 (by decide) kf_3_15 (by rw [mg_fin (f := 2) ho (by decide) (by decide) (by decide)]; rfl) hd k
theorem gf_3_18 (C : Cx p s m args meth c D b cc nL RX3 ret) (hw : Hw D b μ H0 H locs) {o : Int} (ho : isK o 3) (hd : decode cc pc = .ok (.getfield 18, 3)) (k : W p l e R s m args below meth c H locs cells slots Q (F0 m (pc + 3) ls (rfv b (o + 3) :: rest))) : W p l e R s m args below meth c H locs cells slots Q (F0 m (pc) ls (rfv b o :: rest)) := r_get C hw ok3 ho 10 (by decide) kf_3_18 (by rw [mg_fin (f := 3) ho (by decide) (by decide) (by decide)]; rfl) hd k
theorem gf_3_21 (C : Cx p s m args meth c D b cc nL RX3 ret) (hw : Hw D b μ H0 H locs) {o : Int} (ho : isK o 3) (hd : decode cc pc = .ok (.getfield 21, 3)) (k : W p l e R s m args below meth c H locs cells slots Q (F0 m (pc + 3) ls (rfv b (o + 4) :: rest))) : W p l e R s m args below meth c H locs cells slots Q (F0 m (pc) ls (rfv b o :: rest)) := r_get C hw ok3 ho 11 (by decide) kf_3_21 (by rw [mg_fin (f := 4) ho (by decide) (by decide) (by decide)]; rfl) hd k
theorem gf_3_24 (C : Cx p s m args meth c D b cc nL RX3 ret) (hw : Hw D b μ H0 H locs) {o : Int} (ho : isK o 3) (hd : decode cc pc = .ok (.getfield 24, 3)) (k : W p l e R s m args below meth c H locs cells slots Q (F0 m (pc + 3) ls (rfv b (o + 5) :: rest))) : W p l e R s m args below meth c H locs cells slots Q (F0 m (pc) ls (rfv b o :: rest)) := r_get C hw ok3 ho 12 (by decide) kf_3_24 (by rw [mg_fin (f := 5) ho (by decide) (by decide) (by decide)]; rfl) hd k
theorem gf_3_27 (C : Cx p s m args meth c D b cc nL RX3 ret) (hw : Hw D b μ H0 H locs) {o : Int} (ho : isK o 3) (hd : decode cc pc = .ok (.getfield 27, 3)) (k : W p l e R s m args below meth c H locs cells slots Q (F0 m (pc + 3) ls (rfv b (o + 6) :: rest))) : W p l e R s m args below meth c H locs cells slots Q (F0 m (pc) ls (rfv b o :: rest)) := r_get C hw ok3 ho 13 (by decide) kf_3_27 (by rw [mg_fin (f := 6) ho (by decide) (by decide) (by decide)]; rfl) hd k
theorem gf_3_33 (C : Cx p s m args meth c D b cc nL RX3 ret) (hw : Hw D b μ H0 H locs) {o : Int} (ho : isK o 3) (hd : decode cc pc = .ok (.getfield 33, 3)) (k : W p l e R s m args below meth c H locs cells slots Q (F0 m (pc + 3) ls (rfv b (o + 7) :: rest))) : W p l e R s m args below meth c H locs cells slots Q (F0 m (pc) ls (rfv b o :: rest)) := r_get C hw ok3 ho 14 (by decide) kf_3_33 (by rw [mg_fin (f := 7) ho (by decide) (by decide) (by decide)]; rfl) hd k
theorem gf_3_37 (C : Cx p s m args meth c D b cc nL RX3 ret) (hw : Hw D b μ H0 H locs) {o : Int} (ho : isK o 3) (hd : decode cc pc = .ok (.getfield 37, 3)) (k : W p l e R s m args below meth c H locs cells slots Q (F0 m (pc + 3) ls (.int (jI (μ o 0)) :: rest))) : W p l e R s m args below meth c H locs cells slots Q (F0 m (pc) ls (rfv b o :: rest)) := r_get C hw ok3 ho 0 (by decide) kf_3_37 (by rw [mg_obj ho (by decide) (by decide)]; rfl) hd k
theorem gf_3_41 (C : Cx p s m args meth c D b cc nL RX3 ret) (hw : Hw D b μ H0 H locs) {o : Int} (ho : isK o 3) (hd : decode cc pc = .ok (.getfield 41, 3)) (k : W p l e R s m args below meth c H locs cells slots Q (F0 m (pc + 3) ls (.int (jI (μ o 1)) :: rest))) : W p l e R s m args below meth c H locs cells slots Q (F0 m (pc) ls (rfv b o :: rest)) := r_get C hw ok3 ho 1 (by decide) kf_3_41 (by rw [mg_obj ho (by decide) (by decide)]; rfl) hd k
theorem gf_3_44 (C : Cx p s m args meth c D b cc nL RX3 ret) (hw : Hw D b μ H0 H locs) {o : Int} (ho : isK o 3) (hd : decode cc pc = .ok (.getfield 44, 3)) (k : W p l e R s m args below meth c H locs cells slots Q (F0 m (pc + 3) ls (.int (jI (μ o 2)) :: rest))) : W p l e R s m args below meth c H locs cells slots Q (F0 m (pc) ls (rfv b o :: rest)) := r_get C hw ok3 ho 2 (by decide) kf_3_44 (by rw [mg_obj ho (by decide) (by decide)]; rfl) hd k
theorem gf_3_53 (C : Cx p s m args meth c D b cc nL RX3 ret) (hw : Hw D b μ H0 H locs) {o : Int} (ho : isK o 3) (hd : decode cc pc = .ok (.getfield 53, 3)) (k : W p l e R s m args below meth c H locs cells slots Q (F0 m (pc + 3) ls (.int (jI (μ o 5)) :: rest))) : W p l e R s m args below meth c H locs cells slots Q (F0 m (pc) ls (rfv b o :: rest)) := r_get C hw ok3 ho 5 (by decide) kf_3_53 (by rw [mg_obj ho (by decide) (by decide)]; rfl) hd k
theorem gf_3_78 (C : Cx p s m args meth c D b cc nL RX3 ret) (hw : Hw D b μ H0 H locs) {o : Int} (ho : isK o 0) (hd : decode cc pc = .ok (.getfield 78, 3)) (k : W p l e R s m args below meth c H locs cells slots Q (F0 m (pc + 3) ls (.int (jI (μ o 2)) :: rest))) : W p l e R s m args below meth c H locs cells slots Q (F0 m (pc) ls (rfv b o :: rest)) := r_get C hw ok0 ho 2 (by decide) kf_3_78 (by rw [mg_obj ho (by decide) (by decide)]; rfl) hd k
theorem gf_3_81 (C : Cx p s m args meth c D b cc nL RX3 ret) (hw : Hw D b μ H0 H locs) {o : Int} (ho : isK o 0) (hd : decode cc pc = .ok (.getfield 81, 3)) (k : W p l e R s m args below meth c H locs cells slots Q (F0 m (pc + 3) ls (.int (jI (μ o 3)) :: rest))) : W p l e R s m args below meth c H locs cells slots Q (F0 m (pc) ls (rfv b o :: rest)) := r_get C hw ok0 ho 3 (by decide) kf_3_81 (by rw [mg_obj ho (by decide) (by decide)]; rfl) hd k
theorem gf_4_9 (C : Cx p s m args meth c D b cc nL RX4 ret) (hw : Hw D b μ H0 H locs) {o : Int} (ho : isK o 4) (hd : decode cc pc = .ok (.getfield 9, 3)) (k : W p l e R s m args below meth c H locs cells slots Q (F0 m (pc + 3) ls (rfv b (o + 1) :: rest))) : W p l e R s m args below meth c H locs cells slots Q (F0 m (pc) ls (rfv b o :: rest)) := r_get C hw ok4 ho 0 (by decide) kf_4_9 (by rw [mg_fin (f := 1) ho (by decide) (by decide) (by decide)]; rfl) hd k
theorem gf_4_15 (C : Cx p s m args meth c D b cc nL RX4 ret) (hw : Hw D b μ H0 H locs) {o : Int} (ho : isK o 4) (hd : decode cc pc = .ok (.getfield 15, 3)) (k : W p l e R s m args below meth c H locs cells slots Q (F0 m (pc + 3) ls (rfv b (o + 2) :: rest))) : W p l e R s m args below meth c H locs cells slots Q (F0 m (pc) ls (rfv b o :: rest)) := r_get C hw ok4 ho 2 (by decide) kf_4_15 (by rw [mg_fin (f := 2) ho (by decide) (by decide) (by decide)]; rfl) hd k
theorem gf_4_18 (C : Cx p s m args meth c D b cc nL RX4 ret) (hw : Hw D b μ H0 H locs) {o : Int} (ho : isK o 4) (hd : decode cc pc = .ok (.getfield 18, 3)) (k : W p l e R s m args below meth c H locs cells slots Q (F0 m (pc + 3) ls (rfv b (o + 3) :: rest))) : W p l e R s m args below meth c H locs cells slots Q (F0 m (pc) ls (rfv b o :: rest)) := r_get C hw ok4 ho 3 (by decide) kf_4_18 (by rw [mg_fin (f := 3) ho (by decide) (by decide) (by decide)]; rfl) hd k
theorem gf_4_21 (C : Cx p s m args meth c D b cc nL RX4 ret) (hw : Hw D b μ H0 H locs) {o : Int} (ho : isK o 4) (hd : decode cc pc = .ok (.getfield 21, 3)) (k : W p l e R s m args below meth c H locs cells slots Q (F0 m (pc + 3) ls (rfv b (o + 4) :: rest))) : W p l e R s m args below meth c H locs cells slots Q (F0 m (pc) ls (rfv b o :: rest)) := r_get C hw ok4 ho 4 (by decide) kf_4_21 (by rw [mg_fin (f := 4) ho (by decide) (by decide) (by decide)]; rfl) hd k
theorem gf_4_24 (C : Cx p s m args meth c D b cc nL RX4 ret) (hw : Hw D b μ H0 H locs) {o : Int} (ho : isK o 4) (hd : decode cc pc = .ok (.getfield 24, 3)) (k : W p l e R s m args below meth c H locs cells slots Q (F0 m (pc + 3) ls (rfv b (o + 5) :: rest))) : W p l e R s m args below meth c H locs cells slots Q (F0 m (pc) ls (rfv b o :: rest)) := r_get C hw ok4 ho 5 (by decide) kf_4_24 (by rw [mg_fin (f := 5) ho (by decide) (by decide) (by decide)]; rfl) hd k
theorem gf_4_27 (C : Cx p s m args meth c D b cc nL RX4 ret) (hw : Hw D b μ H0 H locs) {o : Int} (ho : isK o 4) (hd : decode cc pc = .ok (.getfield 27, 3)) (k : W p l e R s m args below meth c H locs cells slots Q (F0 m (pc + 3) ls (.int (jI (μ o 1)) :: rest))) : W p l e R s m args below meth c H locs cells slots Q (F0 m (pc) ls (rfv b o :: rest)) := r_get C hw ok4 ho 1 (by decide) kf_4_27 (by rw [mg_obj ho (by decide) (by decide)]; rfl) hd k
theorem gf_4_37 (C : Cx p s m args meth c D b cc nL RX4 ret) (hw : Hw D b μ H0 H locs) {o : Int} (ho : isK o 4) (hd : decode cc pc = .ok (.getfield 37, 3)) (k : W p l e R s m args below meth c H locs cells slots Q (F0 m (pc + 3) ls (.int (jI (μ o 6)) :: rest))) : W p l e R s m args below meth c H locs cells slots Q (F0 m (pc) ls (rfv b o :: rest)) := r_get C hw ok4 ho 6 (by decide) kf_4_37 (by rw [mg_obj ho (by decide) (by decide)]; rfl) hd k
theorem gf_5_9 (C : Cx p s m args meth c D b cc nL RX5 ret) (hw : Hw D b μ H0 H locs) {o : Int} (ho : isK o 5) (hd : decode cc pc = .ok (.getfield 9, 3)) (k : W p l e R s m args below meth c H locs cells slots Q (F0 m (pc + 3) ls (rfv b (μ o 0) :: rest))) : W p l e R s m args below meth c H locs cells slots Q (F0 m (pc) ls (rfv b o :: rest)) := r_get C hw ok5 ho 0 (by decide) kf_5_9 (by rw [mg_obj ho (by decide) (by decide)]; rfl) hd k
theorem gf_5_15 (C : Cx p s m args meth c D b cc nL RX5 ret) (hw : Hw D b μ H0 H locs) {o : Int} (ho : isK o 5) (hd : decode cc pc = .ok (.getfield 15, 3)) (k : W p l e R s m args below meth c H locs cells slots Q (F0 m (pc + 3) ls (rfv b (μ o 1) :: rest))) : W p l e R s m args below meth c H locs cells slots Q (F0 m (pc) ls (rfv b o :: rest)) := r_get C hw ok5 ho 1 (by decide) kf_5_15 (by rw [mg_obj ho (by decide) (by decide)]; rfl) hd k
theorem gf_5_18 (C : Cx p s m args meth c D b cc nL RX5 ret) (hw : Hw D b μ H0 H locs) {o : Int} (ho : isK o 5) (hd : decode cc pc = .ok (.getfield 18, 3)) (k : W p l e R s m args below meth c H locs cells slots Q (F0 m (pc + 3) ls (.int (jI (μ o 2)) :: rest))) : W p l e R s m args below meth c H locs cells slots Q (F0 m (pc) ls (rfv b o :: rest)) := r_get C hw ok5 ho 2 (by decide) kf_5_18 (by rw [mg_obj ho (by decide) (by decide)]; rfl) hd k
theorem gf_5_22 (C : Cx p s m args meth c D b cc nL RX5 ret) (hw : Hw D b μ H0 H locs) {o : Int} (ho : isK o 0) (hd : decode cc pc = .ok (.getfield 22, 3)) (k : W p l e R s m args below meth c H locs cells slots Q (F0 m (pc + 3) ls (rfv b (μ o 0) :: rest))) : W p l e R s m args below meth c H locs cells slots Q (F0 m (pc) ls (rfv b o :: rest)) := r_get C hw ok0 ho 0 (by decide) kf_5_22 (by rw [mg_obj ho (by decide) (by decide)]; rfl) hd k
theorem gf_5_42 (C : Cx p s m args meth c D b cc nL RX5 ret) (hw : Hw D b μ H0 H locs) {o : Int} (ho : isK o 3) (hd : decode cc pc = .ok (.getfield 42, 3)) (k : W p l e R s m args below meth c H locs cells slots Q (F0 m (pc + 3) ls (.int (jI (μ o 1)) :: rest))) : W p l e R s m args below meth c H locs cells slots Q (F0 m (pc) ls (rfv b o :: rest)) := r_get C hw ok3 ho 1 (by decide) kf_5_42 (by rw [mg_obj ho (by decide) (by decide)]; rfl) hd k
theorem gf_5_47 (C : Cx p s m args meth c D b cc nL RX5 ret) (hw : Hw D b μ H0 H locs) {o : Int} (ho : isK o 3) (hd : decode cc pc = .ok (.getfield 47, 3)) (k : W p l e R s m args below meth c H locs cells slots Q (F0 m (pc + 3) ls (rfv b (o + 1) :: rest))) : W p l e R s m args below meth c H locs cells slots Q (F0 m (pc) ls (rfv b o :: rest)) := r_get C hw ok3 ho 8 (by decide) kf_5_47 (by rw [mg_fin (f := 1) ho (by decide) (by decide) (by decide)]; rfl) hd k
theorem gf_5_50 (C : Cx p s m args meth c D b cc nL RX5 ret) (hw : Hw D b μ H0 H locs) {o : Int} (ho : isK o 3) (hd : decode cc pc = .ok (.getfield 50, 3)) (k : W p l e R s m args below meth c H locs cells slots Q (F0 m (pc + 3) ls (rfv b (o + 2) :: rest))) : W p l e R s m args below meth c H locs cells slots Q (F0 m (pc) ls (rfv b o :: rest)) := r_get C hw ok3 ho 9 (by decide) kf_5_50 (by rw [mg_fin (f := 2) ho (by decide) (by decide) (by decide)]; rfl) hd k
theorem gf_5_71 (C : Cx p s m args meth c D b cc nL RX5 ret) (hw : Hw D b μ H0 H locs) {o : Int} (ho : isK o 3) (hd : decode cc pc = .ok (.getfield 71, 3)) (k : W p l e R s m args below meth c H locs cells slots Q (F0 m (pc + 3) ls (rfv b (o + 5) :: rest))) : W p l e R s m args below meth c H locs cells slots Q (F0 m (pc) ls (rfv b o :: rest)) := r_get C hw ok3 ho 12 (by decide) kf_5_71 (by rw [mg_fin (f := 5) ho (by decide) (by decide) (by decide)]; rfl) hd k
theorem gf_5_78 (C : Cx p s m args meth c D b cc nL RX5 ret) (hw : Hw D b μ H0 H locs) {o : Int} (ho : isK o 0) (hd : decode cc pc = .ok (.getfield 78, 3)) (k : W p l e R s m args below meth c H locs cells slots Q (F0 m (pc + 3) ls (.int (jI (μ o 1)) :: rest))) : W p l e R s m args below meth c H locs cells slots Q (F0 m (pc) ls (rfv b o :: rest)) := r_get C hw ok0 ho 1 (by decide) kf_5_78 (by rw [mg_obj ho (by decide) (by decide)]; rfl) hd k
theorem gf_6_9 (C : Cx p s m args meth c D b cc nL RX6 ret) (hw : Hw D b μ H0 H locs) {o : Int} (ho : isK o 6) (hd : decode cc pc = .ok (.getfield 9, 3)) (k : W p l e R s m args below meth c H locs cells slots Q (F0 m (pc + 3) ls (rfv b (o + 1) :: rest))) : W p l e R s m args below meth c H locs cells slots Q (F0 m (pc) ls (rfv b o :: rest)) := r_get C hw ok6 ho 0 (by decide) kf_6_9 (by rw [mg_fin (f := 1) ho (by decide) (by decide) (by decide)]; rfl) hd k
theorem gf_6_15 (C : Cx p s m args meth c D b cc nL RX6 ret) (hw : Hw D b μ H0 H locs) {o : Int} (ho : isK o 6) (hd : decode cc pc = .ok (.getfield 15, 3)) (k : W p l e R s m args below meth c H locs cells slots Q (F0 m (pc + 3) ls (rfv b (o + 2) :: rest))) : W p l e R s m args below meth c H locs cells slots Q (F0 m (pc) ls (rfv b o :: rest)) := r_get C hw ok6 ho 1 (by decide) kf_6_15 (by rw [mg_fin (f := 2) ho (by decide) (by decide) (by decide)]; rfl) hd k
theorem gf_6_24 (C : Cx p s m args meth c D b cc nL RX6 ret) (hw : Hw D b μ H0 H locs) {o : Int} (ho : isK o 0) (hd : decode cc pc = .ok (.getfield 24, 3)) (k : W p l e R s m args below meth c H locs cells slots Q (F0 m (pc + 3) ls (rfv b (μ o 0) :: rest))) : W p l e R s m args below meth c H locs cells slots Q (F0 m (pc) ls (rfv b o :: rest)) := r_get C hw ok0 ho 0 (by decide) kf_6_24 (by rw [mg_obj ho (by decide) (by decide)]; rfl) hd k
theorem gf_6_51 (C : Cx p s m args meth c D b cc nL RX6 ret) (hw : Hw D b μ H0 H locs) {o : Int} (ho : isK o 3) (hd : decode cc pc = .ok (.getfield 51, 3)) (k : W p l e R s m args below meth c H locs cells slots Q (F0 m (pc + 3) ls (.int (jI (μ o 1)) :: rest))) : W p l e R s m args below meth c H locs cells slots Q (F0 m (pc) ls (rfv b o :: rest)) := r_get C hw ok3 ho 1 (by decide) kf_6_51 (by rw [mg_obj ho (by decide) (by decide)]; rfl) hd k
theorem gf_6_58 (C : Cx p s m args meth c D b cc nL RX6 ret) (hw : Hw D b μ H0 H locs) {o : Int} (ho : isK o 3) (hd : decode cc pc = .ok (.getfield 58, 3)) (k : W p l e R s m args below meth c H locs cells slots Q (F0 m (pc + 3) ls (rfv b (o + 1) :: rest))) : W p l e R s m args below meth c H locs cells slots Q (F0 m (pc) ls (rfv b o :: rest)) := r_get C hw ok3 ho 8 (by decide) kf_6_58 (by rw [mg_fin (f := 1) ho (by decide) (by decide) (by decide)]; rfl) hd k
theorem gf_6_61 (C : Cx p s m args meth c D b cc nL RX6 ret) (hw : Hw D b μ H0 H locs) {o : Int} (ho : isK o 3) (hd : decode cc pc = .ok (.getfield 61, 3)) (k : W p l e R s m args below meth c H locs cells slots Q (F0 m (pc + 3) ls (rfv b (o + 2) :: rest))) : W p l e R s m args below meth c H locs cells slots Q (F0 m (pc) ls (rfv b o :: rest)) := r_get C hw ok3 ho 9 (by decide) kf_6_61 (by rw [mg_fin (f := 2) ho (by decide) (by decide) (by decide)]; rfl) hd k
theorem gf_6_79 (C : Cx p s m args meth c D b cc nL RX6 ret) (hw : Hw D b μ H0 H locs) {o : Int} (ho : isK o 3) (hd : decode cc pc = .ok (.getfield 79, 3)) (k : W p l e R s m args below meth c H locs cells slots Q (F0 m (pc + 3) ls (.int (jI (μ o 0)) :: rest))) : W p l e R s m args below meth c H locs cells slots Q (F0 m (pc) ls (rfv b o :: rest)) := r_get C hw ok3 ho 0 (by decide) kf_6_79 (by rw [mg_obj ho (by decide) (by decide)]; rfl) hd k
theorem gf_7_12 (C : Cx p s m args meth c D b cc nL RX7 ret) (hw : Hw D b μ H0 H locs) {o : Int} (ho : isK o 7) (hd : decode cc pc = .ok (.getfield 12, 3)) (k : W p l e R s m args below meth c H locs cells slots Q (F0 m (pc + 3) ls (rfv b (o + 1) :: rest))) : W p l e R s m args below meth c H locs cells slots Q (F0 m (pc) ls (rfv b o :: rest)) := r_get C hw ok7 ho 0 (by decide) kf_7_12 (by rw [mg_fin (f := 1) ho (by decide) (by decide) (by decide)]; rfl) hd k
theorem gf_7_18 (C : Cx p s m args meth c D b cc nL RX7 ret) (hw : Hw D b μ H0 H locs) {o : Int} (ho : isK o 7) (hd : decode cc pc = .ok (.getfield 18, 3)) (k : W p l e R s m args below meth c H locs cells slots Q (F0 m (pc + 3) ls (.int (jI (μ o 2)) :: rest))) : W p l e R s m args below meth c H locs cells slots Q (F0 m (pc) ls (rfv b o :: rest)) := r_get C hw ok7 ho 2 (by decide) kf_7_18 (by rw [mg_obj ho (by decide) (by decide)]; rfl) hd k
theorem gf_7_22 (C : Cx p s m args meth c D b cc nL RX7 ret) (hw : Hw D b μ H0 H locs) {o : Int} (ho : isK o 7) (hd : decode cc pc = .ok (.getfield 22, 3)) (k : W p l e R s m args below meth c H locs cells slots Q (F0 m (pc + 3) ls (.int (jI (μ o 3)) :: rest))) : W p l e R s m args below meth c H locs cells slots Q (F0 m (pc) ls (rfv b o :: rest)) := r_get C hw ok7 ho 3 (by decide) kf_7_22 (by rw [mg_obj ho (by decide) (by decide)]; rfl) hd k
theorem gf_7_25 (C : Cx p s m args meth c D b cc nL RX7 ret) (hw : Hw D b μ H0 H locs) {o : Int} (ho : isK o 7) (hd : decode cc pc = .ok (.getfield 25, 3)) (k : W p l e R s m args below meth c H locs cells slots Q (F0 m (pc + 3) ls (rfv b (μ o 1) :: rest))) : W p l e R s m args below meth c H locs cells slots Q (F0 m (pc) ls (rfv b o :: rest)) := r_get C hw ok7 ho 1 (by decide) kf_7_25 (by rw [mg_obj ho (by decide) (by decide)]; rfl) hd k
theorem gf_7_42 (C : Cx p s m args meth c D b cc nL RX7 ret) (hw : Hw D b μ H0 H locs) {o : Int} (ho : isK o 9) (hd : decode cc pc = .ok (.getfield 42, 3)) (k : W p l e R s m args below meth c H locs cells slots Q (F0 m (pc + 3) ls (.int (jI (μ o 0)) :: rest))) : W p l e R s m args below meth c H locs cells slots Q (F0 m (pc) ls (rfv b o :: rest)) := r_get C hw ok9 ho 0 (by decide) kf_7_42 (by rw [mg_obj ho (by decide) (by decide)]; rfl) hd k
theorem gf_7_48 (C : Cx p s m args meth c D b cc nL RX7 ret) (hw : Hw D b μ H0 H locs) {o : Int} (ho : isK o 9) (hd : decode cc pc = .ok (.getfield 48, 3)) (k : W p l e R s m args below meth c H locs cells slots Q (F0 m (pc + 3) ls (.int (jI (μ o 1)) :: rest))) : W p l e R s m args below meth c H locs cells slots Q (F0 m (pc) ls (rfv b o :: rest)) := r_get C hw ok9 ho 1 (by decide) kf_7_48 (by rw [mg_obj ho (by decide) (by decide)]; rfl) hd k
theorem gf_7_58 (C : Cx p s m args meth c D b cc nL RX7 ret) (hw : Hw D b μ H0 H locs) {o : Int} (ho : isK o 9) (hd : decode cc pc = .ok (.getfield 58, 3)) (k : W p l e R s m args below meth c H locs cells slots Q (F0 m (pc + 3) ls (.int (jI (μ o 2)) :: rest))) : W p l e R s m args below meth c H locs cells slots Q (F0 m (pc) ls (rfv b o :: rest)) := r_get C hw ok9 ho 2 (by decide) kf_7_58 (by rw [mg_obj ho (by decide) (by decide)]; rfl) hd k
theorem gf_7_61 (C : Cx p s m args meth c D b cc nL RX7 ret) (hw : Hw D b μ H0 H locs) {o : Int} (ho : isK o 7) (hd : decode cc pc = .ok (.getfield 61, 3)) (k : W p l e R s m args below meth c H locs cells slots Q (F0 m (pc + 3) ls (.int (jI (μ o 4)) :: rest))) : W p l e R s m args below meth c H locs cells slots Q (F0 m (pc) ls (rfv b o :: rest)) := r_get C hw ok7 ho 4 (by decide) kf_7_61 (by rw [mg_obj ho (by decide) (by decide)]; rfl) hd k
theorem gf_7_67 (C : Cx p s m args meth c D b cc nL RX7 ret) (hw : Hw D b μ H0 H locs) {o : Int} (ho : isK o 3) (hd : decode cc pc = .ok (.getfield 67, 3)) (k : W p l e R s m args below meth c H locs cells slots Q (F0 m (pc + 3) ls (.int (jI (μ o 3)) :: rest))) : W p l e R s m args below meth c H locs cells slots Q (F0 m (pc) ls (rfv b o :: rest)) := r_get C hw ok3 ho 3 (by decide) kf_7_67 (by rw [mg_obj ho (by decide) (by decide)]; rfl) hd k
theorem gf_7_74 (C : Cx p s m args meth c D b cc nL RX7 ret) (hw : Hw D b μ H0 H locs) {o : Int} (ho : isK o 3) (hd : decode cc pc = .ok (.getfield 74, 3)) (k : W p l e R s m args below meth c H locs cells slots Q (F0 m (pc + 3) ls (.int (jI (μ o 0)) :: rest))) : W p l e R s m args below meth c H locs cells slots Q (F0 m (pc) ls (rfv b o :: rest)) := r_get C hw ok3 ho 0 (by decide) kf_7_74 (by rw [mg_obj ho (by decide) (by decide)]; rfl) hd k
theorem gf_7_98 (C : Cx p s m args meth c D b cc nL RX7 ret) (hw : Hw D b μ H0 H locs) {o : Int} (ho : isK o 3) (hd : decode cc pc = .ok (.getfield 98, 3)) (k : W p l e R s m args below meth c H locs cells slots Q (F0 m (pc + 3) ls (.int (jI (μ o 1)) :: rest))) : W p l e R s m args below meth c H locs cells slots Q (F0 m (pc) ls (rfv b o :: rest)) := r_get C hw ok3 ho 1 (by decide) kf_7_98 (by rw [mg_obj ho (by decide) (by decide)]; rfl) hd k
theorem gf_7_101 (C : Cx p s m args meth c D b cc nL RX7 ret) (hw : Hw D b μ H0 H locs) {o : Int} (ho : isK o 3) (hd : decode cc pc = .ok (.getfield 101, 3)) (k : W p l e R s m args below meth c H locs cells slots Q (F0 m (pc + 3) ls (rfv b (o + 1) :: rest))) : W p l e R s m args below meth c H locs cells slots Q (F0 m (pc) ls (rfv b o :: rest)) := r_get C hw ok3 ho 8 (by decide) kf_7_101 (by rw [mg_fin (f := 1) ho (by decide) (by decide) (by decide)]; rfl) hd k
theorem gf_7_105 (C : Cx p s m args meth c D b cc nL RX7 ret) (hw : Hw D b μ H0 H locs) {o : Int} (ho : isK o 3) (hd : decode cc pc = .ok (.getfield 105, 3)) (k : W p l e R s m args below meth c H locs cells slots Q (F0 m (pc + 3) ls (rfv b (o + 2) :: rest))) : W p l e R s m args below meth c H locs cells slots Q (F0 m (pc) ls (rfv b o :: rest)) := r_get C hw ok3 ho 9 (by decide) kf_7_105 (by rw [mg_fin (f := 2) ho (by decide) (by decide) (by decide)]; rfl) hd k
theorem gf_7_111 (C : Cx p s m args meth c D b cc nL RX7 ret) (hw : Hw D b μ H0 H locs) {o : Int} (ho : isK o 3) (hd : decode cc pc = .ok (.getfield 111, 3)) (k : W p l e R s m args below meth c H locs cells slots Q (F0 m (pc + 3) ls (rfv b (o + 3) :: rest))) : W p l e R s m args below meth c H locs cells slots Q (F0 m (pc) ls (rfv b o :: rest)) := r_get C hw ok3 ho 10 (by decide) kf_7_111 (by rw [mg_fin (f := 3) ho (by decide) (by decide) (by decide)]; rfl) hd k
theorem gf_7_114 (C : Cx p s m args meth c D b cc nL RX7 ret) (hw : Hw D b μ H0 H locs) {o : Int} (ho : isK o 3) (hd : decode cc pc = .ok (.getfield 114, 3)) (k : W p l e R s m args below meth c H locs cells slots Q (F0 m (pc + 3) ls (rfv b (o + 4) :: rest))) : W p l e R s m args below meth c H locs cells slots Q (F0 m (pc) ls (rfv b o :: rest)) := r_get C hw ok3 ho 11 (by decide) kf_7_114 (by rw [mg_fin (f := 4) ho (by decide) (by decide) (by decide)]; rfl) hd k
theorem gf_7_117 (C : Cx p s m args meth c D b cc nL RX7 ret) (hw : Hw D b μ H0 H locs) {o : Int} (ho : isK o 3) (hd : decode cc pc = .ok (.getfield 117, 3)) (k : W p l e R s m args below meth c H locs cells slots Q (F0 m (pc + 3) ls (rfv b (o + 5) :: rest))) : W p l e R s m args below meth c H locs cells slots Q (F0 m (pc) ls (rfv b o :: rest)) := r_get C hw ok3 ho 12 (by decide) kf_7_117 (by rw [mg_fin (f := 5) ho (by decide) (by decide) (by decide)]; rfl) hd k
theorem gf_7_126 (C : Cx p s m args meth c D b cc nL RX7 ret) (hw : Hw D b μ H0 H locs) {o : Int} (ho : isK o 3) (hd : decode cc pc = .ok (.getfield 126, 3)) (k : W p l e R s m args below meth c H locs cells slots Q (F0 m (pc + 3) ls (.int (jI (μ o 2)) :: rest))) : W p l e R s m args below meth c H locs cells slots Q (F0 m (pc) ls (rfv b o :: rest)) := r_get C hw ok3 ho 2 (by decide) kf_7_126 (by rw [mg_obj ho (by decide) (by decide)]; rfl) hd k
theorem gf_7_129 (C : Cx p s m args meth c D b cc nL RX7 ret) (hw : Hw D b μ H0 H locs) {o : Int} (ho : isK o 3) (hd : decode cc pc = .ok (.getfield 129, 3)) (k : W p l e R s m args below meth c H locs cells slots Q (F0 m (pc + 3) ls (rfv b (o + 6) :: rest))) : W p l e R s m args below meth c H locs cells slots Q (F0 m (pc) ls (rfv b o :: rest)) := r_get C hw ok3 ho 13 (by decide) kf_7_129 (by rw [mg_fin (f := 6) ho (by decide) (by decide) (by decide)]; rfl) hd k
theorem gf_7_132 (C : Cx p s m args meth c D b cc nL RX7 ret) (hw : Hw D b μ H0 H locs) {o : Int} (ho : isK o 3) (hd : decode cc pc = .ok (.getfield 132, 3)) (k : W p l e R s m args below meth c H locs cells slots Q (F0 m (pc + 3) ls (.int (jI (μ o 7)) :: rest))) : W p l e R s m args below meth c H locs cells slots Q (F0 m (pc) ls (rfv b o :: rest)) := r_get C hw ok3 ho 7 (by decide) kf_7_132 (by rw [mg_obj ho (by decide) (by decide)]; rfl) hd k
theorem gf_7_138 (C : Cx p s m args meth c D b cc nL RX7 ret) (hw : Hw D b μ H0 H locs) {o : Int} (ho : isK o 7) (hd : decode cc pc = .ok (.getfield 138, 3)) (k : W p l e R s m args below meth c H locs cells slots Q (F0 m (pc + 3) ls (.int (jI (μ o 5)) :: rest))) : W p l e R s m args below meth c H locs cells slots Q (F0 m (pc) ls (rfv b o :: rest)) := r_get C hw ok7 ho 5 (by decide) kf_7_138 (by rw [mg_obj ho (by decide) (by decide)]; rfl) hd k
theorem gf_7_142 (C : Cx p s m args meth c D b cc nL RX7 ret) (hw : Hw D b μ H0 H locs) {o : Int} (ho : isK o 3) (hd : decode cc pc = .ok (.getfield 142, 3)) (k : W p l e R s m args below meth c H locs cells slots Q (F0 m (pc + 3) ls (rfv b (o + 7) :: rest))) : W p l e R s m args below meth c H locs cells slots Q (F0 m (pc) ls (rfv b o :: rest)) := r_get C hw ok3 ho 14 (by decide) kf_7_142 (by rw [mg_fin (f := 7) ho (by decide) (by decide) (by decide)]; rfl) hd k
theorem gf_8_11 (C : Cx p s m args meth c D b cc nL RX8 ret) (hw : Hw D b μ H0 H locs) {o : Int} (ho : isK o 8) (hd : decode cc pc = .ok (.getfield 11, 3)) (k : W p l e R s m args below meth c H locs cells slots Q (F0 m (pc + 3) ls (rfv b (o + 1) :: rest))) : W p l e R s m args below meth c H locs cells slots Q (F0 m (pc) ls (rfv b o :: rest)) := r_get C hw ok8 ho 0 (by decide) kf_8_11 (by rw [mg_fin (f := 1) ho (by decide) (by decide) (by decide)]; rfl) hd k
theorem gf_8_15 (C : Cx p s m args meth c D b cc nL RX8 ret) (hw : Hw D b μ H0 H locs) {o : Int} (ho : isK o 8) (hd : decode cc pc = .ok (.getfield 15, 3)) (k : W p l e R s m args below meth c H locs cells slots Q (F0 m (pc + 3) ls (rfv b (o + 2) :: rest))) : W p l e R s m args below meth c H locs cells slots Q (F0 m (pc) ls (rfv b o :: rest)) := r_get C hw ok8 ho 1 (by decide) kf_8_15 (by rw [mg_fin (f := 2) ho (by decide) (by decide) (by decide)]; rfl) hd k
theorem gf_8_19 (C : Cx p s m args meth c D b cc nL RX8 ret) (hw : Hw D b μ H0 H locs) {o : Int} (ho : isK o 8) (hd : decode cc pc = .ok (.getfield 19, 3)) (k : W p l e R s m args below meth c H locs cells slots Q (F0 m (pc + 3) ls (rfv b (o + 3) :: rest))) : W p l e R s m args below meth c H locs cells slots Q (F0 m (pc) ls (rfv b o :: rest)) := r_get C hw ok8 ho 2 (by decide) kf_8_19 (by rw [mg_fin (f := 3) ho (by decide) (by decide) (by decide)]; rfl) hd k
theorem gf_8_22 (C : Cx p s m args meth c D b cc nL RX8 ret) (hw : Hw D b μ H0 H locs) {o : Int} (ho : isK o 8) (hd : decode cc pc = .ok (.getfield 22, 3)) (k : W p l e R s m args below meth c H locs cells slots Q (F0 m (pc + 3) ls (rfv b (o + 4) :: rest))) : W p l e R s m args below meth c H locs cells slots Q (F0 m (pc) ls (rfv b o :: rest)) := r_get C hw ok8 ho 3 (by decide) kf_8_22 (by rw [mg_fin (f := 4) ho (by decide) (by decide) (by decide)]; rfl) hd k
theorem gf_8_25 (C : Cx p s m args meth c D b cc nL RX8 ret) (hw : Hw D b μ H0 H locs) {o : Int} (ho : isK o 0) (hd : decode cc pc = .ok (.getfield 25, 3)) (k : W p l e R s m args below meth c H locs cells slots Q (F0 m (pc + 3) ls (rfv b (μ o 0) :: rest))) : W p l e R s m args below meth c H locs cells slots Q (F0 m (pc) ls (rfv b o :: rest)) := r_get C hw ok0 ho 0 (by decide) kf_8_25 (by rw [mg_obj ho (by decide) (by decide)]; rfl) hd k
theorem gf_8_31 (C : Cx p s m args meth c D b cc nL RX8 ret) (hw : Hw D b μ H0 H locs) {o : Int} (ho : isK o 8) (hd : decode cc pc = .ok (.getfield 31, 3)) (k : W p l e R s m args below meth c H locs cells slots Q (F0 m (pc + 3) ls (rfv b (μ o 4) :: rest))) : W p l e R s m args below meth c H locs cells slots Q (F0 m (pc) ls (rfv b o :: rest)) := r_get C hw ok8 ho 4 (by decide) kf_8_31 (by rw [mg_obj ho (by decide) (by decide)]; rfl) hd k
theorem gf_8_32 (C : Cx p s m args meth c D b cc nL RX8 ret) (hw : Hw D b μ H0 H locs) {o : Int} (ho : isK o 8) (hd : decode cc pc = .ok (.getfield 32, 3)) (k : W p l e R s m args below meth c H locs cells slots Q (F0 m (pc + 3) ls (rfv b (μ o 5) :: rest))) : W p l e R s m args below meth c H locs cells slots Q (F0 m (pc) ls (rfv b o :: rest)) := r_get C hw ok8 ho 5 (by decide) kf_8_32 (by rw [mg_obj ho (by decide) (by decide)]; rfl) hd k
theorem gf_8_36 (C : Cx p s m args meth c D b cc nL RX8 ret) (hw : Hw D b μ H0 H locs) {o : Int} (ho : isK o 8) (hd : decode cc pc = .ok (.getfield 36, 3)) (k : W p l e R s m args below meth c H locs cells slots Q (F0 m (pc + 3) ls (.int (jI (μ o 6)) :: rest))) : W p l e R s m args below meth c H locs cells slots Q (F0 m (pc) ls (rfv b o :: rest)) := r_get C hw ok8 ho 6 (by decide) kf_8_36 (by rw [mg_obj ho (by decide) (by decide)]; rfl) hd k
theorem gf_8_50 (C : Cx p s m args meth c D b cc nL RX8 ret) (hw : Hw D b μ H0 H locs) {o : Int} (ho : isK o 0) (hd : decode cc pc = .ok (.getfield 50, 3)) (k : W p l e R s m args below meth c H locs cells slots Q (F0 m (pc + 3) ls (.int (jI (μ o 2)) :: rest))) : W p l e R s m args below meth c H locs cells slots Q (F0 m (pc) ls (rfv b o :: rest)) := r_get C hw ok0 ho 2 (by decide) kf_8_50 (by rw [mg_obj ho (by decide) (by decide)]; rfl) hd k
theorem gf_8_57 (C : Cx p s m args meth c D b cc nL RX8 ret) (hw : Hw D b μ H0 H locs) {o : Int} (ho : isK o 0) (hd : decode cc pc = .ok (.getfield 57, 3)) (k : W p l e R s m args below meth c H locs cells slots Q (F0 m (pc + 3) ls (.int (jI (μ o 1)) :: rest))) : W p l e R s m args below meth c H locs cells slots Q (F0 m (pc) ls (rfv b o :: rest)) := r_get C hw ok0 ho 1 (by decide) kf_8_57 (by rw [mg_obj ho (by decide) (by decide)]; rfl) hd k
theorem gf_8_72 (C : Cx p s m args meth c D b cc nL RX8 ret) (hw : Hw D b μ H0 H locs) {o : Int} (ho : isK o 3) (hd : decode cc pc = .ok (.getfield 72, 3)) (k : W p l e R s m args below meth c H locs cells slots Q (F0 m (pc + 3) ls (.int (jI (μ o 1)) :: rest))) : W p l e R s m args below meth c H locs cells slots Q (F0 m (pc) ls (rfv b o :: rest)) := r_get C hw ok3 ho 1 (by decide) kf_8_72 (by rw [mg_obj ho (by decide) (by decide)]; rfl) hd k
theorem gf_9_9 (C : Cx p s m args meth c D b cc nL RX9 ret) (hw : Hw D b μ H0 H locs) {o : Int} (ho : isK o 9) (hd : decode cc pc = .ok (.getfield 9, 3)) (k : W p l e R s m args below meth c H locs cells slots Q (F0 m (pc + 3) ls (rfv b (o + 1) :: rest))) : W p l e R s m args below meth c H locs cells slots Q (F0 m (pc) ls (rfv b o :: rest)) := r_get C hw ok9 ho 5 (by decide) kf_9_9 (by rw [mg_fin (f := 1) ho (by decide) (by decide) (by decide)]; rfl) hd k
theorem gf_9_15 (C : Cx p s m args meth c D b cc nL RX9 ret) (hw : Hw D b μ H0 H locs) {o : Int} (ho : isK o 9) (hd : decode cc pc = .ok (.getfield 15, 3)) (k : W p l e R s m args below meth c H locs cells slots Q (F0 m (pc + 3) ls (rfv b (μ o 3) :: rest))) : W p l e R s m args below meth c H locs cells slots Q (F0 m (pc) ls (rfv b o :: rest)) := r_get C hw ok9 ho 3 (by decide) kf_9_15 (by rw [mg_obj ho (by decide) (by decide)]; rfl) hd k
theorem gf_9_25 (C : Cx p s m args meth c D b cc nL RX9 ret) (hw : Hw D b μ H0 H locs) {o : Int} (ho : isK o 9) (hd : decode cc pc = .ok (.getfield 25, 3)) (k : W p l e R s m args below meth c H locs cells slots Q (F0 m (pc + 3) ls (.int (jI (μ o 4)) :: rest))) : W p l e R s m args below meth c H locs cells slots Q (F0 m (pc) ls (rfv b o :: rest)) := r_get C hw ok9 ho 4 (by decide) kf_9_25 (by rw [mg_obj ho (by decide) (by decide)]; rfl) hd k
theorem gf_9_29 (C : Cx p s m args meth c D b cc nL RX9 ret) (hw : Hw D b μ H0 H locs) {o : Int} (ho : isK o 9) (hd : decode cc pc = .ok (.getfield 29, 3)) (k : W p l e R s m args below meth c H locs cells slots Q (F0 m (pc + 3) ls (.int (jI (μ o 6)) :: rest))) : W p l e R s m args below meth c H locs cells slots Q (F0 m (pc) ls (rfv b o :: rest)) := r_get C hw ok9 ho 6 (by decide) kf_9_29 (by rw [mg_obj ho (by decide) (by decide)]; rfl) hd k
theorem gf_9_60 (C : Cx p s m args meth c D b cc nL RX9 ret) (hw : Hw D b μ H0 H locs) {o : Int} (ho : isK o 9) (hd : decode cc pc = .ok (.getfield 60, 3)) (k : W p l e R s m args below meth c H locs cells slots Q (F0 m (pc + 3) ls (.int (jI (μ o 7)) :: rest))) : W p l e R s m args below meth c H locs cells slots Q (F0 m (pc) ls (rfv b o :: rest)) := r_get C hw ok9 ho 7 (by decide) kf_9_60 (by rw [mg_obj ho (by decide) (by decide)]; rfl) hd k
theorem gf_10_15 (C : Cx p s m args meth c D b cc nL RX10 ret) (hw : Hw D b μ H0 H locs) {o : Int} (ho : isK o 10) (hd : decode cc pc = .ok (.getfield 15, 3)) (k : W p l e R s m args below meth c H locs cells slots Q (F0 m (pc + 3) ls (rfv b (o + 1) :: rest))) : W p l e R s m args below meth c H locs cells slots Q (F0 m (pc) ls (rfv b o :: rest)) := r_get C hw ok10 ho 3 (by decide) kf_10_15 (by rw [mg_fin (f := 1) ho (by decide) (by decide) (by decide)]; rfl) hd k
theorem gf_10_19 (C : Cx p s m args meth c D b cc nL RX10 ret) (hw : Hw D b μ H0 H locs) {o : Int} (ho : isK o 10) (hd : decode cc pc = .ok (.getfield 19, 3)) (k : W p l e R s m args below meth c H locs cells slots Q (F0 m (pc + 3) ls (.int (jI (μ o 2)) :: rest))) : W p l e R s m args below meth c H locs cells slots Q (F0 m (pc) ls (rfv b o :: rest)) := r_get C hw ok10 ho 2 (by decide) kf_10_19 (by rw [mg_obj ho (by decide) (by decide)]; rfl) hd k
theorem gf_10_23 (C : Cx p s m args meth c D b cc nL RX10 ret) (hw : Hw D b μ H0 H locs) {o : Int} (ho : isK o 10) (hd : decode cc pc = .ok (.getfield 23, 3)) (k : W p l e R s m args below meth c H locs cells slots Q (F0 m (pc + 3) ls (.int (jI (μ o 1)) :: rest))) : W p l e R s m args below meth c H locs cells slots Q (F0 m (pc) ls (rfv b o :: rest)) := r_get C hw ok10 ho 1 (by decide) kf_10_23 (by rw [mg_obj ho (by decide) (by decide)]; rfl) hd k
theorem gf_12_13 (C : Cx p s m args meth c D b cc nL RX12 ret) (hw : Hw D b μ H0 H locs) {o : Int} (ho : isK o 12) (hd : decode cc pc = .ok (.getfield 13, 3)) (k : W p l e R s m args below meth c H locs cells slots Q (F0 m (pc + 3) ls (rfv b (o + 1) :: rest))) : W p l e R s m args below meth c H locs cells slots Q (F0 m (pc) ls (rfv b o :: rest)) := r_get C hw ok12 ho 1 (by decide) kf_12_13 (by rw [mg_fin (f := 1) ho (by decide) (by decide) (by decide)]; rfl) hd k
theorem gf_12_17 (C : Cx p s m args meth c D b cc nL RX12 ret) (hw : Hw D b μ H0 H locs) {o : Int} (ho : isK o 12) (hd : decode cc pc = .ok (.getfield 17, 3)) (k : W p l e R s m args below meth c H locs cells slots Q (F0 m (pc + 3) ls (rfv b (o + 2) :: rest))) : W p l e R s m args below meth c H locs cells slots Q (F0 m (pc) ls (rfv b o :: rest)) := r_get C hw ok12 ho 2 (by decide) kf_12_17 (by rw [mg_fin (f := 2) ho (by decide) (by decide) (by decide)]; rfl) hd k
theorem gf_12_21 (C : Cx p s m args meth c D b cc nL RX12 ret) (hw : Hw D b μ H0 H locs) {o : Int} (ho : isK o 12) (hd : decode cc pc = .ok (.getfield 21, 3)) (k : W p l e R s m args below meth c H locs cells slots Q (F0 m (pc + 3) ls (rfv b (o + 3) :: rest))) : W p l e R s m args below meth c H locs cells slots Q (F0 m (pc) ls (rfv b o :: rest)) := r_get C hw ok12 ho 3 (by decide) kf_12_21 (by rw [mg_fin (f := 3) ho (by decide) (by decide) (by decide)]; rfl) hd k
theorem gf_12_24 (C : Cx p s m args meth c D b cc nL RX12 ret) (hw : Hw D b μ H0 H locs) {o : Int} (ho : isK o 12) (hd : decode cc pc = .ok (.getfield 24, 3)) (k : W p l e R s m args below meth c H locs cells slots Q (F0 m (pc + 3) ls (rfv b (o + 4) :: rest))) : W p l e R s m args below meth c H locs cells slots Q (F0 m (pc) ls (rfv b o :: rest)) := r_get C hw ok12 ho 4 (by decide) kf_12_24 (by rw [mg_fin (f := 4) ho (by decide) (by decide) (by decide)]; rfl) hd k
theorem gf_12_27 (C : Cx p s m args meth c D b cc nL RX12 ret) (hw : Hw D b μ H0 H locs) {o : Int} (ho : isK o 12) (hd : decode cc pc = .ok (.getfield 27, 3)) (k : W p l e R s m args below meth c H locs cells slots Q (F0 m (pc + 3) ls (.int (jI (μ o 14)) :: rest))) : W p l e R s m args below meth c H locs cells slots Q (F0 m (pc) ls (rfv b o :: rest)) := r_get C hw ok12 ho 14 (by decide) kf_12_27 (by rw [mg_obj ho (by decide) (by decide)]; rfl) hd k
theorem gf_12_30 (C : Cx p s m args meth c D b cc nL RX12 ret) (hw : Hw D b μ H0 H locs) {o : Int} (ho : isK o 12) (hd : decode cc pc = .ok (.getfield 30, 3)) (k : W p l e R s m args below meth c H locs cells slots Q (F0 m (pc + 3) ls (rfv b (o + 5) :: rest))) : W p l e R s m args below meth c H locs cells slots Q (F0 m (pc) ls (rfv b o :: rest)) := r_get C hw ok12 ho 16 (by decide) kf_12_30 (by rw [mg_fin (f := 5) ho (by decide) (by decide) (by decide)]; rfl) hd k
theorem gf_12_33 (C : Cx p s m args meth c D b cc nL RX12 ret) (hw : Hw D b μ H0 H locs) {o : Int} (ho : isK o 12) (hd : decode cc pc = .ok (.getfield 33, 3)) (k : W p l e R s m args below meth c H locs cells slots Q (F0 m (pc + 3) ls (rfv b (o + 6) :: rest))) : W p l e R s m args below meth c H locs cells slots Q (F0 m (pc) ls (rfv b o :: rest)) := r_get C hw ok12 ho 17 (by decide) kf_12_33 (by rw [mg_fin (f := 6) ho (by decide) (by decide) (by decide)]; rfl) hd k
theorem gf_12_36 (C : Cx p s m args meth c D b cc nL RX12 ret) (hw : Hw D b μ H0 H locs) {o : Int} (ho : isK o 12) (hd : decode cc pc = .ok (.getfield 36, 3)) (k : W p l e R s m args below meth c H locs cells slots Q (F0 m (pc + 3) ls (rfv b (o + 7) :: rest))) : W p l e R s m args below meth c H locs cells slots Q (F0 m (pc) ls (rfv b o :: rest)) := r_get C hw ok12 ho 18 (by decide) kf_12_36 (by rw [mg_fin (f := 7) ho (by decide) (by decide) (by decide)]; rfl) hd k
theorem gf_12_39 (C : Cx p s m args meth c D b cc nL RX12 ret) (hw : Hw D b μ H0 H locs) {o : Int} (ho : isK o 12) (hd : decode cc pc = .ok (.getfield 39, 3)) (k : W p l e R s m args below meth c H locs cells slots Q (F0 m (pc + 3) ls (rfv b (o + 8) :: rest))) : W p l e R s m args below meth c H locs cells slots Q (F0 m (pc) ls (rfv b o :: rest)) := r_get C hw ok12 ho 21 (by decide) kf_12_39 (by rw [mg_fin (f := 8) ho (by decide) (by decide) (by decide)]; rfl) hd k
theorem gf_12_42 (C : Cx p s m args meth c D b cc nL RX12 ret) (hw : Hw D b μ H0 H locs) {o : Int} (ho : isK o 12) (hd : decode cc pc = .ok (.getfield 42, 3)) (k : W p l e R s m args below meth c H locs cells slots Q (F0 m (pc + 3) ls (rfv b (o + 9) :: rest))) : W p l e R s m args below meth c H locs cells slots Q (F0 m (pc) ls (rfv b o :: rest)) := r_get C hw ok12 ho 22 (by decide) kf_12_42 (by rw [mg_fin (f := 9) ho (by decide) (by decide) (by decide)]; rfl) hd k
theorem gf_12_45 (C : Cx p s m args meth c D b cc nL RX12 ret) (hw : Hw D b μ H0 H locs) {o : Int} (ho : isK o 12) (hd : decode cc pc = .ok (.getfield 45, 3)) (k : W p l e R s m args below meth c H locs cells slots Q (F0 m (pc + 3) ls (rfv b (o + 10) :: rest))) : W p l e R s m args below meth c H locs cells slots Q (F0 m (pc) ls (rfv b o :: rest)) := r_get C hw ok12 ho 23 (by decide) kf_12_45 (by rw [mg_fin (f := 10) ho (by decide) (by decide) (by decide)]; rfl) hd k
theorem gf_12_48 (C : Cx p s m args meth c D b cc nL RX12 ret) (hw : Hw D b μ H0 H locs) {o : Int} (ho : isK o 12) (hd : decode cc pc = .ok (.getfield 48, 3)) (k : W p l e R s m args below meth c H locs cells slots Q (F0 m (pc + 3) ls (rfv b (o + 11) :: rest))) : W p l e R s m args below meth c H locs cells slots Q (F0 m (pc) ls (rfv b o :: rest)) := r_get C hw ok12 ho 25 (by decide) kf_12_48 (by rw [mg_fin (f := 11) ho (by decide) (by decide) (by decide)]; rfl) hd k
theorem gf_12_51 (C : Cx p s m args meth c D b cc nL RX12 ret) (hw : Hw D b μ H0 H locs) {o : Int} (ho : isK o 12) (hd : decode cc pc = .ok (.getfield 51, 3)) (k : W p l e R s m args below meth c H locs cells slots Q (F0 m (pc + 3) ls (rfv b (o + 12) :: rest))) : W p l e R s m args below meth c H locs cells slots Q (F0 m (pc) ls (rfv b o :: rest)) := r_get C hw ok12 ho 26 (by decide) kf_12_51 (by rw [mg_fin (f := 12) ho (by decide) (by decide) (by decide)]; rfl) hd k
theorem gf_12_54 (C : Cx p s m args meth c D b cc nL RX12 ret) (hw : Hw D b μ H0 H locs) {o : Int} (ho : isK o 12) (hd : decode cc pc = .ok (.getfield 54, 3)) (k : W p l e R s m args below meth c H locs cells slots Q (F0 m (pc + 3) ls (rfv b (o + 13) :: rest))) : W p l e R s m args below meth c H locs cells slots Q (F0 m (pc) ls (rfv b o :: rest)) := r_get C hw ok12 ho 27 (by decide) kf_12_54 (by rw [mg_fin (f := 13) ho (by decide) (by decide) (by decide)]; rfl) hd k
theorem gf_12_57 (C : Cx p s m args meth c D b cc nL RX12 ret) (hw : Hw D b μ H0 H locs) {o : Int} (ho : isK o 12) (hd : decode cc pc = .ok (.getfield 57, 3)) (k : W p l e R s m args below meth c H locs cells slots Q (F0 m (pc + 3) ls (rfv b (o + 14) :: rest))) : W p l e R s m args below meth c H locs cells slots Q (F0 m (pc) ls (rfv b o :: rest)) := r_get C hw ok12 ho 28 (by decide) kf_12_57 (by rw [mg_fin (f := 14) ho (by decide) (by decide) (by decide)]; rfl) hd k
theorem gf_12_60 (C : Cx p s m args meth c D b cc nL RX12 ret) (hw : Hw D b μ H0 H locs) {o : Int} (ho : isK o 12) (hd : decode cc pc = .ok (.getfield 60, 3)) (k : W p l e R s m args below meth c H locs cells slots Q (F0 m (pc + 3) ls (rfv b (o + 15) :: rest))) : W p l e R s m args below meth c H locs cells slots Q (F0 m (pc) ls (rfv b o :: rest)) := r_get C hw ok12 ho 29 (by decide) kf_12_60 (by rw [mg_fin (f := 15) ho (by decide) (by decide) (by decide)]; rfl) hd k
theorem gf_12_63 (C : Cx p s m args meth c D b cc nL RX12 ret) (hw : Hw D b μ H0 H locs) {o : Int} (ho : isK o 12) (hd : decode cc pc = .ok (.getfield 63, 3)) (k : W p l e R s m args below meth c H locs cells slots Q (F0 m (pc + 3) ls (rfv b (o + 16) :: rest))) : W p l e R s m args below meth c H locs cells slots Q (F0 m (pc) ls (rfv b o :: rest)) := r_get C hw ok12 ho 30 (by decide) kf_12_63 (by rw [mg_fin (f := 16) ho (by decide) (by decide) (by decide)]; rfl) hd k
theorem gf_12_66 (C : Cx p s m args meth c D b cc nL RX12 ret) (hw : Hw D b μ H0 H locs) {o : Int} (ho : isK o 12) (hd : decode cc pc = .ok (.getfield 66, 3)) (k : W p l e R s m args below meth c H locs cells slots Q (F0 m (pc + 3) ls (rfv b (o + 17) :: rest))) : W p l e R s m args below meth c H locs cells slots Q (F0 m (pc) ls (rfv b o :: rest)) := r_get C hw ok12 ho 31 (by decide) kf_12_66 (by rw [mg_fin (f := 17) ho (by decide) (by decide) (by decide)]; rfl) hd k
theorem gf_12_74 (C : Cx p s m args meth c D b cc nL RX12 ret) (hw : Hw D b μ H0 H locs) {o : Int} (ho : isK o 12) (hd : decode cc pc = .ok (.getfield 74, 3)) (k : W p l e R s m args below meth c H locs cells slots Q (F0 m (pc + 3) ls (.int (jI (μ o 5)) :: rest))) : W p l e R s m args below meth c H locs cells slots Q (F0 m (pc) ls (rfv b o :: rest)) := r_get C hw ok12 ho 5 (by decide) kf_12_74 (by rw [mg_obj ho (by decide) (by decide)]; rfl) hd k
theorem gf_12_77 (C : Cx p s m args meth c D b cc nL RX12 ret) (hw : Hw D b μ H0 H locs) {o : Int} (ho : isK o 12) (hd : decode cc pc = .ok (.getfield 77, 3)) (k : W p l e R s m args below meth c H locs cells slots Q (F0 m (pc + 3) ls (.int (jI (μ o 8)) :: rest))) : W p l e R s m args below meth c H locs cells slots Q (F0 m (pc) ls (rfv b o :: rest)) := r_get C hw ok12 ho 8 (by decide) kf_12_77 (by rw [mg_obj ho (by decide) (by decide)]; rfl) hd k
theorem gf_12_92 (C : Cx p s m args meth c D b cc nL RX12 ret) (hw : Hw D b μ H0 H locs) {o : Int} (ho : isK o 12) (hd : decode cc pc = .ok (.getfield 92, 3)) (k : W p l e R s m args below meth c H locs cells slots Q (F0 m (pc + 3) ls (.int (jI (μ o 6)) :: rest))) : W p l e R s m args below meth c H locs cells slots Q (F0 m (pc) ls (rfv b o :: rest)) := r_get C hw ok12 ho 6 (by decide) kf_12_92 (by rw [mg_obj ho (by decide) (by decide)]; rfl) hd k
theorem gf_12_95 (C : Cx p s m args meth c D b cc nL RX12 ret) (hw : Hw D b μ H0 H locs) {o : Int} (ho : isK o 12) (hd : decode cc pc = .ok (.getfield 95, 3)) (k : W p l e R s m args below meth c H locs cells slots Q (F0 m (pc + 3) ls (.int (jI (μ o 7)) :: rest))) : W p l e R s m args below meth c H locs cells slots Q (F0 m (pc) ls (rfv b o :: rest)) := r_get C hw ok12 ho 7 (by decide) kf_12_95 (by rw [mg_obj ho (by decide) (by decide)]; rfl) hd k
theorem gf_12_102 (C : Cx p s m args meth c D b cc nL RX12 ret) (hw : Hw D b μ H0 H locs) {o : Int} (ho : isK o 12) (hd : decode cc pc = .ok (.getfield 102, 3)) (k : W p l e R s m args below meth c H locs cells slots Q (F0 m (pc + 3) ls (.int (jI (μ o 9)) :: rest))) : W p l e R s m args below meth c H locs cells slots Q (F0 m (pc) ls (rfv b o :: rest)) := r_get C hw ok12 ho 9 (by decide) kf_12_102 (by rw [mg_obj ho (by decide) (by decide)]; rfl) hd k
theorem gf_12_115 (C : Cx p s m args meth c D b cc nL RX12 ret) (hw : Hw D b μ H0 H locs) {o : Int} (ho : isK o 12) (hd : decode cc pc = .ok (.getfield 115, 3)) (k : W p l e R s m args below meth c H locs cells slots Q (F0 m (pc + 3) ls (.int (jI (μ o 10)) :: rest))) : W p l e R s m args below meth c H locs cells slots Q (F0 m (pc) ls (rfv b o :: rest)) := r_get C hw ok12 ho 10 (by decide) kf_12_115 (by rw [mg_obj ho (by decide) (by decide)]; rfl) hd k
theorem gf_12_120 (C : Cx p s m args meth c D b cc nL RX12 ret) (hw : Hw D b μ H0 H locs) {o : Int} (ho : isK o 12) (hd : decode cc pc = .ok (.getfield 120, 3)) (k : W p l e R s m args below meth c H locs cells slots Q (F0 m (pc + 3) ls (.int (jI (μ o 11)) :: rest))) : W p l e R s m args below meth c H locs cells slots Q (F0 m (pc) ls (rfv b o :: rest)) := r_get C hw ok12 ho 11 (by decide) kf_12_120 (by rw [mg_obj ho (by decide) (by decide)]; rfl) hd k
theorem gf_12_123 (C : Cx p s m args meth c D b cc nL RX12 ret) (hw : Hw D b μ H0 H locs) {o : Int} (ho : isK o 12) (hd : decode cc pc = .ok (.getfield 123, 3)) (k : W p l e R s m args below meth c H locs cells slots Q (F0 m (pc + 3) ls (.int (jI (μ o 12)) :: rest))) : W p l e R s m args below meth c H locs cells slots Q (F0 m (pc) ls (rfv b o :: rest)) := r_get C hw ok12 ho 12 (by decide) kf_12_123 (by rw [mg_obj ho (by decide) (by decide)]; rfl) hd k
theorem gf_12_140 (C : Cx p s m args meth c D b cc nL RX12 ret) (hw : Hw D b μ H0 H locs) {o : Int} (ho : isK o 12) (hd : decode cc pc = .ok (.getfield 140, 3)) (k : W p l e R s m args below meth c H locs cells slots Q (F0 m (pc + 3) ls (.int (jI (μ o 15)) :: rest))) : W p l e R s m args below meth c H locs cells slots Q (F0 m (pc) ls (rfv b o :: rest)) := r_get C hw ok12 ho 15 (by decide) kf_12_140 (by rw [mg_obj ho (by decide) (by decide)]; rfl) hd k
theorem gf_12_205 (C : Cx p s m args meth c D b cc nL RX12 ret) (hw : Hw D b μ H0 H locs) {o : Int} (ho : isK o 12) (hd : decode cc pc = .ok (.getfield 205, 3)) (k : W p l e R s m args below meth c H locs cells slots Q (F0 m (pc + 3) ls (.int (jI (μ o 13)) :: rest))) : W p l e R s m args below meth c H locs cells slots Q (F0 m (pc) ls (rfv b o :: rest)) := r_get C hw ok12 ho 13 (by decide) kf_12_205 (by rw [mg_obj ho (by decide) (by decide)]; rfl) hd k
theorem gf_12_288 (C : Cx p s m args meth c D b cc nL RX12 ret) (hw : Hw D b μ H0 H locs) {o : Int} (ho : isK o 12) (hd : decode cc pc = .ok (.getfield 288, 3)) (k : W p l e R s m args below meth c H locs cells slots Q (F0 m (pc + 3) ls (.int (jI (μ o 19)) :: rest))) : W p l e R s m args below meth c H locs cells slots Q (F0 m (pc) ls (rfv b o :: rest)) := r_get C hw ok12 ho 19 (by decide) kf_12_288 (by rw [mg_obj ho (by decide) (by decide)]; rfl) hd k
theorem gf_12_312 (C : Cx p s m args meth c D b cc nL RX12 ret) (hw : Hw D b μ H0 H locs) {o : Int} (ho : isK o 12) (hd : decode cc pc = .ok (.getfield 312, 3)) (k : W p l e R s m args below meth c H locs cells slots Q (F0 m (pc + 3) ls (.int (jI (μ o 20)) :: rest))) : W p l e R s m args below meth c H locs cells slots Q (F0 m (pc) ls (rfv b o :: rest)) := r_get C hw ok12 ho 20 (by decide) kf_12_312 (by rw [mg_obj ho (by decide) (by decide)]; rfl) hd k
theorem gf_12_365 (C : Cx p s m args meth c D b cc nL RX12 ret) (hw : Hw D b μ H0 H locs) {o : Int} (ho : isK o 12) (hd : decode cc pc = .ok (.getfield 365, 3)) (k : W p l e R s m args below meth c H locs cells slots Q (F0 m (pc + 3) ls (.int (jI (μ o 24)) :: rest))) : W p l e R s m args below meth c H locs cells slots Q (F0 m (pc) ls (rfv b o :: rest)) := r_get C hw ok12 ho 24 (by decide) kf_12_365 (by rw [mg_obj ho (by decide) (by decide)]; rfl) hd k
theorem pf_11_20 (C : Cx p s m args meth c D b cc nL RX11 ret) (hw : Hw D b μ H0 H locs) {o : Int} (ho : isK o 11) {z : Int} (hd : decode cc pc = .ok (.putfield 20, 3)) (k : ∀ (H : Heap) (locs : List Loc), Hw D b (ms μ o 4 z) H0 H locs → W p l e R s m args below meth c H locs cells slots Q (F0 m (pc + 3) ls (rest))) : W p l e R s m args below meth c H locs cells slots Q (F0 m (pc) ls (.int (jI z) :: rfv b o :: rest)) := r_put C hw ok11 ho 4 (by decide) kf_11_20 (by decide) (by decide) (z := z) rfl rfl rfl hd k
theorem pf_11_89 (C : Cx p s m args meth c D b cc nL RX11 ret) (hw : Hw D b μ H0 H locs) {o : Int} (ho : isK o 11) {z : Int} (hd : decode cc pc = .ok (.putfield 89, 3)) (k : ∀ (H : Heap) (locs : List Loc), Hw D b (ms μ o 1 z) H0 H locs → W p l e R s m args below meth c H locs cells slots Q (F0 m (pc + 3) ls (rest))) : W p l e R s m args below meth c H locs cells slots Q (F0 m (pc) ls (.int (jI z) :: rfv b o :: rest)) := r_put C hw ok11 ho 1 (by decide) kf_11_89 (by decide) (by decide) (z := z) rfl rfl rfl hd k
theorem pf_11_104 (C : Cx p s m args meth c D b cc nL RX11 ret) (hw : Hw D b μ H0 H locs) {o : Int} (ho : isK o 11) {z : Int} (hd : decode cc pc = .ok (.putfield 104, 3)) (k : ∀ (H : Heap) (locs : List Loc), Hw D b (ms μ o 3 z) H0 H locs → W p l e R s m args below meth c H locs cells slots Q (F0 m (pc + 3) ls (rest))) : W p l e R s m args below meth c H locs cells slots Q (F0 m (pc) ls (.int (jI z) :: rfv b o :: rest)) := r_put C hw ok11 ho 3 (by decide) kf_11_104 (by decide) (by decide) (z := z) rfl rfl rfl hd k
theorem pf_11_357 (C : Cx p s m args meth c D b cc nL RX11 ret) (hw : Hw D b μ H0 H locs) {o : Int} (ho : isK o 11) {z : Int} (hd : decode cc pc = .ok (.putfield 357, 3)) (k : ∀ (H : Heap) (locs : List Loc), Hw D b (ms μ o 10 z) H0 H locs → W p l e R s m args below meth c H locs cells slots Q (F0 m (pc + 3) ls (rest))) : W p l e R s m args below meth c H locs cells slots Q (F0 m (pc) ls (.int (jI z) :: rfv b o :: rest)) := r_put C hw ok11 ho 10 (by decide) kf_11_357 (by decide) (by decide) (z := z) rfl rfl rfl hd k
theorem pf_0_15 (C : Cx p s m args meth c D b cc nL RX0 ret) (hw : Hw D b μ H0 H locs) {o : Int} (ho : isK o 0) {z : Int} (hd : decode cc pc = .ok (.putfield 15, 3)) (k : ∀ (H : Heap) (locs : List Loc), Hw D b (ms μ o 0 z) H0 H locs → W p l e R s m args below meth c H locs cells slots Q (F0 m (pc + 3) ls (rest))) : W p l e R s m args below meth c H locs cells slots Q (F0 m (pc) ls (rfv b z :: rfv b o :: rest)) := r_put C hw ok0 ho 0 (by decide) kf_0_15 (by decide) (by decide) (z := z) rfl (nar_ref _ _) (fit_ref _ _) hd k
theorem pf_0_25 (C : Cx p s m args meth c D b cc nL RX0 ret) (hw : Hw D b μ H0 H locs) {o : Int} (ho : isK o 0) {z : Int} (hd : decode cc pc = .ok (.putfield 25, 3)) (k : ∀ (H : Heap) (locs : List Loc), Hw D b (ms μ o 1 z) H0 H locs → W p l e R s m args below meth c H locs cells slots Q (F0 m (pc + 3) ls (rest))) : W p l e R s m args below meth c H locs cells slots Q (F0 m (pc) ls (.int (jI z) :: rfv b o :: rest)) := r_put C hw ok0 ho 1 (by decide) kf_0_25 (by decide) (by decide) (z := z) rfl rfl rfl hd k
theorem pf_0_29 (C : Cx p s m args meth c D b cc nL RX0 ret) (hw : Hw D b μ H0 H locs) {o : Int} (ho : isK o 0) {z : Int} (hd : decode cc pc = .ok (.putfield 29, 3)) (k : ∀ (H : Heap) (locs : List Loc), Hw D b (ms μ o 2 z) H0 H locs → W p l e R s m args below meth c H locs cells slots Q (F0 m (pc + 3) ls (rest))) : W p l e R s m args below meth c H locs cells slots Q (F0 m (pc) ls (.int (jI z) :: rfv b o :: rest)) := r_put C hw ok0 ho 2 (by decide) kf_0_29 (by decide) (by decide) (z := z) rfl rfl rfl hd k
theorem pf_0_33 (C : Cx p s m args meth c D b cc nL RX0 ret) (hw : Hw D b μ H0 H locs) {o : Int} (ho : isK o 0) {z : Int} (hd : decode cc pc = .ok (.putfield 33, 3)) (k : ∀ (H : Heap) (locs : List Loc), Hw D b (ms μ o 3 z) H0 H locs → W p l e R s m args below meth c H locs cells slots Q (F0 m (pc + 3) ls (rest))) : W p l e R s m args below meth c H locs cells slots Q (F0 m (pc) ls (.int (jI z) :: rfv b o :: rest)) := r_put C hw ok0 ho 3 (by decide) kf_0_33 (by decide) (by decide) (z := z) rfl rfl rfl hd k
theorem pf_0_34 (C : Cx p s m args meth c D b cc nL RX0 ret) (hw : Hw D b μ H0 H locs) {o : Int} (ho : isK o 0) {z : Int} (hd : decode cc pc = .ok (.putfield 34, 3)) (k : ∀ (H : Heap) (locs : List Loc), Hw D b (ms μ o 4 z) H0 H locs → W p l e R s m args below meth c H locs cells slots Q (F0 m (pc + 3) ls (rest))) : W p l e R s m args below meth c H locs cells slots Q (F0 m (pc) ls (.int (jI z) :: rfv b o :: rest)) := r_put C hw ok0 ho 4 (by decide) kf_0_34 (by decide) (by decide) (z := z) rfl rfl rfl hd k
theorem pf_2_20 (C : Cx p s m args meth c D b cc nL RX2 ret) (hw : Hw D b μ H0 H locs) {o : Int} (ho : isK o 2) {z : Int} (hd : decode cc pc = .ok (.putfield 20, 3)) (k : ∀ (H : Heap) (locs : List Loc), Hw D b (ms μ o 2 z) H0 H locs → W p l e R s m args below meth c H locs cells slots Q (F0 m (pc + 3) ls (rest))) : W p l e R s m args below meth c H locs cells slots Q (F0 m (pc) ls (.int (jI z) :: rfv b o :: rest)) := r_put C hw ok2 ho 2 (by decide) kf_2_20 (by decide) (by decide) (z := z) rfl rfl rfl hd k
theorem pf_2_24 (C : Cx p s m args meth c D b cc nL RX2 ret) (hw : Hw D b μ H0 H locs) {o : Int} (ho : isK o 2) {z : Int} (hd : decode cc pc = .ok (.putfield 24, 3)) (k : ∀ (H : Heap) (locs : List Loc), Hw D b (ms μ o 1 z) H0 H locs → W p l e R s m args below meth c H locs cells slots Q (F0 m (pc + 3) ls (rest))) : W p l e R s m args below meth c H locs cells slots Q (F0 m (pc) ls (.int (jI z) :: rfv b o :: rest)) := r_put C hw ok2 ho 1 (by decide) kf_2_24 (by decide) (by decide) (z := z) rfl rfl rfl hd k
theorem pf_3_37 (C : Cx p s m args meth c D b cc nL RX3 ret) (hw : Hw D b μ H0 H locs) {o : Int} (ho : isK o 3) {z : Int} (hd : decode cc pc = .ok (.putfield 37, 3)) (k : ∀ (H : Heap) (locs : List Loc), Hw D b (ms μ o 0 z) H0 H locs → W p l e R s m args below meth c H locs cells slots Q (F0 m (pc + 3) ls (rest))) : W p l e R s m args below meth c H locs cells slots Q (F0 m (pc) ls (.int (jI z) :: rfv b o :: rest)) := r_put C hw ok3 ho 0 (by decide) kf_3_37 (by decide) (by decide) (z := z) rfl rfl rfl hd k
theorem pf_3_41 (C : Cx p s m args meth c D b cc nL RX3 ret) (hw : Hw D b μ H0 H locs) {o : Int} (ho : isK o 3) {z : Int} (hd : decode cc pc = .ok (.putfield 41, 3)) (k : ∀ (H : Heap) (locs : List Loc), Hw D b (ms μ o 1 z) H0 H locs → W p l e R s m args below meth c H locs cells slots Q (F0 m (pc + 3) ls (rest))) : W p l e R s m args below meth c H locs cells slots Q (F0 m (pc) ls (.int (jI z) :: rfv b o :: rest)) := r_put C hw ok3 ho 1 (by decide) kf_3_41 (by decide) (by decide) (z := z) rfl rfl rfl hd k
theorem pf_3_44 (C : Cx p s m args meth c D b cc nL RX3 ret) (hw : Hw D b μ H0 H locs) {o : Int} (ho : isK o 3) {z : Int} (hd : decode cc pc = .ok (.putfield 44, 3)) (k : ∀ (H : Heap) (locs : List Loc), Hw D b (ms μ o 2 z) H0 H locs → W p l e R s m args below meth c H locs cells slots Q (F0 m (pc + 3) ls (rest))) : W p l e R s m args below meth c H locs cells slots Q (F0 m (pc) ls (.int (jI z) :: rfv b o :: rest)) := r_put C hw ok3 ho 2 (by decide) kf_3_44 (by decide) (by decide) (z := z) rfl rfl rfl hd k
theorem pf_3_47 (C : Cx p s m args meth c D b cc nL RX3 ret) (hw : Hw D b μ H0 H locs) {o : Int} (ho : isK o 3) {z : Int} (hd : decode cc pc = .ok (.putfield 47, 3)) (k : ∀ (H : Heap) (locs : List Loc), Hw D b (ms μ o 3 z) H0 H locs → W p l e R s m args below meth c H locs cells slots Q (F0 m (pc + 3) ls (rest))) : W p l e R s m args below meth c H locs cells slots Q (F0 m (pc) ls (.int (jI z) :: rfv b o :: rest)) := r_put C hw ok3 ho 3 (by decide) kf_3_47 (by decide) (by decide) (z := z) rfl rfl rfl hd k
theorem pf_3_50 (C : Cx p s m args meth c D b cc nL RX3 ret) (hw : Hw D b μ H0 H locs) {o : Int} (ho : isK o 3) {z : Int} (hd : decode cc pc = .ok (.putfield 50, 3)) (k : ∀ (H : Heap) (locs : List Loc), Hw D b (ms μ o 4 z) H0 H locs → W p l e R s m args below meth c H locs cells slots Q (F0 m (pc + 3) ls (rest))) : W p l e R s m args below meth c H locs cells slots Q (F0 m (pc) ls (.int (jI z) :: rfv b o :: rest)) := r_put C hw ok3 ho 4 (by decide) kf_3_50 (by decide) (by decide) (z := z) rfl rfl rfl hd k
theorem pf_3_53 (C : Cx p s m args meth c D b cc nL RX3 ret) (hw : Hw D b μ H0 H locs) {o : Int} (ho : isK o 3) {z : Int} (hd : decode cc pc = .ok (.putfield 53, 3)) (k : ∀ (H : Heap) (locs : List Loc), Hw D b (ms μ o 5 z) H0 H locs → W p l e R s m args below meth c H locs cells slots Q (F0 m (pc + 3) ls (rest))) : W p l e R s m args below meth c H locs cells slots Q (F0 m (pc) ls (.int (jI z) :: rfv b o :: rest)) := r_put C hw ok3 ho 5 (by decide) kf_3_53 (by decide) (by decide) (z := z) rfl rfl rfl hd k
theorem pf_3_56 (C : Cx p s m args meth c D b cc nL RX3 ret) (hw : Hw D b μ H0 H locs) {o : Int} (ho : isK o 3) {z : Int} (hd : decode cc pc = .ok (.putfield 56, 3)) (k : ∀ (H : Heap) (locs : List Loc), Hw D b (ms μ o 6 z) H0 H locs → W p l e R s m args below meth c H locs cells slots Q (F0 m (pc + 3) ls (rest))) : W p l e R s m args below meth c H locs cells slots Q (F0 m (pc) ls (.int (jI z) :: rfv b o :: rest)) := r_put C hw ok3 ho 6 (by decide) kf_3_56 (by decide) (by decide) (z := z) rfl rfl rfl hd k
theorem pf_3_59 (C : Cx p s m args meth c D b cc nL RX3 ret) (hw : Hw D b μ H0 H locs) {o : Int} (ho : isK o 3) {z : Int} (hd : decode cc pc = .ok (.putfield 59, 3)) (k : ∀ (H : Heap) (locs : List Loc), Hw D b (ms μ o 7 z) H0 H locs → W p l e R s m args below meth c H locs cells slots Q (F0 m (pc + 3) ls (rest))) : W p l e R s m args below meth c H locs cells slots Q (F0 m (pc) ls (.int (jI z) :: rfv b o :: rest)) := r_put C hw ok3 ho 7 (by decide) kf_3_59 (by decide) (by decide) (z := z) rfl rfl rfl hd k
theorem pf_4_27 (C : Cx p s m args meth c D b cc nL RX4 ret) (hw : Hw D b μ H0 H locs) {o : Int} (ho : isK o 4) {z : Int} (hd : decode cc pc = .ok (.putfield 27, 3)) (k : ∀ (H : Heap) (locs : List Loc), Hw D b (ms μ o 1 z) H0 H locs → W p l e R s m args below meth c H locs cells slots Q (F0 m (pc + 3) ls (rest))) : W p l e R s m args below meth c H locs cells slots Q (F0 m (pc) ls (.int (jI z) :: rfv b o :: rest)) := r_put C hw ok4 ho 1 (by decide) kf_4_27 (by decide) (by decide) (z := z) rfl rfl rfl hd k
theorem pf_4_37 (C : Cx p s m args meth c D b cc nL RX4 ret) (hw : Hw D b μ H0 H locs) {o : Int} (ho : isK o 4) {z : Int} (hd : decode cc pc = .ok (.putfield 37, 3)) (k : ∀ (H : Heap) (locs : List Loc), Hw D b (ms μ o 6 z) H0 H locs → W p l e R s m args below meth c H locs cells slots Q (F0 m (pc + 3) ls (rest))) : W p l e R s m args below meth c H locs cells slots Q (F0 m (pc) ls (.int (jI z) :: rfv b o :: rest)) := r_put C hw ok4 ho 6 (by decide) kf_4_37 (by decide) (by decide) (z := z) rfl rfl rfl hd k
theorem pf_5_9 (C : Cx p s m args meth c D b cc nL RX5 ret) (hw : Hw D b μ H0 H locs) {o : Int} (ho : isK o 5) {z : Int} (hd : decode cc pc = .ok (.putfield 9, 3)) (k : ∀ (H : Heap) (locs : List Loc), Hw D b (ms μ o 0 z) H0 H locs → W p l e R s m args below meth c H locs cells slots Q (F0 m (pc + 3) ls (rest))) : W p l e R s m args below meth c H locs cells slots Q (F0 m (pc) ls (rfv b z :: rfv b o :: rest)) := r_put C hw ok5 ho 0 (by decide) kf_5_9 (by decide) (by decide) (z := z) rfl (nar_arr _ _) (fit_arr _ _) hd k
theorem pf_5_15 (C : Cx p s m args meth c D b cc nL RX5 ret) (hw : Hw D b μ H0 H locs) {o : Int} (ho : isK o 5) {z : Int} (hd : decode cc pc = .ok (.putfield 15, 3)) (k : ∀ (H : Heap) (locs : List Loc), Hw D b (ms μ o 1 z) H0 H locs → W p l e R s m args below meth c H locs cells slots Q (F0 m (pc + 3) ls (rest))) : W p l e R s m args below meth c H locs cells slots Q (F0 m (pc) ls (rfv b z :: rfv b o :: rest)) := r_put C hw ok5 ho 1 (by decide) kf_5_15 (by decide) (by decide) (z := z) rfl (nar_arr _ _) (fit_arr _ _) hd k
theorem pf_5_18 (C : Cx p s m args meth c D b cc nL RX5 ret) (hw : Hw D b μ H0 H locs) {o : Int} (ho : isK o 5) {z : Int} (hd : decode cc pc = .ok (.putfield 18, 3)) (k : ∀ (H : Heap) (locs : List Loc), Hw D b (ms μ o 2 z) H0 H locs → W p l e R s m args below meth c H locs cells slots Q (F0 m (pc + 3) ls (rest))) : W p l e R s m args below meth c H locs cells slots Q (F0 m (pc) ls (.int (jI z) :: rfv b o :: rest)) := r_put C hw ok5 ho 2 (by decide) kf_5_18 (by decide) (by decide) (z := z) rfl rfl rfl hd k
theorem pf_7_18 (C : Cx p s m args meth c D b cc nL RX7 ret) (hw : Hw D b μ H0 H locs) {o : Int} (ho : isK o 7) {z : Int} (hd : decode cc pc = .ok (.putfield 18, 3)) (k : ∀ (H : Heap) (locs : List Loc), Hw D b (ms μ o 2 z) H0 H locs → W p l e R s m args below meth c H locs cells slots Q (F0 m (pc + 3) ls (rest))) : W p l e R s m args below meth c H locs cells slots Q (F0 m (pc) ls (.int (jI z) :: rfv b o :: rest)) := r_put C hw ok7 ho 2 (by decide) kf_7_18 (by decide) (by decide) (z := z) rfl rfl rfl hd k
theorem pf_7_22 (C : Cx p s m args meth c D b cc nL RX7 ret) (hw : Hw D b μ H0 H locs) {o : Int} (ho : isK o 7) {z : Int} (hd : decode cc pc = .ok (.putfield 22, 3)) (k : ∀ (H : Heap) (locs : List Loc), Hw D b (ms μ o 3 z) H0 H locs → W p l e R s m args below meth c H locs cells slots Q (F0 m (pc + 3) ls (rest))) : W p l e R s m args below meth c H locs cells slots Q (F0 m (pc) ls (.int (jI z) :: rfv b o :: rest)) := r_put C hw ok7 ho 3 (by decide) kf_7_22 (by decide) (by decide) (z := z) rfl rfl rfl hd k
theorem pf_7_25 (C : Cx p s m args meth c D b cc nL RX7 ret) (hw : Hw D b μ H0 H locs) {o : Int} (ho : isK o 7) {z : Int} (hd : decode cc pc = .ok (.putfield 25, 3)) (k : ∀ (H : Heap) (locs : List Loc), Hw D b (ms μ o 1 z) H0 H locs → W p l e R s m args below meth c H locs cells slots Q (F0 m (pc + 3) ls (rest))) : W p l e R s m args below meth c H locs cells slots Q (F0 m (pc) ls (rfv b z :: rfv b o :: rest)) := r_put C hw ok7 ho 1 (by decide) kf_7_25 (by decide) (by decide) (z := z) rfl (nar_ref _ _) (fit_ref _ _) hd k
theorem pf_7_61 (C : Cx p s m args meth c D b cc nL RX7 ret) (hw : Hw D b μ H0 H locs) {o : Int} (ho : isK o 7) {z : Int} (hd : decode cc pc = .ok (.putfield 61, 3)) (k : ∀ (H : Heap) (locs : List Loc), Hw D b (ms μ o 4 z) H0 H locs → W p l e R s m args below meth c H locs cells slots Q (F0 m (pc + 3) ls (rest))) : W p l e R s m args below meth c H locs cells slots Q (F0 m (pc) ls (.int (jI z) :: rfv b o :: rest)) := r_put C hw ok7 ho 4 (by decide) kf_7_61 (by decide) (by decide) (z := z) rfl rfl rfl hd k
theorem pf_7_67 (C : Cx p s m args meth c D b cc nL RX7 ret) (hw : Hw D b μ H0 H locs) {o : Int} (ho : isK o 3) {z : Int} (hd : decode cc pc = .ok (.putfield 67, 3)) (k : ∀ (H : Heap) (locs : List Loc), Hw D b (ms μ o 3 z) H0 H locs → W p l e R s m args below meth c H locs cells slots Q (F0 m (pc + 3) ls (rest))) : W p l e R s m args below meth c H locs cells slots Q (F0 m (pc) ls (.int (jI z) :: rfv b o :: rest)) := r_put C hw ok3 ho 3 (by decide) kf_7_67 (by decide) (by decide) (z := z) rfl rfl rfl hd k
theorem pf_7_74 (C : Cx p s m args meth c D b cc nL RX7 ret) (hw : Hw D b μ H0 H locs) {o : Int} (ho : isK o 3) {z : Int} (hd : decode cc pc = .ok (.putfield 74, 3)) (k : ∀ (H : Heap) (locs : List Loc), Hw D b (ms μ o 0 z) H0 H locs → W p l e R s m args below meth c H locs cells slots Q (F0 m (pc + 3) ls (rest))) : W p l e R s m args below meth c H locs cells slots Q (F0 m (pc) ls (.int (jI z) :: rfv b o :: rest)) := r_put C hw ok3 ho 0 (by decide) kf_7_74 (by decide) (by decide) (z := z) rfl rfl rfl hd k
theorem pf_7_98 (C : Cx p s m args meth c D b cc nL RX7 ret) (hw : Hw D b μ H0 H locs) {o : Int} (ho : isK o 3) {z : Int} (hd : decode cc pc = .ok (.putfield 98, 3)) (k : ∀ (H : Heap) (locs : List Loc), Hw D b (ms μ o 1 z) H0 H locs → W p l e R s m args below meth c H locs cells slots Q (F0 m (pc + 3) ls (rest))) : W p l e R s m args below meth c H locs cells slots Q (F0 m (pc) ls (.int (jI z) :: rfv b o :: rest)) := r_put C hw ok3 ho 1 (by decide) kf_7_98 (by decide) (by decide) (z := z) rfl rfl rfl hd k
theorem pf_7_120 (C : Cx p s m args meth c D b cc nL RX7 ret) (hw : Hw D b μ H0 H locs) {o : Int} (ho : isK o 3) {z : Int} (hd : decode cc pc = .ok (.putfield 120, 3)) (k : ∀ (H : Heap) (locs : List Loc), Hw D b (ms μ o 4 z) H0 H locs → W p l e R s m args below meth c H locs cells slots Q (F0 m (pc + 3) ls (rest))) : W p l e R s m args below meth c H locs cells slots Q (F0 m (pc) ls (.int (jI z) :: rfv b o :: rest)) := r_put C hw ok3 ho 4 (by decide) kf_7_120 (by decide) (by decide) (z := z) rfl rfl rfl hd k
theorem pf_7_123 (C : Cx p s m args meth c D b cc nL RX7 ret) (hw : Hw D b μ H0 H locs) {o : Int} (ho : isK o 3) {z : Int} (hd : decode cc pc = .ok (.putfield 123, 3)) (k : ∀ (H : Heap) (locs : List Loc), Hw D b (ms μ o 5 z) H0 H locs → W p l e R s m args below meth c H locs cells slots Q (F0 m (pc + 3) ls (rest))) : W p l e R s m args below meth c H locs cells slots Q (F0 m (pc) ls (.int (jI z) :: rfv b o :: rest)) := r_put C hw ok3 ho 5 (by decide) kf_7_123 (by decide) (by decide) (z := z) rfl rfl rfl hd k
theorem pf_7_126 (C : Cx p s m args meth c D b cc nL RX7 ret) (hw : Hw D b μ H0 H locs) {o : Int} (ho : isK o 3) {z : Int} (hd : decode cc pc = .ok (.putfield 126, 3)) (k : ∀ (H : Heap) (locs : List Loc), Hw D b (ms μ o 2 z) H0 H locs → W p l e R s m args below meth c H locs cells slots Q (F0 m (pc + 3) ls (rest))) : W p l e R s m args below meth c H locs cells slots Q (F0 m (pc) ls (.int (jI z) :: rfv b o :: rest)) := r_put C hw ok3 ho 2 (by decide) kf_7_126 (by decide) (by decide) (z := z) rfl rfl rfl hd k
theorem pf_7_132 (C : Cx p s m args meth c D b cc nL RX7 ret) (hw : Hw D b μ H0 H locs) {o : Int} (ho : isK o 3) {z : Int} (hd : decode cc pc = .ok (.putfield 132, 3)) (k : ∀ (H : Heap) (locs : List Loc), Hw D b (ms μ o 7 z) H0 H locs → W p l e R s m args below meth c H locs cells slots Q (F0 m (pc + 3) ls (rest))) : W p l e R s m args below meth c H locs cells slots Q (F0 m (pc) ls (.int (jI z) :: rfv b o :: rest)) := r_put C hw ok3 ho 7 (by decide) kf_7_132 (by decide) (by decide) (z := z) rfl rfl rfl hd k
theorem pf_7_135 (C : Cx p s m args meth c D b cc nL RX7 ret) (hw : Hw D b μ H0 H locs) {o : Int} (ho : isK o 3) {z : Int} (hd : decode cc pc = .ok (.putfield 135, 3)) (k : ∀ (H : Heap) (locs : List Loc), Hw D b (ms μ o 6 z) H0 H locs → W p l e R s m args below meth c H locs cells slots Q (F0 m (pc + 3) ls (rest))) : W p l e R s m args below meth c H locs cells slots Q (F0 m (pc) ls (.int (jI z) :: rfv b o :: rest)) := r_put C hw ok3 ho 6 (by decide) kf_7_135 (by decide) (by decide) (z := z) rfl rfl rfl hd k
theorem pf_7_138 (C : Cx p s m args meth c D b cc nL RX7 ret) (hw : Hw D b μ H0 H locs) {o : Int} (ho : isK o 7) {z : Int} (hz : isB z) (hd : decode cc pc = .ok (.putfield 138, 3)) (k : ∀ (H : Heap) (locs : List Loc), Hw D b (ms μ o 5 z) H0 H locs → W p l e R s m args below meth c H locs cells slots Q (F0 m (pc + 3) ls (rest))) : W p l e R s m args below meth c H locs cells slots Q (F0 m (pc) ls (.int (jI z) :: rfv b o :: rest)) := r_put C hw ok7 ho 5 (by decide) kf_7_138 (by decide) (by decide) (z := z) rfl (isB_nar hz).1 (isB_nar hz).2 hd k
theorem pf_8_31 (C : Cx p s m args meth c D b cc nL RX8 ret) (hw : Hw D b μ H0 H locs) {o : Int} (ho : isK o 8) {z : Int} (hd : decode cc pc = .ok (.putfield 31, 3)) (k : ∀ (H : Heap) (locs : List Loc), Hw D b (ms μ o 4 z) H0 H locs → W p l e R s m args below meth c H locs cells slots Q (F0 m (pc + 3) ls (rest))) : W p l e R s m args below meth c H locs cells slots Q (F0 m (pc) ls (rfv b z :: rfv b o :: rest)) := r_put C hw ok8 ho 4 (by decide) kf_8_31 (by decide) (by decide) (z := z) rfl (nar_ref _ _) (fit_ref _ _) hd k
theorem pf_8_32 (C : Cx p s m args meth c D b cc nL RX8 ret) (hw : Hw D b μ H0 H locs) {o : Int} (ho : isK o 8) {z : Int} (hd : decode cc pc = .ok (.putfield 32, 3)) (k : ∀ (H : Heap) (locs : List Loc), Hw D b (ms μ o 5 z) H0 H locs → W p l e R s m args below meth c H locs cells slots Q (F0 m (pc + 3) ls (rest))) : W p l e R s m args below meth c H locs cells slots Q (F0 m (pc) ls (rfv b z :: rfv b o :: rest)) := r_put C hw ok8 ho 5 (by decide) kf_8_32 (by decide) (by decide) (z := z) rfl (nar_ref _ _) (fit_ref _ _) hd k
theorem pf_8_36 (C : Cx p s m args meth c D b cc nL RX8 ret) (hw : Hw D b μ H0 H locs) {o : Int} (ho : isK o 8) {z : Int} (hd : decode cc pc = .ok (.putfield 36, 3)) (k : ∀ (H : Heap) (locs : List Loc), Hw D b (ms μ o 6 z) H0 H locs → W p l e R s m args below meth c H locs cells slots Q (F0 m (pc + 3) ls (rest))) : W p l e R s m args below meth c H locs cells slots Q (F0 m (pc) ls (.int (jI z) :: rfv b o :: rest)) := r_put C hw ok8 ho 6 (by decide) kf_8_36 (by decide) (by decide) (z := z) rfl rfl rfl hd k
theorem pf_9_15 (C : Cx p s m args meth c D b cc nL RX9 ret) (hw : Hw D b μ H0 H locs) {o : Int} (ho : isK o 9) {z : Int} (hd : decode cc pc = .ok (.putfield 15, 3)) (k : ∀ (H : Heap) (locs : List Loc), Hw D b (ms μ o 3 z) H0 H locs → W p l e R s m args below meth c H locs cells slots Q (F0 m (pc + 3) ls (rest))) : W p l e R s m args below meth c H locs cells slots Q (F0 m (pc) ls (rfv b z :: rfv b o :: rest)) := r_put C hw ok9 ho 3 (by decide) kf_9_15 (by decide) (by decide) (z := z) rfl (nar_arr _ _) (fit_arr _ _) hd k
theorem pf_9_25 (C : Cx p s m args meth c D b cc nL RX9 ret) (hw : Hw D b μ H0 H locs) {o : Int} (ho : isK o 9) {z : Int} (hd : decode cc pc = .ok (.putfield 25, 3)) (k : ∀ (H : Heap) (locs : List Loc), Hw D b (ms μ o 4 z) H0 H locs → W p l e R s m args below meth c H locs cells slots Q (F0 m (pc + 3) ls (rest))) : W p l e R s m args below meth c H locs cells slots Q (F0 m (pc) ls (.int (jI z) :: rfv b o :: rest)) := r_put C hw ok9 ho 4 (by decide) kf_9_25 (by decide) (by decide) (z := z) rfl rfl rfl hd k
theorem pf_9_29 (C : Cx p s m args meth c D b cc nL RX9 ret) (hw : Hw D b μ H0 H locs) {o : Int} (ho : isK o 9) {z : Int} (hd : decode cc pc = .ok (.putfield 29, 3)) (k : ∀ (H : Heap) (locs : List Loc), Hw D b (ms μ o 6 z) H0 H locs → W p l e R s m args below meth c H locs cells slots Q (F0 m (pc + 3) ls (rest))) : W p l e R s m args below meth c H locs cells slots Q (F0 m (pc) ls (.int (jI z) :: rfv b o :: rest)) := r_put C hw ok9 ho 6 (by decide) kf_9_29 (by decide) (by decide) (z := z) rfl rfl rfl hd k
theorem pf_9_60 (C : Cx p s m args meth c D b cc nL RX9 ret) (hw : Hw D b μ H0 H locs) {o : Int} (ho : isK o 9) {z : Int} (hd : decode cc pc = .ok (.putfield 60, 3)) (k : ∀ (H : Heap) (locs : List Loc), Hw D b (ms μ o 7 z) H0 H locs → W p l e R s m args below meth c H locs cells slots Q (F0 m (pc + 3) ls (rest))) : W p l e R s m args below meth c H locs cells slots Q (F0 m (pc) ls (.int (jI z) :: rfv b o :: rest)) := r_put C hw ok9 ho 7 (by decide) kf_9_60 (by decide) (by decide) (z := z) rfl rfl rfl hd k
theorem pf_9_66 (C : Cx p s m args meth c D b cc nL RX9 ret) (hw : Hw D b μ H0 H locs) {o : Int} (ho : isK o 9) {z : Int} (hd : decode cc pc = .ok (.putfield 66, 3)) (k : ∀ (H : Heap) (locs : List Loc), Hw D b (ms μ o 0 z) H0 H locs → W p l e R s m args below meth c H locs cells slots Q (F0 m (pc + 3) ls (rest))) : W p l e R s m args below meth c H locs cells slots Q (F0 m (pc) ls (.int (jI z) :: rfv b o :: rest)) := r_put C hw ok9 ho 0 (by decide) kf_9_66 (by decide) (by decide) (z := z) rfl rfl rfl hd k
theorem pf_9_69 (C : Cx p s m args meth c D b cc nL RX9 ret) (hw : Hw D b μ H0 H locs) {o : Int} (ho : isK o 9) {z : Int} (hd : decode cc pc = .ok (.putfield 69, 3)) (k : ∀ (H : Heap) (locs : List Loc), Hw D b (ms μ o 1 z) H0 H locs → W p l e R s m args below meth c H locs cells slots Q (F0 m (pc + 3) ls (rest))) : W p l e R s m args below meth c H locs cells slots Q (F0 m (pc) ls (.int (jI z) :: rfv b o :: rest)) := r_put C hw ok9 ho 1 (by decide) kf_9_69 (by decide) (by decide) (z := z) rfl rfl rfl hd k
theorem pf_9_72 (C : Cx p s m args meth c D b cc nL RX9 ret) (hw : Hw D b μ H0 H locs) {o : Int} (ho : isK o 9) {z : Int} (hd : decode cc pc = .ok (.putfield 72, 3)) (k : ∀ (H : Heap) (locs : List Loc), Hw D b (ms μ o 2 z) H0 H locs → W p l e R s m args below meth c H locs cells slots Q (F0 m (pc + 3) ls (rest))) : W p l e R s m args below meth c H locs cells slots Q (F0 m (pc) ls (.int (jI z) :: rfv b o :: rest)) := r_put C hw ok9 ho 2 (by decide) kf_9_72 (by decide) (by decide) (z := z) rfl rfl rfl hd k
theorem pf_10_9 (C : Cx p s m args meth c D b cc nL RX10 ret) (hw : Hw D b μ H0 H locs) {o : Int} (ho : isK o 10) {z : Int} (hz : isB z) (hd : decode cc pc = .ok (.putfield 9, 3)) (k : ∀ (H : Heap) (locs : List Loc), Hw D b (ms μ o 0 z) H0 H locs → W p l e R s m args below meth c H locs cells slots Q (F0 m (pc + 3) ls (rest))) : W p l e R s m args below meth c H locs cells slots Q (F0 m (pc) ls (.int (jI z) :: rfv b o :: rest)) := r_put C hw ok10 ho 0 (by decide) kf_10_9 (by decide) (by decide) (z := z) rfl (isB_nar hz).1 (isB_nar hz).2 hd k
theorem pf_10_19 (C : Cx p s m args meth c D b cc nL RX10 ret) (hw : Hw D b μ H0 H locs) {o : Int} (ho : isK o 10) {z : Int} (hd : decode cc pc = .ok (.putfield 19, 3)) (k : ∀ (H : Heap) (locs : List Loc), Hw D b (ms μ o 2 z) H0 H locs → W p l e R s m args below meth c H locs cells slots Q (F0 m (pc + 3) ls (rest))) : W p l e R s m args below meth c H locs cells slots Q (F0 m (pc) ls (.int (jI z) :: rfv b o :: rest)) := r_put C hw ok10 ho 2 (by decide) kf_10_19 (by decide) (by decide) (z := z) rfl rfl rfl hd k
theorem pf_10_23 (C : Cx p s m args meth c D b cc nL RX10 ret) (hw : Hw D b μ H0 H locs) {o : Int} (ho : isK o 10) {z : Int} (hd : decode cc pc = .ok (.putfield 23, 3)) (k : ∀ (H : Heap) (locs : List Loc), Hw D b (ms μ o 1 z) H0 H locs → W p l e R s m args below meth c H locs cells slots Q (F0 m (pc + 3) ls (rest))) : W p l e R s m args below meth c H locs cells slots Q (F0 m (pc) ls (.int (jI z) :: rfv b o :: rest)) := r_put C hw ok10 ho 1 (by decide) kf_10_23 (by decide) (by decide) (z := z) rfl rfl rfl hd k
theorem pf_12_1 (C : Cx p s m args meth c D b cc nL RX12 ret) (hw : Hw D b μ H0 H locs) {o : Int} (ho : isK o 12) {z : Int} (hd : decode cc pc = .ok (.putfield 1, 3)) (k : ∀ (H : Heap) (locs : List Loc), Hw D b (ms μ o 0 z) H0 H locs → W p l e R s m args below meth c H locs cells slots Q (F0 m (pc + 3) ls (rest))) : W p l e R s m args below meth c H locs cells slots Q (F0 m (pc) ls (.int (jI z) :: rfv b o :: rest)) := r_put C hw ok12 ho 0 (by decide) kf_12_1 (by decide) (by decide) (z := z) rfl rfl rfl hd k
theorem pf_12_27 (C : Cx p s m args meth c D b cc nL RX12 ret) (hw : Hw D b μ H0 H locs) {o : Int} (ho : isK o 12) {z : Int} (hd : decode cc pc = .ok (.putfield 27, 3)) (k : ∀ (H : Heap) (locs : List Loc), Hw D b (ms μ o 14 z) H0 H locs → W p l e R s m args below meth c H locs cells slots Q (F0 m (pc + 3) ls (rest))) : W p l e R s m args below meth c H locs cells slots Q (F0 m (pc) ls (.int (jI z) :: rfv b o :: rest)) := r_put C hw ok12 ho 14 (by decide) kf_12_27 (by decide) (by decide) (z := z) rfl rfl rfl hd k
theorem pf_12_74 (C : Cx p s m args meth c D b cc nL RX12 ret) (hw : Hw D b μ H0 H locs) {o : Int} (ho : isK o 12) {z : Int} (hd : decode cc pc = .ok (.putfield 74, 3)) (k : ∀ (H : Heap) (locs : List Loc), Hw D b (ms μ o 5 z) H0 H locs → W p l e R s m args below meth c H locs cells slots Q (F0 m (pc + 3) ls (rest))) : W p l e R s m args below meth c H locs cells slots Q (F0 m (pc) ls (.int (jI z) :: rfv b o :: rest)) := r_put C hw ok12 ho 5 (by decide) kf_12_74 (by decide) (by decide) (z := z) rfl rfl rfl hd k
theorem pf_12_77 (C : Cx p s m args meth c D b cc nL RX12 ret) (hw : Hw D b μ H0 H locs) {o : Int} (ho : isK o 12) {z : Int} (hd : decode cc pc = .ok (.putfield 77, 3)) (k : ∀ (H : Heap) (locs : List Loc), Hw D b (ms μ o 8 z) H0 H locs → W p l e R s m args below meth c H locs cells slots Q (F0 m (pc + 3) ls (rest))) : W p l e R s m args below meth c H locs cells slots Q (F0 m (pc) ls (.int (jI z) :: rfv b o :: rest)) := r_put C hw ok12 ho 8 (by decide) kf_12_77 (by decide) (by decide) (z := z) rfl rfl rfl hd k
theorem pf_12_92 (C : Cx p s m args meth c D b cc nL RX12 ret) (hw : Hw D b μ H0 H locs) {o : Int} (ho : isK o 12) {z : Int} (hd : decode cc pc = .ok (.putfield 92, 3)) (k : ∀ (H : Heap) (locs : List Loc), Hw D b (ms μ o 6 z) H0 H locs → W p l e R s m args below meth c H locs cells slots Q (F0 m (pc + 3) ls (rest))) : W p l e R s m args below meth c H locs cells slots Q (F0 m (pc) ls (.int (jI z) :: rfv b o :: rest)) := r_put C hw ok12 ho 6 (by decide) kf_12_92 (by decide) (by decide) (z := z) rfl rfl rfl hd k
theorem pf_12_95 (C : Cx p s m args meth c D b cc nL RX12 ret) (hw : Hw D b μ H0 H locs) {o : Int} (ho : isK o 12) {z : Int} (hd : decode cc pc = .ok (.putfield 95, 3)) (k : ∀ (H : Heap) (locs : List Loc), Hw D b (ms μ o 7 z) H0 H locs → W p l e R s m args below meth c H locs cells slots Q (F0 m (pc + 3) ls (rest))) : W p l e R s m args below meth c H locs cells slots Q (F0 m (pc) ls (.int (jI z) :: rfv b o :: rest)) := r_put C hw ok12 ho 7 (by decide) kf_12_95 (by decide) (by decide) (z := z) rfl rfl rfl hd k
theorem pf_12_102 (C : Cx p s m args meth c D b cc nL RX12 ret) (hw : Hw D b μ H0 H locs) {o : Int} (ho : isK o 12) {z : Int} (hd : decode cc pc = .ok (.putfield 102, 3)) (k : ∀ (H : Heap) (locs : List Loc), Hw D b (ms μ o 9 z) H0 H locs → W p l e R s m args below meth c H locs cells slots Q (F0 m (pc + 3) ls (rest))) : W p l e R s m args below meth c H locs cells slots Q (F0 m (pc) ls (.int (jI z) :: rfv b o :: rest)) := r_put C hw ok12 ho 9 (by decide) kf_12_102 (by decide) (by decide) (z := z) rfl rfl rfl hd k
theorem pf_12_115 (C : Cx p s m args meth c D b cc nL RX12 ret) (hw : Hw D b μ H0 H locs) {o : Int} (ho : isK o 12) {z : Int} (hd : decode cc pc = .ok (.putfield 115, 3)) (k : ∀ (H : Heap) (locs : List Loc), Hw D b (ms μ o 10 z) H0 H locs → W p l e R s m args below meth c H locs cells slots Q (F0 m (pc + 3) ls (rest))) : W p l e R s m args below meth c H locs cells slots Q (F0 m (pc) ls (.int (jI z) :: rfv b o :: rest)) := r_put C hw ok12 ho 10 (by decide) kf_12_115 (by decide) (by decide) (z := z) rfl rfl rfl hd k
theorem pf_12_120 (C : Cx p s m args meth c D b cc nL RX12 ret) (hw : Hw D b μ H0 H locs) {o : Int} (ho : isK o 12) {z : Int} (hd : decode cc pc = .ok (.putfield 120, 3)) (k : ∀ (H : Heap) (locs : List Loc), Hw D b (ms μ o 11 z) H0 H locs → W p l e R s m args below meth c H locs cells slots Q (F0 m (pc + 3) ls (rest))) : W p l e R s m args below meth c H locs cells slots Q (F0 m (pc) ls (.int (jI z) :: rfv b o :: rest)) := r_put C hw ok12 ho 11 (by decide) kf_12_120 (by decide) (by decide) (z := z) rfl rfl rfl hd k
theorem pf_12_123 (C : Cx p s m args meth c D b cc nL RX12 ret) (hw : Hw D b μ H0 H locs) {o : Int} (ho : isK o 12) {z : Int} (hd : decode cc pc = .ok (.putfield 123, 3)) (k : ∀ (H : Heap) (locs : List Loc), Hw D b (ms μ o 12 z) H0 H locs → W p l e R s m args below meth c H locs cells slots Q (F0 m (pc + 3) ls (rest))) : W p l e R s m args below meth c H locs cells slots Q (F0 m (pc) ls (.int (jI z) :: rfv b o :: rest)) := r_put C hw ok12 ho 12 (by decide) kf_12_123 (by decide) (by decide) (z := z) rfl rfl rfl hd k
theorem pf_12_140 (C : Cx p s m args meth c D b cc nL RX12 ret) (hw : Hw D b μ H0 H locs) {o : Int} (ho : isK o 12) {z : Int} (hd : decode cc pc = .ok (.putfield 140, 3)) (k : ∀ (H : Heap) (locs : List Loc), Hw D b (ms μ o 15 z) H0 H locs → W p l e R s m args below meth c H locs cells slots Q (F0 m (pc + 3) ls (rest))) : W p l e R s m args below meth c H locs cells slots Q (F0 m (pc) ls (.int (jI z) :: rfv b o :: rest)) := r_put C hw ok12 ho 15 (by decide) kf_12_140 (by decide) (by decide) (z := z) rfl rfl rfl hd k
theorem pf_12_205 (C : Cx p s m args meth c D b cc nL RX12 ret) (hw : Hw D b μ H0 H locs) {o : Int} (ho : isK o 12) {z : Int} (hd : decode cc pc = .ok (.putfield 205, 3)) (k : ∀ (H : Heap) (locs : List Loc), Hw D b (ms μ o 13 z) H0 H locs → W p l e R s m args below meth c H locs cells slots Q (F0 m (pc + 3) ls (rest))) : W p l e R s m args below meth c H locs cells slots Q (F0 m (pc) ls (.int (jI z) :: rfv b o :: rest)) := r_put C hw ok12 ho 13 (by decide) kf_12_205 (by decide) (by decide) (z := z) rfl rfl rfl hd k
theorem pf_12_288 (C : Cx p s m args meth c D b cc nL RX12 ret) (hw : Hw D b μ H0 H locs) {o : Int} (ho : isK o 12) {z : Int} (hd : decode cc pc = .ok (.putfield 288, 3)) (k : ∀ (H : Heap) (locs : List Loc), Hw D b (ms μ o 19 z) H0 H locs → W p l e R s m args below meth c H locs cells slots Q (F0 m (pc + 3) ls (rest))) : W p l e R s m args below meth c H locs cells slots Q (F0 m (pc) ls (.int (jI z) :: rfv b o :: rest)) := r_put C hw ok12 ho 19 (by decide) kf_12_288 (by decide) (by decide) (z := z) rfl rfl rfl hd k
theorem pf_12_312 (C : Cx p s m args meth c D b cc nL RX12 ret) (hw : Hw D b μ H0 H locs) {o : Int} (ho : isK o 12) {z : Int} (hd : decode cc pc = .ok (.putfield 312, 3)) (k : ∀ (H : Heap) (locs : List Loc), Hw D b (ms μ o 20 z) H0 H locs → W p l e R s m args below meth c H locs cells slots Q (F0 m (pc + 3) ls (rest))) : W p l e R s m args below meth c H locs cells slots Q (F0 m (pc) ls (.int (jI z) :: rfv b o :: rest)) := r_put C hw ok12 ho 20 (by decide) kf_12_312 (by decide) (by decide) (z := z) rfl rfl rfl hd k
theorem pf_12_365 (C : Cx p s m args meth c D b cc nL RX12 ret) (hw : Hw D b μ H0 H locs) {o : Int} (ho : isK o 12) {z : Int} (hd : decode cc pc = .ok (.putfield 365, 3)) (k : ∀ (H : Heap) (locs : List Loc), Hw D b (ms μ o 24 z) H0 H locs → W p l e R s m args below meth c H locs cells slots Q (F0 m (pc + 3) ls (rest))) : W p l e R s m args below meth c H locs cells slots Q (F0 m (pc) ls (.int (jI z) :: rfv b o :: rest)) := r_put C hw ok12 ho 24 (by decide) kf_12_365 (by decide) (by decide) (z := z) rfl rfl rfl hd k
end LINKS

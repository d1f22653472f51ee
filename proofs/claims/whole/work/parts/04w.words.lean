theorem hcX0 : eCl 0 RX0 TX0 2 tyX0 := ⟨rfl, eT_all (Ps := [164, 166]) (by decide +kernel) (by decide), tyX0_ok, nmX0⟩
theorem hnX0 : Cond.instantiable RX0 2 ∈ eT := eT_in (i := 155) (by decide +kernel) rfl
theorem hzX0 : Cond.initialized RX0 ∈ eT := eT_in (i := 52) (by decide +kernel) rfl
theorem hcX1 : eCl 1 RX1 TX1 6 tyX1 := ⟨rfl, eT_all (Ps := [103, 105, 107, 109, 111, 113]) (by decide +kernel) (by decide), tyX1_ok, nmX1⟩
theorem hnX1 : Cond.instantiable RX1 6 ∈ eT := eT_in (i := 70) (by decide +kernel) rfl
theorem hzX1 : Cond.initialized RX1 ∈ eT := eT_in (i := 48) (by decide +kernel) rfl
theorem hcX2 : eCl 2 RX2 TX2 9 tyX2 := ⟨rfl, eT_all (Ps := [135, 137, 139, 141, 143, 145, 147, 149, 151]) (by decide +kernel) (by decide), tyX2_ok, nmX2⟩
theorem hnX2 : Cond.instantiable RX2 9 ∈ eT := eT_in (i := 117) (by decide +kernel) rfl
theorem hzX2 : Cond.initialized RX2 ∈ eT := eT_in (i := 51) (by decide +kernel) rfl
theorem hcX3 : eCl 3 RX3 TX3 3 tyX3 := ⟨rfl, eT_all (Ps := [270, 272, 274]) (by decide +kernel) (by decide), tyX3_ok, nmX3⟩
theorem hnX3 : Cond.instantiable RX3 3 ∈ eT := eT_in (i := 256) (by decide +kernel) rfl
theorem hzX3 : Cond.initialized RX3 ∈ eT := eT_in (i := 57) (by decide +kernel) rfl
theorem hcX4 : eCl 4 RX4 TX4 4 tyX4 := ⟨rfl, eT_all (Ps := [181, 183, 185, 187]) (by decide +kernel) (by decide), tyX4_ok, nmX4⟩
theorem hnX4 : Cond.instantiable RX4 4 ∈ eT := eT_in (i := 170) (by decide +kernel) rfl
theorem hzX4 : Cond.initialized RX4 ∈ eT := eT_in (i := 53) (by decide +kernel) rfl
theorem hcX5 : eCl 5 RX5 TX5 3 tyX5 := ⟨rfl, eT_all (Ps := [286, 288, 290]) (by decide +kernel) (by decide), tyX5_ok, nmX5⟩
theorem hnX5 : Cond.instantiable RX5 3 ∈ eT := eT_in (i := 278) (by decide +kernel) rfl
theorem hzX5 : Cond.initialized RX5 ∈ eT := eT_in (i := 58) (by decide +kernel) rfl
theorem hcX6 : eCl 6 RX6 TX6 3 tyX6 := ⟨rfl, eT_all (Ps := [201, 203, 205]) (by decide +kernel) (by decide), tyX6_ok, nmX6⟩
theorem hnX6 : Cond.instantiable RX6 3 ∈ eT := eT_in (i := 193) (by decide +kernel) rfl
theorem hzX6 : Cond.initialized RX6 ∈ eT := eT_in (i := 54) (by decide +kernel) rfl
theorem hcX7 : eCl 7 RX7 TX7 1 tyX7 := ⟨rfl, eT_all (Ps := [85]) (by decide +kernel) (by decide), tyX7_ok, nmX7⟩
theorem hnX7 : Cond.instantiable RX7 1 ∈ eT := eT_in (i := 76) (by decide +kernel) rfl
theorem hzX7 : Cond.initialized RX7 ∈ eT := eT_in (i := 49) (by decide +kernel) rfl
theorem hcX8 : eCl 8 RX8 TX8 4 tyX8 := ⟨rfl, eT_all (Ps := [220, 222, 224, 226]) (by decide +kernel) (by decide), tyX8_ok, nmX8⟩
theorem hnX8 : Cond.instantiable RX8 4 ∈ eT := eT_in (i := 209) (by decide +kernel) rfl
theorem hzX8 : Cond.initialized RX8 ∈ eT := eT_in (i := 55) (by decide +kernel) rfl
theorem hcX9 : eCl 9 RX9 TX9 4 tyX9 := ⟨rfl, eT_all (Ps := [246, 248, 250, 252]) (by decide +kernel) (by decide), tyX9_ok, nmX9⟩
theorem hnX9 : Cond.instantiable RX9 4 ∈ eT := eT_in (i := 230) (by decide +kernel) rfl
theorem hzX9 : Cond.initialized RX9 ∈ eT := eT_in (i := 56) (by decide +kernel) rfl
theorem hcX10 : eCl 10 RX10 TX10 11 tyX10 := ⟨rfl, eT_all (Ps := [304, 306, 308, 310, 312, 314, 316, 318, 320, 322, 324]) (by decide +kernel) (by decide), tyX10_ok, nmX10⟩
theorem hnX10 : Cond.instantiable RX10 11 ∈ eT := eT_in (i := 62) (by decide +kernel) rfl
theorem hzX10 : Cond.initialized RX10 ∈ eT := eT_in (i := 47) (by decide +kernel) rfl
theorem hcX11 : eCl 11 RX11 TX11 23 tyX11 := ⟨rfl, eT_all (Ps := [907, 909, 911, 913, 915, 917, 919, 921, 923, 925, 927, 929, 931, 933, 935, 937, 939, 941, 943, 945, 947, 949, 951]) (by decide +kernel) (by decide), tyX11_ok, nmX11⟩
theorem hnX11 : Cond.instantiable RX11 23 ∈ eT := eT_in (i := 879) (by decide +kernel) rfl
theorem hzX11 : Cond.initialized RX11 ∈ eT := eT_in (i := 59) (by decide +kernel) rfl
theorem hoA : Cond.instanceMethod objectInit ∈ eT := eT_in (i := 67) (by decide +kernel) rfl
theorem hoB : Cond.code objectInit ⟨#[0xb1]⟩ 1 none ∈ eT := eT_in (i := 68) (by decide +kernel) rfl
theorem haI : Cond.arrayClass .int ∈ eT := eT_in (i := 88) (by decide +kernel) rfl
theorem haZ : Cond.arrayClass .boolean ∈ eT := eT_in (i := 954) (by decide +kernel) rfl
theorem hwX0_init : eMw yX0_init cX0_init 2 none 1 := ⟨eT_in (i := 158) (by decide +kernel) rfl, eT_in (i := 52) (by decide +kernel) rfl, by decide +kernel, by decide +kernel, by decide +kernel⟩
theorem hiX0_init : Cond.instanceMethod yX0_init ∈ eT := eT_in (i := 157) (by decide +kernel) rfl
theorem hwX0_removeAll : eMw yX0_removeAll cX0_removeAll 1 none 0 := ⟨eT_in (i := 448) (by decide +kernel) rfl, eT_in (i := 52) (by decide +kernel) rfl, by decide +kernel, by decide +kernel, by decide +kernel⟩
theorem hiX0_removeAll : Cond.instanceMethod yX0_removeAll ∈ eT := eT_in (i := 446) (by decide +kernel) rfl
theorem hsX0_removeAll : Cond.selects RX0 yX0_removeAll yX0_removeAll ∈ eT := eT_in (i := 447) (by decide +kernel) rfl
theorem hwX0_become : eMw yX0_become cX0_become 2 none 1 := ⟨eT_in (i := 778) (by decide +kernel) rfl, eT_in (i := 52) (by decide +kernel) rfl, by decide +kernel, by decide +kernel, by decide +kernel⟩
theorem hiX0_become : Cond.instanceMethod yX0_become ∈ eT := eT_in (i := 776) (by decide +kernel) rfl
theorem hsX0_become : Cond.selects RX0 yX0_become yX0_become ∈ eT := eT_in (i := 777) (by decide +kernel) rfl
theorem hwX0_copyTo : eMw yX0_copyTo cX0_copyTo 4 none 2 := ⟨eT_in (i := 630) (by decide +kernel) rfl, eT_in (i := 52) (by decide +kernel) rfl, by decide +kernel, by decide +kernel, by decide +kernel⟩
theorem hiX0_copyTo : Cond.instanceMethod yX0_copyTo ∈ eT := eT_in (i := 628) (by decide +kernel) rfl
theorem hsX0_copyTo : Cond.selects RX0 yX0_copyTo yX0_copyTo ∈ eT := eT_in (i := 629) (by decide +kernel) rfl
theorem hwX0_copyFrom : eMw yX0_copyFrom cX0_copyFrom 4 none 2 := ⟨eT_in (i := 682) (by decide +kernel) rfl, eT_in (i := 52) (by decide +kernel) rfl, by decide +kernel, by decide +kernel, by decide +kernel⟩
theorem hiX0_copyFrom : Cond.instanceMethod yX0_copyFrom ∈ eT := eT_in (i := 680) (by decide +kernel) rfl
theorem hsX0_copyFrom : Cond.selects RX0 yX0_copyFrom yX0_copyFrom ∈ eT := eT_in (i := 681) (by decide +kernel) rfl
theorem hwX0_size : eMw yX0_size cX0_size 1 (some .int) 0 := ⟨eT_in (i := 487) (by decide +kernel) rfl, eT_in (i := 52) (by decide +kernel) rfl, by decide +kernel, by decide +kernel, by decide +kernel⟩
theorem hiX0_size : Cond.instanceMethod yX0_size ∈ eT := eT_in (i := 485) (by decide +kernel) rfl
theorem hsX0_size : Cond.selects RX0 yX0_size yX0_size ∈ eT := eT_in (i := 486) (by decide +kernel) rfl
theorem hwX0_has : eMw yX0_has cX0_has 2 (some .boolean) 1 := ⟨eT_in (i := 483) (by decide +kernel) rfl, eT_in (i := 52) (by decide +kernel) rfl, by decide +kernel, by decide +kernel, by decide +kernel⟩
theorem hiX0_has : Cond.instanceMethod yX0_has ∈ eT := eT_in (i := 481) (by decide +kernel) rfl
theorem hsX0_has : Cond.selects RX0 yX0_has yX0_has ∈ eT := eT_in (i := 482) (by decide +kernel) rfl
theorem hwX0_firstCell : eMw yX0_firstCell cX0_firstCell 2 (some .int) 1 := ⟨eT_in (i := 492) (by decide +kernel) rfl, eT_in (i := 52) (by decide +kernel) rfl, by decide +kernel, by decide +kernel, by decide +kernel⟩
theorem hiX0_firstCell : Cond.instanceMethod yX0_firstCell ∈ eT := eT_in (i := 490) (by decide +kernel) rfl
theorem hsX0_firstCell : Cond.selects RX0 yX0_firstCell yX0_firstCell ∈ eT := eT_in (i := 491) (by decide +kernel) rfl
theorem hwX0_length : eMw yX0_length cX0_length 2 (some .int) 1 := ⟨eT_in (i := 503) (by decide +kernel) rfl, eT_in (i := 52) (by decide +kernel) rfl, by decide +kernel, by decide +kernel, by decide +kernel⟩
theorem hiX0_length : Cond.instanceMethod yX0_length ∈ eT := eT_in (i := 501) (by decide +kernel) rfl
theorem hsX0_length : Cond.selects RX0 yX0_length yX0_length ∈ eT := eT_in (i := 502) (by decide +kernel) rfl
theorem hwX0_cardAt : eMw yX0_cardAt cX0_cardAt 3 (some .int) 2 := ⟨eT_in (i := 512) (by decide +kernel) rfl, eT_in (i := 52) (by decide +kernel) rfl, by decide +kernel, by decide +kernel, by decide +kernel⟩
theorem hiX0_cardAt : Cond.instanceMethod yX0_cardAt ∈ eT := eT_in (i := 510) (by decide +kernel) rfl
theorem hsX0_cardAt : Cond.selects RX0 yX0_cardAt yX0_cardAt ∈ eT := eT_in (i := 511) (by decide +kernel) rfl
theorem hwX0_lastCell : eMw yX0_lastCell cX0_lastCell 2 (some .int) 1 := ⟨eT_in (i := 499) (by decide +kernel) rfl, eT_in (i := 52) (by decide +kernel) rfl, by decide +kernel, by decide +kernel, by decide +kernel⟩
theorem hiX0_lastCell : Cond.instanceMethod yX0_lastCell ∈ eT := eT_in (i := 497) (by decide +kernel) rfl
theorem hsX0_lastCell : Cond.selects RX0 yX0_lastCell yX0_lastCell ∈ eT := eT_in (i := 498) (by decide +kernel) rfl
theorem hwX0_cellBehind : eMw yX0_cellBehind cX0_cellBehind 5 (some .int) 2 := ⟨eT_in (i := 507) (by decide +kernel) rfl, eT_in (i := 52) (by decide +kernel) rfl, by decide +kernel, by decide +kernel, by decide +kernel⟩
theorem hiX0_cellBehind : Cond.instanceMethod yX0_cellBehind ∈ eT := eT_in (i := 505) (by decide +kernel) rfl
theorem hsX0_cellBehind : Cond.selects RX0 yX0_cellBehind yX0_cellBehind ∈ eT := eT_in (i := 506) (by decide +kernel) rfl
theorem hwX0_cellIf : eMw yX0_cellIf cX0_cellIf 9 (some .int) 3 := ⟨eT_in (i := 797) (by decide +kernel) rfl, eT_in (i := 52) (by decide +kernel) rfl, by decide +kernel, by decide +kernel, by decide +kernel⟩
theorem hiX0_cellIf : Cond.instanceMethod yX0_cellIf ∈ eT := eT_in (i := 795) (by decide +kernel) rfl
theorem hsX0_cellIf : Cond.selects RX0 yX0_cellIf yX0_cellIf ∈ eT := eT_in (i := 796) (by decide +kernel) rfl
theorem hwX0_begin : eMw yX0_begin cX0_begin 3 (some .int) 1 := ⟨eT_in (i := 635) (by decide +kernel) rfl, eT_in (i := 52) (by decide +kernel) rfl, by decide +kernel, by decide +kernel, by decide +kernel⟩
theorem hiX0_begin : Cond.instanceMethod yX0_begin ∈ eT := eT_in (i := 633) (by decide +kernel) rfl
theorem hsX0_begin : Cond.selects RX0 yX0_begin yX0_begin ∈ eT := eT_in (i := 634) (by decide +kernel) rfl
theorem hwX0_weave : eMw yX0_weave cX0_weave 4 none 2 := ⟨eT_in (i := 650) (by decide +kernel) rfl, eT_in (i := 52) (by decide +kernel) rfl, by decide +kernel, by decide +kernel, by decide +kernel⟩
theorem hiX0_weave : Cond.instanceMethod yX0_weave ∈ eT := eT_in (i := 648) (by decide +kernel) rfl
theorem hsX0_weave : Cond.selects RX0 yX0_weave yX0_weave ∈ eT := eT_in (i := 649) (by decide +kernel) rfl
theorem hwX0_turn : eMw yX0_turn cX0_turn 7 none 1 := ⟨eT_in (i := 658) (by decide +kernel) rfl, eT_in (i := 52) (by decide +kernel) rfl, by decide +kernel, by decide +kernel, by decide +kernel⟩
theorem hiX0_turn : Cond.instanceMethod yX0_turn ∈ eT := eT_in (i := 656) (by decide +kernel) rfl
theorem hsX0_turn : Cond.selects RX0 yX0_turn yX0_turn ∈ eT := eT_in (i := 657) (by decide +kernel) rfl
theorem hwX0_fray : eMw yX0_fray cX0_fray 4 (some .int) 0 := ⟨eT_in (i := 670) (by decide +kernel) rfl, eT_in (i := 52) (by decide +kernel) rfl, by decide +kernel, by decide +kernel, by decide +kernel⟩
theorem hiX0_fray : Cond.instanceMethod yX0_fray ∈ eT := eT_in (i := 668) (by decide +kernel) rfl
theorem hsX0_fray : Cond.selects RX0 yX0_fray yX0_fray ∈ eT := eT_in (i := 669) (by decide +kernel) rfl
theorem hwX0_ells : eMw yX0_ells cX0_ells 3 (some .int) 0 := ⟨eT_in (i := 571) (by decide +kernel) rfl, eT_in (i := 52) (by decide +kernel) rfl, by decide +kernel, by decide +kernel, by decide +kernel⟩
theorem hiX0_ells : Cond.instanceMethod yX0_ells ∈ eT := eT_in (i := 569) (by decide +kernel) rfl
theorem hsX0_ells : Cond.selects RX0 yX0_ells yX0_ells ∈ eT := eT_in (i := 570) (by decide +kernel) rfl
theorem hwX0_climb : eMw yX0_climb cX0_climb 6 (some .int) 1 := ⟨eT_in (i := 521) (by decide +kernel) rfl, eT_in (i := 52) (by decide +kernel) rfl, by decide +kernel, by decide +kernel, by decide +kernel⟩
theorem hiX0_climb : Cond.instanceMethod yX0_climb ∈ eT := eT_in (i := 519) (by decide +kernel) rfl
theorem hsX0_climb : Cond.selects RX0 yX0_climb yX0_climb ∈ eT := eT_in (i := 520) (by decide +kernel) rfl
theorem hwX0_toNowhere : eMw yX0_toNowhere cX0_toNowhere 3 (some .int) 0 := ⟨eT_in (i := 589) (by decide +kernel) rfl, eT_in (i := 52) (by decide +kernel) rfl, by decide +kernel, by decide +kernel, by decide +kernel⟩
theorem hiX0_toNowhere : Cond.instanceMethod yX0_toNowhere ∈ eT := eT_in (i := 587) (by decide +kernel) rfl
theorem hsX0_toNowhere : Cond.selects RX0 yX0_toNowhere yX0_toNowhere ∈ eT := eT_in (i := 588) (by decide +kernel) rfl
theorem hwX0_touchesTown : eMw yX0_touchesTown cX0_touchesTown 5 (some .boolean) 1 := ⟨eT_in (i := 593) (by decide +kernel) rfl, eT_in (i := 52) (by decide +kernel) rfl, by decide +kernel, by decide +kernel, by decide +kernel⟩
theorem hiX0_touchesTown : Cond.instanceMethod yX0_touchesTown ∈ eT := eT_in (i := 592) (by decide +kernel) rfl
theorem hsX0_touchesTown : Cond.selects RX0 yX0_touchesTown yX0_touchesTown ∈ eT := eT_in (i := 9) (by decide +kernel) rfl
theorem hwX0_seams : eMw yX0_seams cX0_seams 5 (some .int) 0 := ⟨eT_in (i := 736) (by decide +kernel) rfl, eT_in (i := 52) (by decide +kernel) rfl, by decide +kernel, by decide +kernel, by decide +kernel⟩
theorem hiX0_seams : Cond.instanceMethod yX0_seams ∈ eT := eT_in (i := 734) (by decide +kernel) rfl
theorem hsX0_seams : Cond.selects RX0 yX0_seams yX0_seams ∈ eT := eT_in (i := 735) (by decide +kernel) rfl
theorem hwX0_placeOf : eMw yX0_placeOf cX0_placeOf 1 (some .int) 1 := ⟨eT_in (i := 495) (by decide +kernel) rfl, eT_in (i := 52) (by decide +kernel) rfl, by decide +kernel, by decide +kernel, by decide +kernel⟩
theorem htX0_placeOf : Cond.static yX0_placeOf ∈ eT := eT_in (i := 494) (by decide +kernel) rfl
theorem hwX0_opposite : eMw yX0_opposite cX0_opposite 1 (some .int) 1 := ⟨eT_in (i := 662) (by decide +kernel) rfl, eT_in (i := 52) (by decide +kernel) rfl, by decide +kernel, by decide +kernel, by decide +kernel⟩
theorem htX0_opposite : Cond.static yX0_opposite ∈ eT := eT_in (i := 661) (by decide +kernel) rfl
theorem hwX1_init : eMw yX1_init cX1_init 1 none 0 := ⟨eT_in (i := 73) (by decide +kernel) rfl, eT_in (i := 48) (by decide +kernel) rfl, by decide +kernel, by decide +kernel, by decide +kernel⟩
theorem hiX1_init : Cond.instanceMethod yX1_init ∈ eT := eT_in (i := 72) (by decide +kernel) rfl
theorem hwX1_becomeFirst : eMw yX1_becomeFirst cX1_becomeFirst 1 none 0 := ⟨eT_in (i := 92) (by decide +kernel) rfl, eT_in (i := 48) (by decide +kernel) rfl, by decide +kernel, by decide +kernel, by decide +kernel⟩
theorem hiX1_becomeFirst : Cond.instanceMethod yX1_becomeFirst ∈ eT := eT_in (i := 90) (by decide +kernel) rfl
theorem hsX1_becomeFirst : Cond.selects RX1 yX1_becomeFirst yX1_becomeFirst ∈ eT := eT_in (i := 91) (by decide +kernel) rfl
theorem hwX1_become : eMw yX1_become cX1_become 3 none 1 := ⟨eT_in (i := 444) (by decide +kernel) rfl, eT_in (i := 48) (by decide +kernel) rfl, by decide +kernel, by decide +kernel, by decide +kernel⟩
theorem hiX1_become : Cond.instanceMethod yX1_become ∈ eT := eT_in (i := 442) (by decide +kernel) rfl
theorem hsX1_become : Cond.selects RX1 yX1_become yX1_become ∈ eT := eT_in (i := 443) (by decide +kernel) rfl
theorem hwX1_setSize : eMw yX1_setSize cX1_setSize 3 none 2 := ⟨eT_in (i := 389) (by decide +kernel) rfl, eT_in (i := 48) (by decide +kernel) rfl, by decide +kernel, by decide +kernel, by decide +kernel⟩
theorem hiX1_setSize : Cond.instanceMethod yX1_setSize ∈ eT := eT_in (i := 387) (by decide +kernel) rfl
theorem hsX1_setSize : Cond.selects RX1 yX1_setSize yX1_setSize ∈ eT := eT_in (i := 388) (by decide +kernel) rfl
theorem hwX1_setHeight : eMw yX1_setHeight cX1_setHeight 3 none 2 := ⟨eT_in (i := 405) (by decide +kernel) rfl, eT_in (i := 48) (by decide +kernel) rfl, by decide +kernel, by decide +kernel, by decide +kernel⟩
theorem hiX1_setHeight : Cond.instanceMethod yX1_setHeight ∈ eT := eT_in (i := 403) (by decide +kernel) rfl
theorem hsX1_setHeight : Cond.selects RX1 yX1_setHeight yX1_setHeight ∈ eT := eT_in (i := 404) (by decide +kernel) rfl
theorem hwX1_setSlope : eMw yX1_setSlope cX1_setSlope 2 none 1 := ⟨eT_in (i := 436) (by decide +kernel) rfl, eT_in (i := 48) (by decide +kernel) rfl, by decide +kernel, by decide +kernel, by decide +kernel⟩
theorem hiX1_setSlope : Cond.instanceMethod yX1_setSlope ∈ eT := eT_in (i := 434) (by decide +kernel) rfl
theorem hsX1_setSlope : Cond.selects RX1 yX1_setSlope yX1_setSlope ∈ eT := eT_in (i := 435) (by decide +kernel) rfl
theorem hwX1_addTown : eMw yX1_addTown cX1_addTown 2 none 1 := ⟨eT_in (i := 428) (by decide +kernel) rfl, eT_in (i := 48) (by decide +kernel) rfl, by decide +kernel, by decide +kernel, by decide +kernel⟩
theorem hiX1_addTown : Cond.instanceMethod yX1_addTown ∈ eT := eT_in (i := 426) (by decide +kernel) rfl
theorem hsX1_addTown : Cond.selects RX1 yX1_addTown yX1_addTown ∈ eT := eT_in (i := 427) (by decide +kernel) rfl
theorem hwX1_wide : eMw yX1_wide cX1_wide 1 (some .int) 0 := ⟨eT_in (i := 562) (by decide +kernel) rfl, eT_in (i := 48) (by decide +kernel) rfl, by decide +kernel, by decide +kernel, by decide +kernel⟩
theorem hiX1_wide : Cond.instanceMethod yX1_wide ∈ eT := eT_in (i := 560) (by decide +kernel) rfl
theorem hsX1_wide : Cond.selects RX1 yX1_wide yX1_wide ∈ eT := eT_in (i := 561) (by decide +kernel) rfl
theorem hwX1_deep : eMw yX1_deep cX1_deep 1 (some .int) 0 := ⟨eT_in (i := 868) (by decide +kernel) rfl, eT_in (i := 48) (by decide +kernel) rfl, by decide +kernel, by decide +kernel, by decide +kernel⟩
theorem hiX1_deep : Cond.instanceMethod yX1_deep ∈ eT := eT_in (i := 866) (by decide +kernel) rfl
theorem hsX1_deep : Cond.selects RX1 yX1_deep yX1_deep ∈ eT := eT_in (i := 867) (by decide +kernel) rfl
theorem hwX1_slope : eMw yX1_slope cX1_slope 1 (some .int) 0 := ⟨eT_in (i := 700) (by decide +kernel) rfl, eT_in (i := 48) (by decide +kernel) rfl, by decide +kernel, by decide +kernel, by decide +kernel⟩
theorem hiX1_slope : Cond.instanceMethod yX1_slope ∈ eT := eT_in (i := 698) (by decide +kernel) rfl
theorem hsX1_slope : Cond.selects RX1 yX1_slope yX1_slope ∈ eT := eT_in (i := 699) (by decide +kernel) rfl
theorem hwX1_towns : eMw yX1_towns cX1_towns 1 (some .int) 0 := ⟨eT_in (i := 410) (by decide +kernel) rfl, eT_in (i := 48) (by decide +kernel) rfl, by decide +kernel, by decide +kernel, by decide +kernel⟩
theorem hiX1_towns : Cond.instanceMethod yX1_towns ∈ eT := eT_in (i := 408) (by decide +kernel) rfl
theorem hsX1_towns : Cond.selects RX1 yX1_towns yX1_towns ∈ eT := eT_in (i := 409) (by decide +kernel) rfl
theorem hwX1_cells : eMw yX1_cells cX1_cells 1 (some .int) 0 := ⟨eT_in (i := 401) (by decide +kernel) rfl, eT_in (i := 48) (by decide +kernel) rfl, by decide +kernel, by decide +kernel, by decide +kernel⟩
theorem hiX1_cells : Cond.instanceMethod yX1_cells ∈ eT := eT_in (i := 399) (by decide +kernel) rfl
theorem hsX1_cells : Cond.selects RX1 yX1_cells yX1_cells ∈ eT := eT_in (i := 400) (by decide +kernel) rfl
theorem hwX1_hasCell : eMw yX1_hasCell cX1_hasCell 2 (some .boolean) 1 := ⟨eT_in (i := 461) (by decide +kernel) rfl, eT_in (i := 48) (by decide +kernel) rfl, by decide +kernel, by decide +kernel, by decide +kernel⟩
theorem hiX1_hasCell : Cond.instanceMethod yX1_hasCell ∈ eT := eT_in (i := 459) (by decide +kernel) rfl
theorem hsX1_hasCell : Cond.selects RX1 yX1_hasCell yX1_hasCell ∈ eT := eT_in (i := 460) (by decide +kernel) rfl
theorem hwX1_heightAt : eMw yX1_heightAt cX1_heightAt 2 (some .int) 1 := ⟨eT_in (i := 466) (by decide +kernel) rfl, eT_in (i := 48) (by decide +kernel) rfl, by decide +kernel, by decide +kernel, by decide +kernel⟩
theorem hiX1_heightAt : Cond.instanceMethod yX1_heightAt ∈ eT := eT_in (i := 464) (by decide +kernel) rfl
theorem hsX1_heightAt : Cond.selects RX1 yX1_heightAt yX1_heightAt ∈ eT := eT_in (i := 465) (by decide +kernel) rfl
theorem hwX1_townCell : eMw yX1_townCell cX1_townCell 2 (some .int) 1 := ⟨eT_in (i := 475) (by decide +kernel) rfl, eT_in (i := 48) (by decide +kernel) rfl, by decide +kernel, by decide +kernel, by decide +kernel⟩
theorem hiX1_townCell : Cond.instanceMethod yX1_townCell ∈ eT := eT_in (i := 473) (by decide +kernel) rfl
theorem hsX1_townCell : Cond.selects RX1 yX1_townCell yX1_townCell ∈ eT := eT_in (i := 474) (by decide +kernel) rfl
theorem hwX1_isTown : eMw yX1_isTown cX1_isTown 2 (some .boolean) 1 := ⟨eT_in (i := 418) (by decide +kernel) rfl, eT_in (i := 48) (by decide +kernel) rfl, by decide +kernel, by decide +kernel, by decide +kernel⟩
theorem hiX1_isTown : Cond.instanceMethod yX1_isTown ∈ eT := eT_in (i := 416) (by decide +kernel) rfl
theorem hsX1_isTown : Cond.selects RX1 yX1_isTown yX1_isTown ∈ eT := eT_in (i := 417) (by decide +kernel) rfl
theorem hwX1_cellsOfTowns : eMw yX1_cellsOfTowns cX1_cellsOfTowns 4 (some .int) 1 := ⟨eT_in (i := 423) (by decide +kernel) rfl, eT_in (i := 48) (by decide +kernel) rfl, by decide +kernel, by decide +kernel, by decide +kernel⟩
theorem hiX1_cellsOfTowns : Cond.instanceMethod yX1_cellsOfTowns ∈ eT := eT_in (i := 421) (by decide +kernel) rfl
theorem hsX1_cellsOfTowns : Cond.selects RX1 yX1_cellsOfTowns yX1_cellsOfTowns ∈ eT := eT_in (i := 422) (by decide +kernel) rfl
theorem hwX1_neighbour : eMw yX1_neighbour cX1_neighbour 4 (some .int) 2 := ⟨eT_in (i := 516) (by decide +kernel) rfl, eT_in (i := 48) (by decide +kernel) rfl, by decide +kernel, by decide +kernel, by decide +kernel⟩
theorem hiX1_neighbour : Cond.instanceMethod yX1_neighbour ∈ eT := eT_in (i := 514) (by decide +kernel) rfl
theorem hsX1_neighbour : Cond.selects RX1 yX1_neighbour yX1_neighbour ∈ eT := eT_in (i := 515) (by decide +kernel) rfl
theorem hwX1_step : eMw yX1_step cX1_step 3 (some .int) 2 := ⟨eT_in (i := 525) (by decide +kernel) rfl, eT_in (i := 48) (by decide +kernel) rfl, by decide +kernel, by decide +kernel, by decide +kernel⟩
theorem hiX1_step : Cond.instanceMethod yX1_step ∈ eT := eT_in (i := 523) (by decide +kernel) rfl
theorem hsX1_step : Cond.selects RX1 yX1_step yX1_step ∈ eT := eT_in (i := 524) (by decide +kernel) rfl
theorem hwX1_cellBy : eMw yX1_cellBy cX1_cellBy 4 (some .int) 2 := ⟨eT_in (i := 643) (by decide +kernel) rfl, eT_in (i := 48) (by decide +kernel) rfl, by decide +kernel, by decide +kernel, by decide +kernel⟩
theorem hiX1_cellBy : Cond.instanceMethod yX1_cellBy ∈ eT := eT_in (i := 641) (by decide +kernel) rfl
theorem hsX1_cellBy : Cond.selects RX1 yX1_cellBy yX1_cellBy ∈ eT := eT_in (i := 642) (by decide +kernel) rfl
theorem hwX2_init : eMw yX2_init cX2_init 1 none 0 := ⟨eT_in (i := 120) (by decide +kernel) rfl, eT_in (i := 51) (by decide +kernel) rfl, by decide +kernel, by decide +kernel, by decide +kernel⟩
theorem hiX2_init : Cond.instanceMethod yX2_init ∈ eT := eT_in (i := 119) (by decide +kernel) rfl
theorem hwX2_size : eMw yX2_size cX2_size 1 (some .int) 0 := ⟨eT_in (i := 342) (by decide +kernel) rfl, eT_in (i := 51) (by decide +kernel) rfl, by decide +kernel, by decide +kernel, by decide +kernel⟩
theorem hiX2_size : Cond.instanceMethod yX2_size ∈ eT := eT_in (i := 340) (by decide +kernel) rfl
theorem hsX2_size : Cond.selects RX2 yX2_size yX2_size ∈ eT := eT_in (i := 341) (by decide +kernel) rfl
theorem hwX2_told : eMw yX2_told cX2_told 1 (some (.object "WovenRoads$Land")) 0 := ⟨eT_in (i := 440) (by decide +kernel) rfl, eT_in (i := 51) (by decide +kernel) rfl, by decide +kernel, by decide +kernel, by decide +kernel⟩
theorem hiX2_told : Cond.instanceMethod yX2_told ∈ eT := eT_in (i := 438) (by decide +kernel) rfl
theorem hsX2_told : Cond.selects RX2 yX2_told yX2_told ∈ eT := eT_in (i := 439) (by decide +kernel) rfl
theorem hwX2_add : eMw yX2_add cX2_add 2 (some .boolean) 1 := ⟨eT_in (i := 334) (by decide +kernel) rfl, eT_in (i := 51) (by decide +kernel) rfl, by decide +kernel, by decide +kernel, by decide +kernel⟩
theorem hiX2_add : Cond.instanceMethod yX2_add ∈ eT := eT_in (i := 332) (by decide +kernel) rfl
theorem hsX2_add : Cond.selects RX2 yX2_add yX2_add ∈ eT := eT_in (i := 333) (by decide +kernel) rfl
theorem hwX2_empty : eMw yX2_empty cX2_empty 1 none 0 := ⟨eT_in (i := 350) (by decide +kernel) rfl, eT_in (i := 51) (by decide +kernel) rfl, by decide +kernel, by decide +kernel, by decide +kernel⟩
theorem hiX2_empty : Cond.instanceMethod yX2_empty ∈ eT := eT_in (i := 348) (by decide +kernel) rfl
theorem hsX2_empty : Cond.selects RX2 yX2_empty yX2_empty ∈ eT := eT_in (i := 349) (by decide +kernel) rfl
theorem hwX2_read : eMw yX2_read cX2_read 1 (some .int) 0 := ⟨eT_in (i := 358) (by decide +kernel) rfl, eT_in (i := 51) (by decide +kernel) rfl, by decide +kernel, by decide +kernel, by decide +kernel⟩
theorem hiX2_read : Cond.instanceMethod yX2_read ∈ eT := eT_in (i := 356) (by decide +kernel) rfl
theorem hsX2_read : Cond.selects RX2 yX2_read yX2_read ∈ eT := eT_in (i := 357) (by decide +kernel) rfl
theorem hwX2_readItem : eMw yX2_readItem cX2_readItem 1 (some .boolean) 0 := ⟨eT_in (i := 377) (by decide +kernel) rfl, eT_in (i := 51) (by decide +kernel) rfl, by decide +kernel, by decide +kernel, by decide +kernel⟩
theorem hiX2_readItem : Cond.instanceMethod yX2_readItem ∈ eT := eT_in (i := 376) (by decide +kernel) rfl
theorem hsX2_readItem : Cond.selects RX2 yX2_readItem yX2_readItem ∈ eT := eT_in (i := 1) (by decide +kernel) rfl
theorem hwX2_readSize : eMw yX2_readSize cX2_readSize 2 (some .boolean) 0 := ⟨eT_in (i := 381) (by decide +kernel) rfl, eT_in (i := 51) (by decide +kernel) rfl, by decide +kernel, by decide +kernel, by decide +kernel⟩
theorem hiX2_readSize : Cond.instanceMethod yX2_readSize ∈ eT := eT_in (i := 380) (by decide +kernel) rfl
theorem hsX2_readSize : Cond.selects RX2 yX2_readSize yX2_readSize ∈ eT := eT_in (i := 2) (by decide +kernel) rfl
theorem hwX2_readHeight : eMw yX2_readHeight cX2_readHeight 2 (some .boolean) 0 := ⟨eT_in (i := 397) (by decide +kernel) rfl, eT_in (i := 51) (by decide +kernel) rfl, by decide +kernel, by decide +kernel, by decide +kernel⟩
theorem hiX2_readHeight : Cond.instanceMethod yX2_readHeight ∈ eT := eT_in (i := 396) (by decide +kernel) rfl
theorem hsX2_readHeight : Cond.selects RX2 yX2_readHeight yX2_readHeight ∈ eT := eT_in (i := 5) (by decide +kernel) rfl
theorem hwX2_readTown : eMw yX2_readTown cX2_readTown 1 (some .boolean) 0 := ⟨eT_in (i := 414) (by decide +kernel) rfl, eT_in (i := 51) (by decide +kernel) rfl, by decide +kernel, by decide +kernel, by decide +kernel⟩
theorem hiX2_readTown : Cond.instanceMethod yX2_readTown ∈ eT := eT_in (i := 413) (by decide +kernel) rfl
theorem hsX2_readTown : Cond.selects RX2 yX2_readTown yX2_readTown ∈ eT := eT_in (i := 6) (by decide +kernel) rfl
theorem hwX2_readSlope : eMw yX2_readSlope cX2_readSlope 1 (some .boolean) 0 := ⟨eT_in (i := 432) (by decide +kernel) rfl, eT_in (i := 51) (by decide +kernel) rfl, by decide +kernel, by decide +kernel, by decide +kernel⟩
theorem hiX2_readSlope : Cond.instanceMethod yX2_readSlope ∈ eT := eT_in (i := 431) (by decide +kernel) rfl
theorem hsX2_readSlope : Cond.selects RX2 yX2_readSlope yX2_readSlope ∈ eT := eT_in (i := 7) (by decide +kernel) rfl
theorem hwX2_readNumber : eMw yX2_readNumber cX2_readNumber 3 (some .boolean) 2 := ⟨eT_in (i := 385) (by decide +kernel) rfl, eT_in (i := 51) (by decide +kernel) rfl, by decide +kernel, by decide +kernel, by decide +kernel⟩
theorem hiX2_readNumber : Cond.instanceMethod yX2_readNumber ∈ eT := eT_in (i := 384) (by decide +kernel) rfl
theorem hsX2_readNumber : Cond.selects RX2 yX2_readNumber yX2_readNumber ∈ eT := eT_in (i := 3) (by decide +kernel) rfl
theorem hwX2_readItemEnd : eMw yX2_readItemEnd cX2_readItemEnd 1 (some .boolean) 0 := ⟨eT_in (i := 393) (by decide +kernel) rfl, eT_in (i := 51) (by decide +kernel) rfl, by decide +kernel, by decide +kernel, by decide +kernel⟩
theorem hiX2_readItemEnd : Cond.instanceMethod yX2_readItemEnd ∈ eT := eT_in (i := 392) (by decide +kernel) rfl
theorem hsX2_readItemEnd : Cond.selects RX2 yX2_readItemEnd yX2_readItemEnd ∈ eT := eT_in (i := 4) (by decide +kernel) rfl
theorem hwX2_nextToken : eMw yX2_nextToken cX2_nextToken 3 none 0 := ⟨eT_in (i := 363) (by decide +kernel) rfl, eT_in (i := 51) (by decide +kernel) rfl, by decide +kernel, by decide +kernel, by decide +kernel⟩
theorem hiX2_nextToken : Cond.instanceMethod yX2_nextToken ∈ eT := eT_in (i := 362) (by decide +kernel) rfl
theorem hsX2_nextToken : Cond.selects RX2 yX2_nextToken yX2_nextToken ∈ eT := eT_in (i := 0) (by decide +kernel) rfl
theorem hwX2_isDigit : eMw yX2_isDigit cX2_isDigit 1 (some .boolean) 1 := ⟨eT_in (i := 370) (by decide +kernel) rfl, eT_in (i := 51) (by decide +kernel) rfl, by decide +kernel, by decide +kernel, by decide +kernel⟩
theorem htX2_isDigit : Cond.static yX2_isDigit ∈ eT := eT_in (i := 369) (by decide +kernel) rfl
theorem hwX3_init : eMw yX3_init cX3_init 2 none 1 := ⟨eT_in (i := 259) (by decide +kernel) rfl, eT_in (i := 57) (by decide +kernel) rfl, by decide +kernel, by decide +kernel, by decide +kernel⟩
theorem hiX3_init : Cond.instanceMethod yX3_init ∈ eT := eT_in (i := 258) (by decide +kernel) rfl
theorem hwX3_lowerNumber : eMw yX3_lowerNumber cX3_lowerNumber 4 (some .int) 1 := ⟨eT_in (i := 786) (by decide +kernel) rfl, eT_in (i := 57) (by decide +kernel) rfl, by decide +kernel, by decide +kernel, by decide +kernel⟩
theorem hiX3_lowerNumber : Cond.instanceMethod yX3_lowerNumber ∈ eT := eT_in (i := 784) (by decide +kernel) rfl
theorem hsX3_lowerNumber : Cond.selects RX3 yX3_lowerNumber yX3_lowerNumber ∈ eT := eT_in (i := 785) (by decide +kernel) rfl
theorem hwX3_upperNumber : eMw yX3_upperNumber cX3_upperNumber 6 (some .int) 3 := ⟨eT_in (i := 767) (by decide +kernel) rfl, eT_in (i := 57) (by decide +kernel) rfl, by decide +kernel, by decide +kernel, by decide +kernel⟩
theorem hiX3_upperNumber : Cond.instanceMethod yX3_upperNumber ∈ eT := eT_in (i := 765) (by decide +kernel) rfl
theorem hsX3_upperNumber : Cond.selects RX3 yX3_upperNumber yX3_upperNumber ∈ eT := eT_in (i := 766) (by decide +kernel) rfl
theorem hwX3_foretell : eMw yX3_foretell cX3_foretell 7 none 2 := ⟨eT_in (i := 771) (by decide +kernel) rfl, eT_in (i := 57) (by decide +kernel) rfl, by decide +kernel, by decide +kernel, by decide +kernel⟩
theorem hiX3_foretell : Cond.instanceMethod yX3_foretell ∈ eT := eT_in (i := 770) (by decide +kernel) rfl
theorem hsX3_foretell : Cond.selects RX3 yX3_foretell yX3_foretell ∈ eT := eT_in (i := 13) (by decide +kernel) rfl
theorem hwX4_init : eMw yX4_init cX4_init 2 none 1 := ⟨eT_in (i := 173) (by decide +kernel) rfl, eT_in (i := 53) (by decide +kernel) rfl, by decide +kernel, by decide +kernel, by decide +kernel⟩
theorem hiX4_init : Cond.instanceMethod yX4_init ∈ eT := eT_in (i := 172) (by decide +kernel) rfl
theorem hwX4_known : eMw yX4_known cX4_known 1 (some .int) 0 := ⟨eT_in (i := 618) (by decide +kernel) rfl, eT_in (i := 53) (by decide +kernel) rfl, by decide +kernel, by decide +kernel, by decide +kernel⟩
theorem hiX4_known : Cond.instanceMethod yX4_known ∈ eT := eT_in (i := 616) (by decide +kernel) rfl
theorem hsX4_known : Cond.selects RX4 yX4_known yX4_known ∈ eT := eT_in (i := 617) (by decide +kernel) rfl
theorem hwX4_forget : eMw yX4_forget cX4_forget 1 none 0 := ⟨eT_in (i := 453) (by decide +kernel) rfl, eT_in (i := 53) (by decide +kernel) rfl, by decide +kernel, by decide +kernel, by decide +kernel⟩
theorem hiX4_forget : Cond.instanceMethod yX4_forget ∈ eT := eT_in (i := 451) (by decide +kernel) rfl
theorem hsX4_forget : Cond.selects RX4 yX4_forget yX4_forget ∈ eT := eT_in (i := 452) (by decide +kernel) rfl
theorem hwX4_remember : eMw yX4_remember cX4_remember 1 none 0 := ⟨eT_in (i := 626) (by decide +kernel) rfl, eT_in (i := 53) (by decide +kernel) rfl, by decide +kernel, by decide +kernel, by decide +kernel⟩
theorem hiX4_remember : Cond.instanceMethod yX4_remember ∈ eT := eT_in (i := 624) (by decide +kernel) rfl
theorem hsX4_remember : Cond.selects RX4 yX4_remember yX4_remember ∈ eT := eT_in (i := 625) (by decide +kernel) rfl
theorem hwX4_takeBack : eMw yX4_takeBack cX4_takeBack 1 (some .boolean) 0 := ⟨eT_in (i := 678) (by decide +kernel) rfl, eT_in (i := 53) (by decide +kernel) rfl, by decide +kernel, by decide +kernel, by decide +kernel⟩
theorem hiX4_takeBack : Cond.instanceMethod yX4_takeBack ∈ eT := eT_in (i := 676) (by decide +kernel) rfl
theorem hsX4_takeBack : Cond.selects RX4 yX4_takeBack yX4_takeBack ∈ eT := eT_in (i := 677) (by decide +kernel) rfl
theorem hwX5_init : eMw yX5_init cX5_init 3 none 2 := ⟨eT_in (i := 281) (by decide +kernel) rfl, eT_in (i := 58) (by decide +kernel) rfl, by decide +kernel, by decide +kernel, by decide +kernel⟩
theorem hiX5_init : Cond.instanceMethod yX5_init ∈ eT := eT_in (i := 280) (by decide +kernel) rfl
theorem hwX5_traced : eMw yX5_traced cX5_traced 1 (some .long) 0 := ⟨eT_in (i := 877) (by decide +kernel) rfl, eT_in (i := 58) (by decide +kernel) rfl, by decide +kernel, by decide +kernel, by decide +kernel⟩
theorem hiX5_traced : Cond.instanceMethod yX5_traced ∈ eT := eT_in (i := 875) (by decide +kernel) rfl
theorem hsX5_traced : Cond.selects RX5 yX5_traced yX5_traced ∈ eT := eT_in (i := 876) (by decide +kernel) rfl
theorem hwX5_asBolt : eMw yX5_asBolt cX5_asBolt 2 (some .int) 1 := ⟨eT_in (i := 813) (by decide +kernel) rfl, eT_in (i := 58) (by decide +kernel) rfl, by decide +kernel, by decide +kernel, by decide +kernel⟩
theorem hiX5_asBolt : Cond.instanceMethod yX5_asBolt ∈ eT := eT_in (i := 811) (by decide +kernel) rfl
theorem hsX5_asBolt : Cond.selects RX5 yX5_asBolt yX5_asBolt ∈ eT := eT_in (i := 812) (by decide +kernel) rfl
theorem hwX5_asLane : eMw yX5_asLane cX5_asLane 2 (some .int) 1 := ⟨eT_in (i := 818) (by decide +kernel) rfl, eT_in (i := 58) (by decide +kernel) rfl, by decide +kernel, by decide +kernel, by decide +kernel⟩
theorem hiX5_asLane : Cond.instanceMethod yX5_asLane ∈ eT := eT_in (i := 816) (by decide +kernel) rfl
theorem hsX5_asLane : Cond.selects RX5 yX5_asLane yX5_asLane ∈ eT := eT_in (i := 817) (by decide +kernel) rfl
theorem hwX5_asToll : eMw yX5_asToll cX5_asToll 2 (some .int) 1 := ⟨eT_in (i := 825) (by decide +kernel) rfl, eT_in (i := 58) (by decide +kernel) rfl, by decide +kernel, by decide +kernel, by decide +kernel⟩
theorem hiX5_asToll : Cond.instanceMethod yX5_asToll ∈ eT := eT_in (i := 823) (by decide +kernel) rfl
theorem hsX5_asToll : Cond.selects RX5 yX5_asToll yX5_asToll ∈ eT := eT_in (i := 824) (by decide +kernel) rfl
theorem hwX5_asTrack : eMw yX5_asTrack cX5_asTrack 2 (some .int) 1 := ⟨eT_in (i := 831) (by decide +kernel) rfl, eT_in (i := 58) (by decide +kernel) rfl, by decide +kernel, by decide +kernel, by decide +kernel⟩
theorem hiX5_asTrack : Cond.instanceMethod yX5_asTrack ∈ eT := eT_in (i := 829) (by decide +kernel) rfl
theorem hsX5_asTrack : Cond.selects RX5 yX5_asTrack yX5_asTrack ∈ eT := eT_in (i := 830) (by decide +kernel) rfl
theorem hwX5_asMoth : eMw yX5_asMoth cX5_asMoth 2 (some .int) 1 := ⟨eT_in (i := 837) (by decide +kernel) rfl, eT_in (i := 58) (by decide +kernel) rfl, by decide +kernel, by decide +kernel, by decide +kernel⟩
theorem hiX5_asMoth : Cond.instanceMethod yX5_asMoth ∈ eT := eT_in (i := 835) (by decide +kernel) rfl
theorem hsX5_asMoth : Cond.selects RX5 yX5_asMoth yX5_asMoth ∈ eT := eT_in (i := 836) (by decide +kernel) rfl
theorem hwX5_asDream : eMw yX5_asDream cX5_asDream 2 (some .int) 1 := ⟨eT_in (i := 843) (by decide +kernel) rfl, eT_in (i := 58) (by decide +kernel) rfl, by decide +kernel, by decide +kernel, by decide +kernel⟩
theorem hiX5_asDream : Cond.instanceMethod yX5_asDream ∈ eT := eT_in (i := 841) (by decide +kernel) rfl
theorem hsX5_asDream : Cond.selects RX5 yX5_asDream yX5_asDream ∈ eT := eT_in (i := 842) (by decide +kernel) rfl
theorem hwX6_init : eMw yX6_init cX6_init 2 none 1 := ⟨eT_in (i := 196) (by decide +kernel) rfl, eT_in (i := 54) (by decide +kernel) rfl, by decide +kernel, by decide +kernel, by decide +kernel⟩
theorem hiX6_init : Cond.instanceMethod yX6_init ∈ eT := eT_in (i := 195) (by decide +kernel) rfl
theorem hwX6_lay : eMw yX6_lay cX6_lay 6 none 1 := ⟨eT_in (i := 542) (by decide +kernel) rfl, eT_in (i := 54) (by decide +kernel) rfl, by decide +kernel, by decide +kernel, by decide +kernel⟩
theorem hiX6_lay : Cond.instanceMethod yX6_lay ∈ eT := eT_in (i := 540) (by decide +kernel) rfl
theorem hsX6_lay : Cond.selects RX6 yX6_lay yX6_lay ∈ eT := eT_in (i := 541) (by decide +kernel) rfl
theorem hwX6_layWhereSlope : eMw yX6_layWhereSlope cX6_layWhereSlope 5 none 1 := ⟨eT_in (i := 613) (by decide +kernel) rfl, eT_in (i := 54) (by decide +kernel) rfl, by decide +kernel, by decide +kernel, by decide +kernel⟩
theorem hiX6_layWhereSlope : Cond.instanceMethod yX6_layWhereSlope ∈ eT := eT_in (i := 611) (by decide +kernel) rfl
theorem hsX6_layWhereSlope : Cond.selects RX6 yX6_layWhereSlope yX6_layWhereSlope ∈ eT := eT_in (i := 612) (by decide +kernel) rfl
theorem hwX6_layBetween : eMw yX6_layBetween cX6_layBetween 3 none 2 := ⟨eT_in (i := 553) (by decide +kernel) rfl, eT_in (i := 54) (by decide +kernel) rfl, by decide +kernel, by decide +kernel, by decide +kernel⟩
theorem hiX6_layBetween : Cond.instanceMethod yX6_layBetween ∈ eT := eT_in (i := 552) (by decide +kernel) rfl
theorem hsX6_layBetween : Cond.selects RX6 yX6_layBetween yX6_layBetween ∈ eT := eT_in (i := 8) (by decide +kernel) rfl
theorem hwX6_goes : eMw yX6_goes cX6_goes 3 (some .boolean) 2 := ⟨eT_in (i := 558) (by decide +kernel) rfl, eT_in (i := 54) (by decide +kernel) rfl, by decide +kernel, by decide +kernel, by decide +kernel⟩
theorem hiX6_goes : Cond.instanceMethod yX6_goes ∈ eT := eT_in (i := 556) (by decide +kernel) rfl
theorem hsX6_goes : Cond.selects RX6 yX6_goes yX6_goes ∈ eT := eT_in (i := 557) (by decide +kernel) rfl
theorem hwX6_spread : eMw yX6_spread cX6_spread 5 (some .int) 1 := ⟨eT_in (i := 585) (by decide +kernel) rfl, eT_in (i := 54) (by decide +kernel) rfl, by decide +kernel, by decide +kernel, by decide +kernel⟩
theorem hiX6_spread : Cond.instanceMethod yX6_spread ∈ eT := eT_in (i := 583) (by decide +kernel) rfl
theorem hsX6_spread : Cond.selects RX6 yX6_spread yX6_spread ∈ eT := eT_in (i := 584) (by decide +kernel) rfl
theorem hwX6_reach : eMw yX6_reach cX6_reach 6 (some .int) 2 := ⟨eT_in (i := 581) (by decide +kernel) rfl, eT_in (i := 54) (by decide +kernel) rfl, by decide +kernel, by decide +kernel, by decide +kernel⟩
theorem hiX6_reach : Cond.instanceMethod yX6_reach ∈ eT := eT_in (i := 579) (by decide +kernel) rfl
theorem hsX6_reach : Cond.selects RX6 yX6_reach yX6_reach ∈ eT := eT_in (i := 580) (by decide +kernel) rfl
theorem hwX6_pieces : eMw yX6_pieces cX6_pieces 5 (some .int) 0 := ⟨eT_in (i := 575) (by decide +kernel) rfl, eT_in (i := 54) (by decide +kernel) rfl, by decide +kernel, by decide +kernel, by decide +kernel⟩
theorem hiX6_pieces : Cond.instanceMethod yX6_pieces ∈ eT := eT_in (i := 573) (by decide +kernel) rfl
theorem hsX6_pieces : Cond.selects RX6 yX6_pieces yX6_pieces ∈ eT := eT_in (i := 574) (by decide +kernel) rfl
theorem hwX6_steepest : eMw yX6_steepest cX6_steepest 5 (some .int) 0 := ⟨eT_in (i := 599) (by decide +kernel) rfl, eT_in (i := 54) (by decide +kernel) rfl, by decide +kernel, by decide +kernel, by decide +kernel⟩
theorem hiX6_steepest : Cond.instanceMethod yX6_steepest ∈ eT := eT_in (i := 597) (by decide +kernel) rfl
theorem hsX6_steepest : Cond.selects RX6 yX6_steepest yX6_steepest ∈ eT := eT_in (i := 598) (by decide +kernel) rfl
theorem hwX6_fewestDarners : eMw yX6_fewestDarners cX6_fewestDarners 7 (some .int) 1 := ⟨eT_in (i := 757) (by decide +kernel) rfl, eT_in (i := 54) (by decide +kernel) rfl, by decide +kernel, by decide +kernel, by decide +kernel⟩
theorem hiX6_fewestDarners : Cond.instanceMethod yX6_fewestDarners ∈ eT := eT_in (i := 755) (by decide +kernel) rfl
theorem hsX6_fewestDarners : Cond.selects RX6 yX6_fewestDarners yX6_fewestDarners ∈ eT := eT_in (i := 756) (by decide +kernel) rfl
theorem hwX7_init : eMw yX7_init cX7_init 2 none 1 := ⟨eT_in (i := 79) (by decide +kernel) rfl, eT_in (i := 49) (by decide +kernel) rfl, by decide +kernel, by decide +kernel, by decide +kernel⟩
theorem hiX7_init : Cond.instanceMethod yX7_init ∈ eT := eT_in (i := 78) (by decide +kernel) rfl
theorem hwX7_get : eMw yX7_get cX7_get 2 (some .int) 1 := ⟨eT_in (i := 367) (by decide +kernel) rfl, eT_in (i := 49) (by decide +kernel) rfl, by decide +kernel, by decide +kernel, by decide +kernel⟩
theorem hiX7_get : Cond.instanceMethod yX7_get ∈ eT := eT_in (i := 365) (by decide +kernel) rfl
theorem hsX7_get : Cond.selects RX7 yX7_get yX7_get ∈ eT := eT_in (i := 366) (by decide +kernel) rfl
theorem hwX7_put : eMw yX7_put cX7_put 3 none 2 := ⟨eT_in (i := 338) (by decide +kernel) rfl, eT_in (i := 49) (by decide +kernel) rfl, by decide +kernel, by decide +kernel, by decide +kernel⟩
theorem hiX7_put : Cond.instanceMethod yX7_put ∈ eT := eT_in (i := 336) (by decide +kernel) rfl
theorem hsX7_put : Cond.selects RX7 yX7_put yX7_put ∈ eT := eT_in (i := 337) (by decide +kernel) rfl
theorem hwX7_fill : eMw yX7_fill cX7_fill 3 none 1 := ⟨eT_in (i := 96) (by decide +kernel) rfl, eT_in (i := 49) (by decide +kernel) rfl, by decide +kernel, by decide +kernel, by decide +kernel⟩
theorem hiX7_fill : Cond.instanceMethod yX7_fill ∈ eT := eT_in (i := 94) (by decide +kernel) rfl
theorem hsX7_fill : Cond.selects RX7 yX7_fill yX7_fill ∈ eT := eT_in (i := 95) (by decide +kernel) rfl
theorem hwX8_init : eMw yX8_init cX8_init 4 none 3 := ⟨eT_in (i := 212) (by decide +kernel) rfl, eT_in (i := 55) (by decide +kernel) rfl, by decide +kernel, by decide +kernel, by decide +kernel⟩
theorem hiX8_init : Cond.instanceMethod yX8_init ∈ eT := eT_in (i := 211) (by decide +kernel) rfl
theorem hwX8_soonest : eMw yX8_soonest cX8_soonest 7 (some .int) 2 := ⟨eT_in (i := 732) (by decide +kernel) rfl, eT_in (i := 55) (by decide +kernel) rfl, by decide +kernel, by decide +kernel, by decide +kernel⟩
theorem hiX8_soonest : Cond.instanceMethod yX8_soonest ∈ eT := eT_in (i := 730) (by decide +kernel) rfl
theorem hsX8_soonest : Cond.selects RX8 yX8_soonest yX8_soonest ∈ eT := eT_in (i := 731) (by decide +kernel) rfl
theorem hwX8_goOn : eMw yX8_goOn cX8_goOn 8 (some .boolean) 2 := ⟨eT_in (i := 744) (by decide +kernel) rfl, eT_in (i := 55) (by decide +kernel) rfl, by decide +kernel, by decide +kernel, by decide +kernel⟩
theorem hiX8_goOn : Cond.instanceMethod yX8_goOn ∈ eT := eT_in (i := 743) (by decide +kernel) rfl
theorem hsX8_goOn : Cond.selects RX8 yX8_goOn yX8_goOn ∈ eT := eT_in (i := 12) (by decide +kernel) rfl
theorem hwX9_init : eMw yX9_init cX9_init 3 none 2 := ⟨eT_in (i := 233) (by decide +kernel) rfl, eT_in (i := 56) (by decide +kernel) rfl, by decide +kernel, by decide +kernel, by decide +kernel⟩
theorem hiX9_init : Cond.instanceMethod yX9_init ∈ eT := eT_in (i := 232) (by decide +kernel) rfl
theorem hwX9_leastSlope : eMw yX9_leastSlope cX9_leastSlope 2 (some .int) 0 := ⟨eT_in (i := 609) (by decide +kernel) rfl, eT_in (i := 56) (by decide +kernel) rfl, by decide +kernel, by decide +kernel, by decide +kernel⟩
theorem hiX9_leastSlope : Cond.instanceMethod yX9_leastSlope ∈ eT := eT_in (i := 607) (by decide +kernel) rfl
theorem hsX9_leastSlope : Cond.selects RX9 yX9_leastSlope yX9_leastSlope ∈ eT := eT_in (i := 608) (by decide +kernel) rfl
theorem hwX9_fewestElls : eMw yX9_fewestElls cX9_fewestElls 4 (some .int) 0 := ⟨eT_in (i := 696) (by decide +kernel) rfl, eT_in (i := 56) (by decide +kernel) rfl, by decide +kernel, by decide +kernel, by decide +kernel⟩
theorem hiX9_fewestElls : Cond.instanceMethod yX9_fewestElls ∈ eT := eT_in (i := 694) (by decide +kernel) rfl
theorem hsX9_fewestElls : Cond.selects RX9 yX9_fewestElls yX9_fewestElls ∈ eT := eT_in (i := 695) (by decide +kernel) rfl
theorem hwX9_cellsJoined : eMw yX9_cellsJoined cX9_cellsJoined 5 (some .int) 2 := ⟨eT_in (i := 709) (by decide +kernel) rfl, eT_in (i := 56) (by decide +kernel) rfl, by decide +kernel, by decide +kernel, by decide +kernel⟩
theorem hiX9_cellsJoined : Cond.instanceMethod yX9_cellsJoined ∈ eT := eT_in (i := 708) (by decide +kernel) rfl
theorem hsX9_cellsJoined : Cond.selects RX9 yX9_cellsJoined yX9_cellsJoined ∈ eT := eT_in (i := 10) (by decide +kernel) rfl
theorem hwX9_cellsWherePartsMeet : eMw yX9_cellsWherePartsMeet cX9_cellsWherePartsMeet 6 (some .int) 2 := ⟨eT_in (i := 720) (by decide +kernel) rfl, eT_in (i := 56) (by decide +kernel) rfl, by decide +kernel, by decide +kernel, by decide +kernel⟩
theorem hiX9_cellsWherePartsMeet : Cond.instanceMethod yX9_cellsWherePartsMeet ∈ eT := eT_in (i := 719) (by decide +kernel) rfl
theorem hsX9_cellsWherePartsMeet : Cond.selects RX9 yX9_cellsWherePartsMeet yX9_cellsWherePartsMeet ∈ eT := eT_in (i := 11) (by decide +kernel) rfl
theorem hwX9_placeOf : eMw yX9_placeOf cX9_placeOf 2 (some .int) 2 := ⟨eT_in (i := 705) (by decide +kernel) rfl, eT_in (i := 56) (by decide +kernel) rfl, by decide +kernel, by decide +kernel, by decide +kernel⟩
theorem htX9_placeOf : Cond.static yX9_placeOf ∈ eT := eT_in (i := 704) (by decide +kernel) rfl
theorem hwX10_init : eMw yX10_init cX10_init 1 none 0 := ⟨eT_in (i := 65) (by decide +kernel) rfl, eT_in (i := 47) (by decide +kernel) rfl, by decide +kernel, by decide +kernel, by decide +kernel⟩
theorem hiX10_init : Cond.instanceMethod yX10_init ∈ eT := eT_in (i := 64) (by decide +kernel) rfl
theorem hwX10_type : eMw yX10_type cX10_type 2 (some .int) 1 := ⟨eT_in (i := 330) (by decide +kernel) rfl, eT_in (i := 47) (by decide +kernel) rfl, by decide +kernel, by decide +kernel, by decide +kernel⟩
theorem hiX10_type : Cond.instanceMethod yX10_type ∈ eT := eT_in (i := 328) (by decide +kernel) rfl
theorem hsX10_type : Cond.selects RX10 yX10_type yX10_type ∈ eT := eT_in (i := 329) (by decide +kernel) rfl
theorem hwX10_clear : eMw yX10_clear cX10_clear 2 (some .int) 0 := ⟨eT_in (i := 346) (by decide +kernel) rfl, eT_in (i := 47) (by decide +kernel) rfl, by decide +kernel, by decide +kernel, by decide +kernel⟩
theorem hiX10_clear : Cond.instanceMethod yX10_clear ∈ eT := eT_in (i := 344) (by decide +kernel) rfl
theorem hsX10_clear : Cond.selects RX10 yX10_clear yX10_clear ∈ eT := eT_in (i := 345) (by decide +kernel) rfl
theorem hwX10_land : eMw yX10_land cX10_land 2 (some .int) 0 := ⟨eT_in (i := 354) (by decide +kernel) rfl, eT_in (i := 47) (by decide +kernel) rfl, by decide +kernel, by decide +kernel, by decide +kernel⟩
theorem hiX10_land : Cond.instanceMethod yX10_land ∈ eT := eT_in (i := 352) (by decide +kernel) rfl
theorem hsX10_land : Cond.selects RX10 yX10_land yX10_land ∈ eT := eT_in (i := 353) (by decide +kernel) rfl
theorem hwX10_height : eMw yX10_height cX10_height 2 (some .int) 1 := ⟨eT_in (i := 457) (by decide +kernel) rfl, eT_in (i := 47) (by decide +kernel) rfl, by decide +kernel, by decide +kernel, by decide +kernel⟩
theorem hiX10_height : Cond.instanceMethod yX10_height ∈ eT := eT_in (i := 455) (by decide +kernel) rfl
theorem hsX10_height : Cond.selects RX10 yX10_height yX10_height ∈ eT := eT_in (i := 456) (by decide +kernel) rfl
theorem hwX10_town : eMw yX10_town cX10_town 2 (some .int) 1 := ⟨eT_in (i := 470) (by decide +kernel) rfl, eT_in (i := 47) (by decide +kernel) rfl, by decide +kernel, by decide +kernel, by decide +kernel⟩
theorem hiX10_town : Cond.instanceMethod yX10_town ∈ eT := eT_in (i := 468) (by decide +kernel) rfl
theorem hsX10_town : Cond.selects RX10 yX10_town yX10_town ∈ eT := eT_in (i := 469) (by decide +kernel) rfl
theorem hwX10_bolt : eMw yX10_bolt cX10_bolt 3 (some .int) 2 := ⟨eT_in (i := 479) (by decide +kernel) rfl, eT_in (i := 47) (by decide +kernel) rfl, by decide +kernel, by decide +kernel, by decide +kernel⟩
theorem hiX10_bolt : Cond.instanceMethod yX10_bolt ∈ eT := eT_in (i := 477) (by decide +kernel) rfl
theorem hsX10_bolt : Cond.selects RX10 yX10_bolt yX10_bolt ∈ eT := eT_in (i := 478) (by decide +kernel) rfl
theorem hwX10_card : eMw yX10_card cX10_card 3 (some .int) 2 := ⟨eT_in (i := 530) (by decide +kernel) rfl, eT_in (i := 47) (by decide +kernel) rfl, by decide +kernel, by decide +kernel, by decide +kernel⟩
theorem hiX10_card : Cond.instanceMethod yX10_card ∈ eT := eT_in (i := 528) (by decide +kernel) rfl
theorem hsX10_card : Cond.selects RX10 yX10_card yX10_card ∈ eT := eT_in (i := 529) (by decide +kernel) rfl
theorem hwX10_road : eMw yX10_road cX10_road 3 (some .int) 2 := ⟨eT_in (i := 535) (by decide +kernel) rfl, eT_in (i := 47) (by decide +kernel) rfl, by decide +kernel, by decide +kernel, by decide +kernel⟩
theorem hiX10_road : Cond.instanceMethod yX10_road ∈ eT := eT_in (i := 533) (by decide +kernel) rfl
theorem hsX10_road : Cond.selects RX10 yX10_road yX10_road ∈ eT := eT_in (i := 534) (by decide +kernel) rfl
theorem hwX10_now : eMw yX10_now cX10_now 2 (some .int) 1 := ⟨eT_in (i := 566) (by decide +kernel) rfl, eT_in (i := 47) (by decide +kernel) rfl, by decide +kernel, by decide +kernel, by decide +kernel⟩
theorem hiX10_now : Cond.instanceMethod yX10_now ∈ eT := eT_in (i := 564) (by decide +kernel) rfl
theorem hsX10_now : Cond.selects RX10 yX10_now yX10_now ∈ eT := eT_in (i := 565) (by decide +kernel) rfl
theorem hwX10_begins : eMw yX10_begins cX10_begins 2 (some .int) 1 := ⟨eT_in (i := 622) (by decide +kernel) rfl, eT_in (i := 47) (by decide +kernel) rfl, by decide +kernel, by decide +kernel, by decide +kernel⟩
theorem hiX10_begins : Cond.instanceMethod yX10_begins ∈ eT := eT_in (i := 620) (by decide +kernel) rfl
theorem hsX10_begins : Cond.selects RX10 yX10_begins yX10_begins ∈ eT := eT_in (i := 621) (by decide +kernel) rfl
theorem hwX10_weaves : eMw yX10_weaves cX10_weaves 4 (some .int) 2 := ⟨eT_in (i := 639) (by decide +kernel) rfl, eT_in (i := 47) (by decide +kernel) rfl, by decide +kernel, by decide +kernel, by decide +kernel⟩
theorem hiX10_weaves : Cond.instanceMethod yX10_weaves ∈ eT := eT_in (i := 637) (by decide +kernel) rfl
theorem hsX10_weaves : Cond.selects RX10 yX10_weaves yX10_weaves ∈ eT := eT_in (i := 638) (by decide +kernel) rfl
theorem hwX10_turnAbout : eMw yX10_turnAbout cX10_turnAbout 2 (some .int) 1 := ⟨eT_in (i := 654) (by decide +kernel) rfl, eT_in (i := 47) (by decide +kernel) rfl, by decide +kernel, by decide +kernel, by decide +kernel⟩
theorem hiX10_turnAbout : Cond.instanceMethod yX10_turnAbout ∈ eT := eT_in (i := 652) (by decide +kernel) rfl
theorem hsX10_turnAbout : Cond.selects RX10 yX10_turnAbout yX10_turnAbout ∈ eT := eT_in (i := 653) (by decide +kernel) rfl
theorem hwX10_rain : eMw yX10_rain cX10_rain 1 (some .int) 0 := ⟨eT_in (i := 666) (by decide +kernel) rfl, eT_in (i := 47) (by decide +kernel) rfl, by decide +kernel, by decide +kernel, by decide +kernel⟩
theorem hiX10_rain : Cond.instanceMethod yX10_rain ∈ eT := eT_in (i := 664) (by decide +kernel) rfl
theorem hsX10_rain : Cond.selects RX10 yX10_rain yX10_rain ∈ eT := eT_in (i := 665) (by decide +kernel) rfl
theorem hwX10_undo : eMw yX10_undo cX10_undo 1 (some .int) 0 := ⟨eT_in (i := 674) (by decide +kernel) rfl, eT_in (i := 47) (by decide +kernel) rfl, by decide +kernel, by decide +kernel, by decide +kernel⟩
theorem hiX10_undo : Cond.instanceMethod yX10_undo ∈ eT := eT_in (i := 672) (by decide +kernel) rfl
theorem hsX10_undo : Cond.selects RX10 yX10_undo yX10_undo ∈ eT := eT_in (i := 673) (by decide +kernel) rfl
theorem hwX10_joined : eMw yX10_joined cX10_joined 3 (some .int) 2 := ⟨eT_in (i := 686) (by decide +kernel) rfl, eT_in (i := 47) (by decide +kernel) rfl, by decide +kernel, by decide +kernel, by decide +kernel⟩
theorem hiX10_joined : Cond.instanceMethod yX10_joined ∈ eT := eT_in (i := 684) (by decide +kernel) rfl
theorem hsX10_joined : Cond.selects RX10 yX10_joined yX10_joined ∈ eT := eT_in (i := 685) (by decide +kernel) rfl
theorem hwX10_toWeave : eMw yX10_toWeave cX10_toWeave 1 (some .int) 0 := ⟨eT_in (i := 692) (by decide +kernel) rfl, eT_in (i := 47) (by decide +kernel) rfl, by decide +kernel, by decide +kernel, by decide +kernel⟩
theorem hiX10_toWeave : Cond.instanceMethod yX10_toWeave ∈ eT := eT_in (i := 690) (by decide +kernel) rfl
theorem hsX10_toWeave : Cond.selects RX10 yX10_toWeave yX10_toWeave ∈ eT := eT_in (i := 691) (by decide +kernel) rfl
theorem hwX10_way : eMw yX10_way cX10_way 3 (some .int) 2 := ⟨eT_in (i := 728) (by decide +kernel) rfl, eT_in (i := 47) (by decide +kernel) rfl, by decide +kernel, by decide +kernel, by decide +kernel⟩
theorem hiX10_way : Cond.instanceMethod yX10_way ∈ eT := eT_in (i := 726) (by decide +kernel) rfl
theorem hsX10_way : Cond.selects RX10 yX10_way yX10_way ∈ eT := eT_in (i := 727) (by decide +kernel) rfl
theorem hwX10_darners : eMw yX10_darners cX10_darners 2 (some .int) 1 := ⟨eT_in (i := 753) (by decide +kernel) rfl, eT_in (i := 47) (by decide +kernel) rfl, by decide +kernel, by decide +kernel, by decide +kernel⟩
theorem hiX10_darners : Cond.instanceMethod yX10_darners ∈ eT := eT_in (i := 751) (by decide +kernel) rfl
theorem hsX10_darners : Cond.selects RX10 yX10_darners yX10_darners ∈ eT := eT_in (i := 752) (by decide +kernel) rfl
theorem hwX10_odds : eMw yX10_odds cX10_odds 8 (some .int) 3 := ⟨eT_in (i := 763) (by decide +kernel) rfl, eT_in (i := 47) (by decide +kernel) rfl, by decide +kernel, by decide +kernel, by decide +kernel⟩
theorem hiX10_odds : Cond.instanceMethod yX10_odds ∈ eT := eT_in (i := 761) (by decide +kernel) rfl
theorem hsX10_odds : Cond.selects RX10 yX10_odds yX10_odds ∈ eT := eT_in (i := 762) (by decide +kernel) rfl
theorem hwX10_wrong : eMw yX10_wrong cX10_wrong 8 (some .int) 3 := ⟨eT_in (i := 793) (by decide +kernel) rfl, eT_in (i := 47) (by decide +kernel) rfl, by decide +kernel, by decide +kernel, by decide +kernel⟩
theorem hiX10_wrong : Cond.instanceMethod yX10_wrong ∈ eT := eT_in (i := 791) (by decide +kernel) rfl
theorem hsX10_wrong : Cond.selects RX10 yX10_wrong yX10_wrong ∈ eT := eT_in (i := 792) (by decide +kernel) rfl
theorem hwX10_look : eMw yX10_look cX10_look 6 (some .int) 2 := ⟨eT_in (i := 802) (by decide +kernel) rfl, eT_in (i := 47) (by decide +kernel) rfl, by decide +kernel, by decide +kernel, by decide +kernel⟩
theorem hiX10_look : Cond.instanceMethod yX10_look ∈ eT := eT_in (i := 800) (by decide +kernel) rfl
theorem hsX10_look : Cond.selects RX10 yX10_look yX10_look ∈ eT := eT_in (i := 801) (by decide +kernel) rfl
theorem hwX10_rate : eMw yX10_rate cX10_rate 3 (some .int) 2 := ⟨eT_in (i := 808) (by decide +kernel) rfl, eT_in (i := 47) (by decide +kernel) rfl, by decide +kernel, by decide +kernel, by decide +kernel⟩
theorem hiX10_rate : Cond.instanceMethod yX10_rate ∈ eT := eT_in (i := 806) (by decide +kernel) rfl
theorem hsX10_rate : Cond.selects RX10 yX10_rate yX10_rate ∈ eT := eT_in (i := 807) (by decide +kernel) rfl
theorem hwX10_keep : eMw yX10_keep cX10_keep 2 (some .int) 1 := ⟨eT_in (i := 850) (by decide +kernel) rfl, eT_in (i := 47) (by decide +kernel) rfl, by decide +kernel, by decide +kernel, by decide +kernel⟩
theorem hiX10_keep : Cond.instanceMethod yX10_keep ∈ eT := eT_in (i := 848) (by decide +kernel) rfl
theorem hsX10_keep : Cond.selects RX10 yX10_keep yX10_keep ∈ eT := eT_in (i := 849) (by decide +kernel) rfl
theorem hwX10_back : eMw yX10_back cX10_back 2 (some .int) 1 := ⟨eT_in (i := 858) (by decide +kernel) rfl, eT_in (i := 47) (by decide +kernel) rfl, by decide +kernel, by decide +kernel, by decide +kernel⟩
theorem hiX10_back : Cond.instanceMethod yX10_back ∈ eT := eT_in (i := 856) (by decide +kernel) rfl
theorem hsX10_back : Cond.selects RX10 yX10_back yX10_back ∈ eT := eT_in (i := 857) (by decide +kernel) rfl
theorem hwX10_count : eMw yX10_count cX10_count 2 (some .int) 1 := ⟨eT_in (i := 863) (by decide +kernel) rfl, eT_in (i := 47) (by decide +kernel) rfl, by decide +kernel, by decide +kernel, by decide +kernel⟩
theorem hiX10_count : Cond.instanceMethod yX10_count ∈ eT := eT_in (i := 861) (by decide +kernel) rfl
theorem hsX10_count : Cond.selects RX10 yX10_count yX10_count ∈ eT := eT_in (i := 862) (by decide +kernel) rfl
theorem hwX10_trace : eMw yX10_trace cX10_trace 1 (some .long) 0 := ⟨eT_in (i := 873) (by decide +kernel) rfl, eT_in (i := 47) (by decide +kernel) rfl, by decide +kernel, by decide +kernel, by decide +kernel⟩
theorem hiX10_trace : Cond.instanceMethod yX10_trace ∈ eT := eT_in (i := 871) (by decide +kernel) rfl
theorem hsX10_trace : Cond.selects RX10 yX10_trace yX10_trace ∈ eT := eT_in (i := 872) (by decide +kernel) rfl
theorem hwX10_isCard : eMw yX10_isCard cX10_isCard 1 (some .boolean) 1 := ⟨eT_in (i := 538) (by decide +kernel) rfl, eT_in (i := 47) (by decide +kernel) rfl, by decide +kernel, by decide +kernel, by decide +kernel⟩
theorem htX10_isCard : Cond.static yX10_isCard ∈ eT := eT_in (i := 537) (by decide +kernel) rfl
theorem hwX10_isImage : eMw yX10_isImage cX10_isImage 1 (some .boolean) 1 := ⟨eT_in (i := 853) (by decide +kernel) rfl, eT_in (i := 47) (by decide +kernel) rfl, by decide +kernel, by decide +kernel, by decide +kernel⟩
theorem htX10_isImage : Cond.static yX10_isImage ∈ eT := eT_in (i := 852) (by decide +kernel) rfl
theorem hwX10_bit : eMw yX10_bit cX10_bit 1 (some .int) 1 := ⟨eT_in (i := 238) (by decide +kernel) rfl, eT_in (i := 47) (by decide +kernel) rfl, by decide +kernel, by decide +kernel, by decide +kernel⟩
theorem htX10_bit : Cond.static yX10_bit ∈ eT := eT_in (i := 237) (by decide +kernel) rfl
theorem hwX10_commonDivisor : eMw yX10_commonDivisor cX10_commonDivisor 6 (some .int) 2 := ⟨eT_in (i := 789) (by decide +kernel) rfl, eT_in (i := 47) (by decide +kernel) rfl, by decide +kernel, by decide +kernel, by decide +kernel⟩
theorem htX10_commonDivisor : Cond.static yX10_commonDivisor ∈ eT := eT_in (i := 788) (by decide +kernel) rfl
theorem hwX11_init : eMw yX11_init cX11_init 1 none 0 := ⟨eT_in (i := 882) (by decide +kernel) rfl, eT_in (i := 59) (by decide +kernel) rfl, by decide +kernel, by decide +kernel, by decide +kernel⟩
theorem hiX11_init : Cond.instanceMethod yX11_init ∈ eT := eT_in (i := 881) (by decide +kernel) rfl
theorem hwX11_in : eMw yX11_in cX11_in 3 (some .boolean) 3 := ⟨eT_in (i := 961) (by decide +kernel) rfl, eT_in (i := 59) (by decide +kernel) rfl, by decide +kernel, by decide +kernel, by decide +kernel⟩
theorem htX11_in : Cond.static yX11_in ∈ eT := eT_in (i := 960) (by decide +kernel) rfl
theorem hwX11_ones : eMw yX11_ones cX11_ones 3 (some .int) 1 := ⟨eT_in (i := 1158) (by decide +kernel) rfl, eT_in (i := 59) (by decide +kernel) rfl, by decide +kernel, by decide +kernel, by decide +kernel⟩
theorem htX11_ones : Cond.static yX11_ones ∈ eT := eT_in (i := 1157) (by decide +kernel) rfl
theorem hwX11_type : eMw yX11_type cX11_type 2 (some .int) 1 := ⟨eT_in (i := 958) (by decide +kernel) rfl, eT_in (i := 59) (by decide +kernel) rfl, by decide +kernel, by decide +kernel, by decide +kernel⟩
theorem hiX11_type : Cond.instanceMethod yX11_type ∈ eT := eT_in (i := 956) (by decide +kernel) rfl
theorem hsX11_type : Cond.selects RX11 yX11_type yX11_type ∈ eT := eT_in (i := 957) (by decide +kernel) rfl
theorem hwX11_clear : eMw yX11_clear cX11_clear 2 (some .int) 0 := ⟨eT_in (i := 965) (by decide +kernel) rfl, eT_in (i := 59) (by decide +kernel) rfl, by decide +kernel, by decide +kernel, by decide +kernel⟩
theorem hiX11_clear : Cond.instanceMethod yX11_clear ∈ eT := eT_in (i := 963) (by decide +kernel) rfl
theorem hsX11_clear : Cond.selects RX11 yX11_clear yX11_clear ∈ eT := eT_in (i := 964) (by decide +kernel) rfl
theorem hwX11_letterAt : eMw yX11_letterAt cX11_letterAt 2 (some .int) 1 := ⟨eT_in (i := 977) (by decide +kernel) rfl, eT_in (i := 59) (by decide +kernel) rfl, by decide +kernel, by decide +kernel, by decide +kernel⟩
theorem hiX11_letterAt : Cond.instanceMethod yX11_letterAt ∈ eT := eT_in (i := 976) (by decide +kernel) rfl
theorem hsX11_letterAt : Cond.selects RX11 yX11_letterAt yX11_letterAt ∈ eT := eT_in (i := 15) (by decide +kernel) rfl
theorem hwX11_advances : eMw yX11_advances cX11_advances 2 none 0 := ⟨eT_in (i := 973) (by decide +kernel) rfl, eT_in (i := 59) (by decide +kernel) rfl, by decide +kernel, by decide +kernel, by decide +kernel⟩
theorem hiX11_advances : Cond.instanceMethod yX11_advances ∈ eT := eT_in (i := 972) (by decide +kernel) rfl
theorem hsX11_advances : Cond.selects RX11 yX11_advances yX11_advances ∈ eT := eT_in (i := 14) (by decide +kernel) rfl
theorem hwX11_isWell : eMw yX11_isWell cX11_isWell 1 (some .boolean) 0 := ⟨eT_in (i := 981) (by decide +kernel) rfl, eT_in (i := 59) (by decide +kernel) rfl, by decide +kernel, by decide +kernel, by decide +kernel⟩
theorem hiX11_isWell : Cond.instanceMethod yX11_isWell ∈ eT := eT_in (i := 980) (by decide +kernel) rfl
theorem hsX11_isWell : Cond.selects RX11 yX11_isWell yX11_isWell ∈ eT := eT_in (i := 16) (by decide +kernel) rfl
theorem hwX11_takes : eMw yX11_takes cX11_takes 3 (some .int) 1 := ⟨eT_in (i := 989) (by decide +kernel) rfl, eT_in (i := 59) (by decide +kernel) rfl, by decide +kernel, by decide +kernel, by decide +kernel⟩
theorem hiX11_takes : Cond.instanceMethod yX11_takes ∈ eT := eT_in (i := 988) (by decide +kernel) rfl
theorem hsX11_takes : Cond.selects RX11 yX11_takes yX11_takes ∈ eT := eT_in (i := 18) (by decide +kernel) rfl
theorem hwX11_number : eMw yX11_number cX11_number 3 (some .int) 2 := ⟨eT_in (i := 997) (by decide +kernel) rfl, eT_in (i := 59) (by decide +kernel) rfl, by decide +kernel, by decide +kernel, by decide +kernel⟩
theorem hiX11_number : Cond.instanceMethod yX11_number ∈ eT := eT_in (i := 996) (by decide +kernel) rfl
theorem hsX11_number : Cond.selects RX11 yX11_number yX11_number ∈ eT := eT_in (i := 20) (by decide +kernel) rfl
theorem hwX11_isTaken : eMw yX11_isTaken cX11_isTaken 4 (some .boolean) 1 := ⟨eT_in (i := 1001) (by decide +kernel) rfl, eT_in (i := 59) (by decide +kernel) rfl, by decide +kernel, by decide +kernel, by decide +kernel⟩
theorem hiX11_isTaken : Cond.instanceMethod yX11_isTaken ∈ eT := eT_in (i := 1000) (by decide +kernel) rfl
theorem hsX11_isTaken : Cond.selects RX11 yX11_isTaken yX11_isTaken ∈ eT := eT_in (i := 21) (by decide +kernel) rfl
theorem hwX11_mayBegin : eMw yX11_mayBegin cX11_mayBegin 2 (some .boolean) 1 := ⟨eT_in (i := 985) (by decide +kernel) rfl, eT_in (i := 59) (by decide +kernel) rfl, by decide +kernel, by decide +kernel, by decide +kernel⟩
theorem hiX11_mayBegin : Cond.instanceMethod yX11_mayBegin ∈ eT := eT_in (i := 984) (by decide +kernel) rfl
theorem hsX11_mayBegin : Cond.selects RX11 yX11_mayBegin yX11_mayBegin ∈ eT := eT_in (i := 17) (by decide +kernel) rfl
theorem hwX11_readsItem : eMw yX11_readsItem cX11_readsItem 4 none 1 := ⟨eT_in (i := 993) (by decide +kernel) rfl, eT_in (i := 59) (by decide +kernel) rfl, by decide +kernel, by decide +kernel, by decide +kernel⟩
theorem hiX11_readsItem : Cond.instanceMethod yX11_readsItem ∈ eT := eT_in (i := 992) (by decide +kernel) rfl
theorem hsX11_readsItem : Cond.selects RX11 yX11_readsItem yX11_readsItem ∈ eT := eT_in (i := 19) (by decide +kernel) rfl
theorem hwX11_land : eMw yX11_land cX11_land 3 (some .int) 0 := ⟨eT_in (i := 969) (by decide +kernel) rfl, eT_in (i := 59) (by decide +kernel) rfl, by decide +kernel, by decide +kernel, by decide +kernel⟩
theorem hiX11_land : Cond.instanceMethod yX11_land ∈ eT := eT_in (i := 967) (by decide +kernel) rfl
theorem hsX11_land : Cond.selects RX11 yX11_land yX11_land ∈ eT := eT_in (i := 968) (by decide +kernel) rfl
theorem hwX11_settles : eMw yX11_settles cX11_settles 2 none 0 := ⟨eT_in (i := 1005) (by decide +kernel) rfl, eT_in (i := 59) (by decide +kernel) rfl, by decide +kernel, by decide +kernel, by decide +kernel⟩
theorem hiX11_settles : Cond.instanceMethod yX11_settles ∈ eT := eT_in (i := 1004) (by decide +kernel) rfl
theorem hsX11_settles : Cond.selects RX11 yX11_settles yX11_settles ∈ eT := eT_in (i := 22) (by decide +kernel) rfl
theorem hwX11_cells : eMw yX11_cells cX11_cells 1 (some .int) 0 := ⟨eT_in (i := 1017) (by decide +kernel) rfl, eT_in (i := 59) (by decide +kernel) rfl, by decide +kernel, by decide +kernel, by decide +kernel⟩
theorem hiX11_cells : Cond.instanceMethod yX11_cells ∈ eT := eT_in (i := 1016) (by decide +kernel) rfl
theorem hsX11_cells : Cond.selects RX11 yX11_cells yX11_cells ∈ eT := eT_in (i := 24) (by decide +kernel) rfl
theorem hwX11_isCell : eMw yX11_isCell cX11_isCell 2 (some .boolean) 1 := ⟨eT_in (i := 1013) (by decide +kernel) rfl, eT_in (i := 59) (by decide +kernel) rfl, by decide +kernel, by decide +kernel, by decide +kernel⟩
theorem hiX11_isCell : Cond.instanceMethod yX11_isCell ∈ eT := eT_in (i := 1012) (by decide +kernel) rfl
theorem hsX11_isCell : Cond.selects RX11 yX11_isCell yX11_isCell ∈ eT := eT_in (i := 23) (by decide +kernel) rfl
theorem hwX11_isBolt : eMw yX11_isBolt cX11_isBolt 2 (some .boolean) 1 := ⟨eT_in (i := 1029) (by decide +kernel) rfl, eT_in (i := 59) (by decide +kernel) rfl, by decide +kernel, by decide +kernel, by decide +kernel⟩
theorem hiX11_isBolt : Cond.instanceMethod yX11_isBolt ∈ eT := eT_in (i := 1028) (by decide +kernel) rfl
theorem hsX11_isBolt : Cond.selects RX11 yX11_isBolt yX11_isBolt ∈ eT := eT_in (i := 25) (by decide +kernel) rfl
theorem hwX11_height : eMw yX11_height cX11_height 2 (some .int) 1 := ⟨eT_in (i := 1009) (by decide +kernel) rfl, eT_in (i := 59) (by decide +kernel) rfl, by decide +kernel, by decide +kernel, by decide +kernel⟩
theorem hiX11_height : Cond.instanceMethod yX11_height ∈ eT := eT_in (i := 1007) (by decide +kernel) rfl
theorem hsX11_height : Cond.selects RX11 yX11_height yX11_height ∈ eT := eT_in (i := 1008) (by decide +kernel) rfl
theorem hwX11_town : eMw yX11_town cX11_town 2 (some .int) 1 := ⟨eT_in (i := 1021) (by decide +kernel) rfl, eT_in (i := 59) (by decide +kernel) rfl, by decide +kernel, by decide +kernel, by decide +kernel⟩
theorem hiX11_town : Cond.instanceMethod yX11_town ∈ eT := eT_in (i := 1019) (by decide +kernel) rfl
theorem hsX11_town : Cond.selects RX11 yX11_town yX11_town ∈ eT := eT_in (i := 1020) (by decide +kernel) rfl
theorem hwX11_leads : eMw yX11_leads cX11_leads 5 (some .int) 2 := ⟨eT_in (i := 1050) (by decide +kernel) rfl, eT_in (i := 59) (by decide +kernel) rfl, by decide +kernel, by decide +kernel, by decide +kernel⟩
theorem hiX11_leads : Cond.instanceMethod yX11_leads ∈ eT := eT_in (i := 1049) (by decide +kernel) rfl
theorem hsX11_leads : Cond.selects RX11 yX11_leads yX11_leads ∈ eT := eT_in (i := 28) (by decide +kernel) rfl
theorem hwX11_step : eMw yX11_step cX11_step 3 (some .int) 2 := ⟨eT_in (i := 1099) (by decide +kernel) rfl, eT_in (i := 59) (by decide +kernel) rfl, by decide +kernel, by decide +kernel, by decide +kernel⟩
theorem hiX11_step : Cond.instanceMethod yX11_step ∈ eT := eT_in (i := 1098) (by decide +kernel) rfl
theorem hsX11_step : Cond.selects RX11 yX11_step yX11_step ∈ eT := eT_in (i := 37) (by decide +kernel) rfl
theorem hwX11_goes : eMw yX11_goes cX11_goes 4 (some .int) 2 := ⟨eT_in (i := 1123) (by decide +kernel) rfl, eT_in (i := 59) (by decide +kernel) rfl, by decide +kernel, by decide +kernel, by decide +kernel⟩
theorem hiX11_goes : Cond.instanceMethod yX11_goes ∈ eT := eT_in (i := 1122) (by decide +kernel) rfl
theorem hsX11_goes : Cond.selects RX11 yX11_goes yX11_goes ∈ eT := eT_in (i := 41) (by decide +kernel) rfl
theorem hwX11_firstOf : eMw yX11_firstOf cX11_firstOf 2 (some .int) 2 := ⟨eT_in (i := 1032) (by decide +kernel) rfl, eT_in (i := 59) (by decide +kernel) rfl, by decide +kernel, by decide +kernel, by decide +kernel⟩
theorem htX11_firstOf : Cond.static yX11_firstOf ∈ eT := eT_in (i := 1031) (by decide +kernel) rfl
theorem hwX11_cardsOf : eMw yX11_cardsOf cX11_cardsOf 2 (some .int) 2 := ⟨eT_in (i := 1039) (by decide +kernel) rfl, eT_in (i := 59) (by decide +kernel) rfl, by decide +kernel, by decide +kernel, by decide +kernel⟩
theorem htX11_cardsOf : Cond.static yX11_cardsOf ∈ eT := eT_in (i := 1038) (by decide +kernel) rfl
theorem hwX11_cardAt : eMw yX11_cardAt cX11_cardAt 3 (some .int) 3 := ⟨eT_in (i := 1046) (by decide +kernel) rfl, eT_in (i := 59) (by decide +kernel) rfl, by decide +kernel, by decide +kernel, by decide +kernel⟩
theorem htX11_cardAt : Cond.static yX11_cardAt ∈ eT := eT_in (i := 1045) (by decide +kernel) rfl
theorem hwX11_behind : eMw yX11_behind cX11_behind 6 (some .int) 3 := ⟨eT_in (i := 1043) (by decide +kernel) rfl, eT_in (i := 59) (by decide +kernel) rfl, by decide +kernel, by decide +kernel, by decide +kernel⟩
theorem hiX11_behind : Cond.instanceMethod yX11_behind ∈ eT := eT_in (i := 1042) (by decide +kernel) rfl
theorem hsX11_behind : Cond.selects RX11 yX11_behind yX11_behind ∈ eT := eT_in (i := 27) (by decide +kernel) rfl
theorem hwX11_endOf : eMw yX11_endOf cX11_endOf 3 (some .int) 2 := ⟨eT_in (i := 1036) (by decide +kernel) rfl, eT_in (i := 59) (by decide +kernel) rfl, by decide +kernel, by decide +kernel, by decide +kernel⟩
theorem hiX11_endOf : Cond.instanceMethod yX11_endOf ∈ eT := eT_in (i := 1035) (by decide +kernel) rfl
theorem hsX11_endOf : Cond.selects RX11 yX11_endOf yX11_endOf ∈ eT := eT_in (i := 26) (by decide +kernel) rfl
theorem hwX11_upOf : eMw yX11_upOf cX11_upOf 6 (some .int) 1 := ⟨eT_in (i := 1054) (by decide +kernel) rfl, eT_in (i := 59) (by decide +kernel) rfl, by decide +kernel, by decide +kernel, by decide +kernel⟩
theorem hiX11_upOf : Cond.instanceMethod yX11_upOf ∈ eT := eT_in (i := 1053) (by decide +kernel) rfl
theorem hsX11_upOf : Cond.selects RX11 yX11_upOf yX11_upOf ∈ eT := eT_in (i := 29) (by decide +kernel) rfl
theorem hwX11_bolt : eMw yX11_bolt cX11_bolt 3 (some .int) 2 := ⟨eT_in (i := 1025) (by decide +kernel) rfl, eT_in (i := 59) (by decide +kernel) rfl, by decide +kernel, by decide +kernel, by decide +kernel⟩
theorem hiX11_bolt : Cond.instanceMethod yX11_bolt ∈ eT := eT_in (i := 1023) (by decide +kernel) rfl
theorem hsX11_bolt : Cond.selects RX11 yX11_bolt yX11_bolt ∈ eT := eT_in (i := 1024) (by decide +kernel) rfl
theorem hwX11_card : eMw yX11_card cX11_card 3 (some .int) 2 := ⟨eT_in (i := 1058) (by decide +kernel) rfl, eT_in (i := 59) (by decide +kernel) rfl, by decide +kernel, by decide +kernel, by decide +kernel⟩
theorem hiX11_card : Cond.instanceMethod yX11_card ∈ eT := eT_in (i := 1056) (by decide +kernel) rfl
theorem hsX11_card : Cond.selects RX11 yX11_card yX11_card ∈ eT := eT_in (i := 1057) (by decide +kernel) rfl
theorem hwX11_builds : eMw yX11_builds cX11_builds 7 none 1 := ⟨eT_in (i := 1066) (by decide +kernel) rfl, eT_in (i := 59) (by decide +kernel) rfl, by decide +kernel, by decide +kernel, by decide +kernel⟩
theorem hiX11_builds : Cond.instanceMethod yX11_builds ∈ eT := eT_in (i := 1065) (by decide +kernel) rfl
theorem hsX11_builds : Cond.selects RX11 yX11_builds yX11_builds ∈ eT := eT_in (i := 30) (by decide +kernel) rfl
theorem hwX11_road : eMw yX11_road cX11_road 3 (some .int) 2 := ⟨eT_in (i := 1062) (by decide +kernel) rfl, eT_in (i := 59) (by decide +kernel) rfl, by decide +kernel, by decide +kernel, by decide +kernel⟩
theorem hiX11_road : Cond.instanceMethod yX11_road ∈ eT := eT_in (i := 1060) (by decide +kernel) rfl
theorem hsX11_road : Cond.selects RX11 yX11_road yX11_road ∈ eT := eT_in (i := 1061) (by decide +kernel) rfl
theorem hwX11_spreads : eMw yX11_spreads cX11_spreads 7 none 1 := ⟨eT_in (i := 1082) (by decide +kernel) rfl, eT_in (i := 59) (by decide +kernel) rfl, by decide +kernel, by decide +kernel, by decide +kernel⟩
theorem hiX11_spreads : Cond.instanceMethod yX11_spreads ∈ eT := eT_in (i := 1081) (by decide +kernel) rfl
theorem hsX11_spreads : Cond.selects RX11 yX11_spreads yX11_spreads ∈ eT := eT_in (i := 33) (by decide +kernel) rfl
theorem hwX11_piecesOf : eMw yX11_piecesOf cX11_piecesOf 6 (some .int) 1 := ⟨eT_in (i := 1078) (by decide +kernel) rfl, eT_in (i := 59) (by decide +kernel) rfl, by decide +kernel, by decide +kernel, by decide +kernel⟩
theorem hiX11_piecesOf : Cond.instanceMethod yX11_piecesOf ∈ eT := eT_in (i := 1077) (by decide +kernel) rfl
theorem hsX11_piecesOf : Cond.selects RX11 yX11_piecesOf yX11_piecesOf ∈ eT := eT_in (i := 32) (by decide +kernel) rfl
theorem hwX11_isTown : eMw yX11_isTown cX11_isTown 4 (some .boolean) 1 := ⟨eT_in (i := 1091) (by decide +kernel) rfl, eT_in (i := 59) (by decide +kernel) rfl, by decide +kernel, by decide +kernel, by decide +kernel⟩
theorem hiX11_isTown : Cond.instanceMethod yX11_isTown ∈ eT := eT_in (i := 1090) (by decide +kernel) rfl
theorem hsX11_isTown : Cond.selects RX11 yX11_isTown yX11_isTown ∈ eT := eT_in (i := 35) (by decide +kernel) rfl
theorem hwX11_nowhere : eMw yX11_nowhere cX11_nowhere 5 (some .int) 0 := ⟨eT_in (i := 1087) (by decide +kernel) rfl, eT_in (i := 59) (by decide +kernel) rfl, by decide +kernel, by decide +kernel, by decide +kernel⟩
theorem hiX11_nowhere : Cond.instanceMethod yX11_nowhere ∈ eT := eT_in (i := 1086) (by decide +kernel) rfl
theorem hsX11_nowhere : Cond.selects RX11 yX11_nowhere yX11_nowhere ∈ eT := eT_in (i := 34) (by decide +kernel) rfl
theorem hwX11_steep : eMw yX11_steep cX11_steep 5 (some .int) 0 := ⟨eT_in (i := 1095) (by decide +kernel) rfl, eT_in (i := 59) (by decide +kernel) rfl, by decide +kernel, by decide +kernel, by decide +kernel⟩
theorem hiX11_steep : Cond.instanceMethod yX11_steep ∈ eT := eT_in (i := 1094) (by decide +kernel) rfl
theorem hsX11_steep : Cond.selects RX11 yX11_steep yX11_steep ∈ eT := eT_in (i := 36) (by decide +kernel) rfl
theorem hwX11_ells : eMw yX11_ells cX11_ells 3 (some .int) 0 := ⟨eT_in (i := 1074) (by decide +kernel) rfl, eT_in (i := 59) (by decide +kernel) rfl, by decide +kernel, by decide +kernel, by decide +kernel⟩
theorem hiX11_ells : Cond.instanceMethod yX11_ells ∈ eT := eT_in (i := 1073) (by decide +kernel) rfl
theorem hsX11_ells : Cond.selects RX11 yX11_ells yX11_ells ∈ eT := eT_in (i := 31) (by decide +kernel) rfl
theorem hwX11_couldBe : eMw yX11_couldBe cX11_couldBe 5 (some .boolean) 1 := ⟨eT_in (i := 1107) (by decide +kernel) rfl, eT_in (i := 59) (by decide +kernel) rfl, by decide +kernel, by decide +kernel, by decide +kernel⟩
theorem hiX11_couldBe : Cond.instanceMethod yX11_couldBe ∈ eT := eT_in (i := 1106) (by decide +kernel) rfl
theorem hsX11_couldBe : Cond.selects RX11 yX11_couldBe yX11_couldBe ∈ eT := eT_in (i := 39) (by decide +kernel) rfl
theorem hwX11_leastSlope : eMw yX11_leastSlope cX11_leastSlope 2 (some .int) 0 := ⟨eT_in (i := 1103) (by decide +kernel) rfl, eT_in (i := 59) (by decide +kernel) rfl, by decide +kernel, by decide +kernel, by decide +kernel⟩
theorem hiX11_leastSlope : Cond.instanceMethod yX11_leastSlope ∈ eT := eT_in (i := 1102) (by decide +kernel) rfl
theorem hsX11_leastSlope : Cond.selects RX11 yX11_leastSlope yX11_leastSlope ∈ eT := eT_in (i := 38) (by decide +kernel) rfl
theorem hwX11_now : eMw yX11_now cX11_now 2 (some .int) 1 := ⟨eT_in (i := 1070) (by decide +kernel) rfl, eT_in (i := 59) (by decide +kernel) rfl, by decide +kernel, by decide +kernel, by decide +kernel⟩
theorem hiX11_now : Cond.instanceMethod yX11_now ∈ eT := eT_in (i := 1068) (by decide +kernel) rfl
theorem hsX11_now : Cond.selects RX11 yX11_now yX11_now ∈ eT := eT_in (i := 1069) (by decide +kernel) rfl
theorem hwX11_notes : eMw yX11_notes cX11_notes 2 none 0 := ⟨eT_in (i := 1115) (by decide +kernel) rfl, eT_in (i := 59) (by decide +kernel) rfl, by decide +kernel, by decide +kernel, by decide +kernel⟩
theorem hiX11_notes : Cond.instanceMethod yX11_notes ∈ eT := eT_in (i := 1114) (by decide +kernel) rfl
theorem hsX11_notes : Cond.selects RX11 yX11_notes yX11_notes ∈ eT := eT_in (i := 40) (by decide +kernel) rfl
theorem hwX11_begins : eMw yX11_begins cX11_begins 3 (some .int) 1 := ⟨eT_in (i := 1111) (by decide +kernel) rfl, eT_in (i := 59) (by decide +kernel) rfl, by decide +kernel, by decide +kernel, by decide +kernel⟩
theorem hiX11_begins : Cond.instanceMethod yX11_begins ∈ eT := eT_in (i := 1109) (by decide +kernel) rfl
theorem hsX11_begins : Cond.selects RX11 yX11_begins yX11_begins ∈ eT := eT_in (i := 1110) (by decide +kernel) rfl
theorem hwX11_weaves : eMw yX11_weaves cX11_weaves 4 (some .int) 2 := ⟨eT_in (i := 1119) (by decide +kernel) rfl, eT_in (i := 59) (by decide +kernel) rfl, by decide +kernel, by decide +kernel, by decide +kernel⟩
theorem hiX11_weaves : Cond.instanceMethod yX11_weaves ∈ eT := eT_in (i := 1117) (by decide +kernel) rfl
theorem hsX11_weaves : Cond.selects RX11 yX11_weaves yX11_weaves ∈ eT := eT_in (i := 1118) (by decide +kernel) rfl
theorem hwX11_turnAbout : eMw yX11_turnAbout cX11_turnAbout 5 (some .int) 1 := ⟨eT_in (i := 1127) (by decide +kernel) rfl, eT_in (i := 59) (by decide +kernel) rfl, by decide +kernel, by decide +kernel, by decide +kernel⟩
theorem hiX11_turnAbout : Cond.instanceMethod yX11_turnAbout ∈ eT := eT_in (i := 1125) (by decide +kernel) rfl
theorem hsX11_turnAbout : Cond.selects RX11 yX11_turnAbout yX11_turnAbout ∈ eT := eT_in (i := 1126) (by decide +kernel) rfl
theorem hwX11_frays : eMw yX11_frays cX11_frays 4 (some .int) 1 := ⟨eT_in (i := 1135) (by decide +kernel) rfl, eT_in (i := 59) (by decide +kernel) rfl, by decide +kernel, by decide +kernel, by decide +kernel⟩
theorem hiX11_frays : Cond.instanceMethod yX11_frays ∈ eT := eT_in (i := 1134) (by decide +kernel) rfl
theorem hsX11_frays : Cond.selects RX11 yX11_frays yX11_frays ∈ eT := eT_in (i := 42) (by decide +kernel) rfl
theorem hwX11_rain : eMw yX11_rain cX11_rain 1 (some .int) 0 := ⟨eT_in (i := 1131) (by decide +kernel) rfl, eT_in (i := 59) (by decide +kernel) rfl, by decide +kernel, by decide +kernel, by decide +kernel⟩
theorem hiX11_rain : Cond.instanceMethod yX11_rain ∈ eT := eT_in (i := 1129) (by decide +kernel) rfl
theorem hsX11_rain : Cond.selects RX11 yX11_rain yX11_rain ∈ eT := eT_in (i := 1130) (by decide +kernel) rfl
theorem hwX11_undo : eMw yX11_undo cX11_undo 2 (some .int) 0 := ⟨eT_in (i := 1139) (by decide +kernel) rfl, eT_in (i := 59) (by decide +kernel) rfl, by decide +kernel, by decide +kernel, by decide +kernel⟩
theorem hiX11_undo : Cond.instanceMethod yX11_undo ∈ eT := eT_in (i := 1137) (by decide +kernel) rfl
theorem hsX11_undo : Cond.selects RX11 yX11_undo yX11_undo ∈ eT := eT_in (i := 1138) (by decide +kernel) rfl
theorem hwX11_joined : eMw yX11_joined cX11_joined 3 (some .int) 2 := ⟨eT_in (i := 1143) (by decide +kernel) rfl, eT_in (i := 59) (by decide +kernel) rfl, by decide +kernel, by decide +kernel, by decide +kernel⟩
theorem hiX11_joined : Cond.instanceMethod yX11_joined ∈ eT := eT_in (i := 1141) (by decide +kernel) rfl
theorem hsX11_joined : Cond.selects RX11 yX11_joined yX11_joined ∈ eT := eT_in (i := 1142) (by decide +kernel) rfl
theorem hwX11_grows : eMw yX11_grows cX11_grows 7 none 1 := ⟨eT_in (i := 1151) (by decide +kernel) rfl, eT_in (i := 59) (by decide +kernel) rfl, by decide +kernel, by decide +kernel, by decide +kernel⟩
theorem hiX11_grows : Cond.instanceMethod yX11_grows ∈ eT := eT_in (i := 1150) (by decide +kernel) rfl
theorem hsX11_grows : Cond.selects RX11 yX11_grows yX11_grows ∈ eT := eT_in (i := 43) (by decide +kernel) rfl
theorem hwX11_toWeave : eMw yX11_toWeave cX11_toWeave 5 (some .int) 0 := ⟨eT_in (i := 1147) (by decide +kernel) rfl, eT_in (i := 59) (by decide +kernel) rfl, by decide +kernel, by decide +kernel, by decide +kernel⟩
theorem hiX11_toWeave : Cond.instanceMethod yX11_toWeave ∈ eT := eT_in (i := 1145) (by decide +kernel) rfl
theorem hsX11_toWeave : Cond.selects RX11 yX11_toWeave yX11_toWeave ∈ eT := eT_in (i := 1146) (by decide +kernel) rfl
theorem hwX11_way : eMw yX11_way cX11_way 9 (some .int) 2 := ⟨eT_in (i := 1155) (by decide +kernel) rfl, eT_in (i := 59) (by decide +kernel) rfl, by decide +kernel, by decide +kernel, by decide +kernel⟩
theorem hiX11_way : Cond.instanceMethod yX11_way ∈ eT := eT_in (i := 1153) (by decide +kernel) rfl
theorem hsX11_way : Cond.selects RX11 yX11_way yX11_way ∈ eT := eT_in (i := 1154) (by decide +kernel) rfl
theorem hwX11_areNear : eMw yX11_areNear cX11_areNear 6 (some .boolean) 2 := ⟨eT_in (i := 1166) (by decide +kernel) rfl, eT_in (i := 59) (by decide +kernel) rfl, by decide +kernel, by decide +kernel, by decide +kernel⟩
theorem hiX11_areNear : Cond.instanceMethod yX11_areNear ∈ eT := eT_in (i := 1165) (by decide +kernel) rfl
theorem hsX11_areNear : Cond.selects RX11 yX11_areNear yX11_areNear ∈ eT := eT_in (i := 44) (by decide +kernel) rfl
theorem hwX11_darners : eMw yX11_darners cX11_darners 4 (some .int) 1 := ⟨eT_in (i := 1162) (by decide +kernel) rfl, eT_in (i := 59) (by decide +kernel) rfl, by decide +kernel, by decide +kernel, by decide +kernel⟩
theorem hiX11_darners : Cond.instanceMethod yX11_darners ∈ eT := eT_in (i := 1160) (by decide +kernel) rfl
theorem hsX11_darners : Cond.selects RX11 yX11_darners yX11_darners ∈ eT := eT_in (i := 1161) (by decide +kernel) rfl
theorem hwX11_power : eMw yX11_power cX11_power 4 (some .int) 2 := ⟨eT_in (i := 1176) (by decide +kernel) rfl, eT_in (i := 59) (by decide +kernel) rfl, by decide +kernel, by decide +kernel, by decide +kernel⟩
theorem htX11_power : Cond.static yX11_power ∈ eT := eT_in (i := 1175) (by decide +kernel) rfl
theorem hwX11_choose : eMw yX11_choose cX11_choose 4 (some .int) 2 := ⟨eT_in (i := 1173) (by decide +kernel) rfl, eT_in (i := 59) (by decide +kernel) rfl, by decide +kernel, by decide +kernel, by decide +kernel⟩
theorem htX11_choose : Cond.static yX11_choose ∈ eT := eT_in (i := 1172) (by decide +kernel) rfl
theorem hwX11_gcd : eMw yX11_gcd cX11_gcd 5 (some .int) 2 := ⟨eT_in (i := 1179) (by decide +kernel) rfl, eT_in (i := 59) (by decide +kernel) rfl, by decide +kernel, by decide +kernel, by decide +kernel⟩
theorem htX11_gcd : Cond.static yX11_gcd ∈ eT := eT_in (i := 1178) (by decide +kernel) rfl
theorem hwX11_odds : eMw yX11_odds cX11_odds 7 (some .int) 3 := ⟨eT_in (i := 1170) (by decide +kernel) rfl, eT_in (i := 59) (by decide +kernel) rfl, by decide +kernel, by decide +kernel, by decide +kernel⟩
theorem hiX11_odds : Cond.instanceMethod yX11_odds ∈ eT := eT_in (i := 1168) (by decide +kernel) rfl
theorem hsX11_odds : Cond.selects RX11 yX11_odds yX11_odds ∈ eT := eT_in (i := 1169) (by decide +kernel) rfl
theorem hwX11_otherwise : eMw yX11_otherwise cX11_otherwise 7 (some .int) 4 := ⟨eT_in (i := 1187) (by decide +kernel) rfl, eT_in (i := 59) (by decide +kernel) rfl, by decide +kernel, by decide +kernel, by decide +kernel⟩
theorem hiX11_otherwise : Cond.instanceMethod yX11_otherwise ∈ eT := eT_in (i := 1186) (by decide +kernel) rfl
theorem hsX11_otherwise : Cond.selects RX11 yX11_otherwise yX11_otherwise ∈ eT := eT_in (i := 45) (by decide +kernel) rfl
theorem hwX11_wrong : eMw yX11_wrong cX11_wrong 8 (some .int) 3 := ⟨eT_in (i := 1183) (by decide +kernel) rfl, eT_in (i := 59) (by decide +kernel) rfl, by decide +kernel, by decide +kernel, by decide +kernel⟩
theorem hiX11_wrong : Cond.instanceMethod yX11_wrong ∈ eT := eT_in (i := 1181) (by decide +kernel) rfl
theorem hsX11_wrong : Cond.selects RX11 yX11_wrong yX11_wrong ∈ eT := eT_in (i := 1182) (by decide +kernel) rfl
theorem hwX11_look : eMw yX11_look cX11_look 7 (some .int) 2 := ⟨eT_in (i := 1191) (by decide +kernel) rfl, eT_in (i := 59) (by decide +kernel) rfl, by decide +kernel, by decide +kernel, by decide +kernel⟩
theorem hiX11_look : Cond.instanceMethod yX11_look ∈ eT := eT_in (i := 1189) (by decide +kernel) rfl
theorem hsX11_look : Cond.selects RX11 yX11_look yX11_look ∈ eT := eT_in (i := 1190) (by decide +kernel) rfl
theorem hwX11_rate : eMw yX11_rate cX11_rate 6 (some .int) 2 := ⟨eT_in (i := 1195) (by decide +kernel) rfl, eT_in (i := 59) (by decide +kernel) rfl, by decide +kernel, by decide +kernel, by decide +kernel⟩
theorem hiX11_rate : Cond.instanceMethod yX11_rate ∈ eT := eT_in (i := 1193) (by decide +kernel) rfl
theorem hsX11_rate : Cond.selects RX11 yX11_rate yX11_rate ∈ eT := eT_in (i := 1194) (by decide +kernel) rfl
theorem hwX11_keep : eMw yX11_keep cX11_keep 3 (some .int) 1 := ⟨eT_in (i := 1205) (by decide +kernel) rfl, eT_in (i := 59) (by decide +kernel) rfl, by decide +kernel, by decide +kernel, by decide +kernel⟩
theorem hiX11_keep : Cond.instanceMethod yX11_keep ∈ eT := eT_in (i := 1203) (by decide +kernel) rfl
theorem hsX11_keep : Cond.selects RX11 yX11_keep yX11_keep ∈ eT := eT_in (i := 1204) (by decide +kernel) rfl
theorem hwX11_back : eMw yX11_back cX11_back 3 (some .int) 1 := ⟨eT_in (i := 1209) (by decide +kernel) rfl, eT_in (i := 59) (by decide +kernel) rfl, by decide +kernel, by decide +kernel, by decide +kernel⟩
theorem hiX11_back : Cond.instanceMethod yX11_back ∈ eT := eT_in (i := 1207) (by decide +kernel) rfl
theorem hsX11_back : Cond.selects RX11 yX11_back yX11_back ∈ eT := eT_in (i := 1208) (by decide +kernel) rfl
theorem hwX11_count : eMw yX11_count cX11_count 2 (some .int) 1 := ⟨eT_in (i := 1213) (by decide +kernel) rfl, eT_in (i := 59) (by decide +kernel) rfl, by decide +kernel, by decide +kernel, by decide +kernel⟩
theorem hiX11_count : Cond.instanceMethod yX11_count ∈ eT := eT_in (i := 1211) (by decide +kernel) rfl
theorem hsX11_count : Cond.selects RX11 yX11_count yX11_count ∈ eT := eT_in (i := 1212) (by decide +kernel) rfl
theorem hwX11_trace : eMw yX11_trace cX11_trace 1 (some .long) 0 := ⟨eT_in (i := 1217) (by decide +kernel) rfl, eT_in (i := 59) (by decide +kernel) rfl, by decide +kernel, by decide +kernel, by decide +kernel⟩
theorem hiX11_trace : Cond.instanceMethod yX11_trace ∈ eT := eT_in (i := 1215) (by decide +kernel) rfl
theorem hsX11_trace : Cond.selects RX11 yX11_trace yX11_trace ∈ eT := eT_in (i := 1216) (by decide +kernel) rfl
theorem hwJ6_bitCount_0f7a4 : eMw yJ6_bitCount_0f7a4 cJ6_bitCount_0f7a4 1 (some .int) 1 := ⟨eT_in (i := 712) (by decide +kernel) rfl, eT_in (i := 60) (by decide +kernel) rfl, by decide +kernel, by decide +kernel, by decide +kernel⟩
theorem htJ6_bitCount_0f7a4 : Cond.static yJ6_bitCount_0f7a4 ∈ eT := eT_in (i := 711) (by decide +kernel) rfl
theorem hwJ9_abs_0f7a4 : eMw yJ9_abs_0f7a4 cJ9_abs_0f7a4 1 (some .int) 1 := ⟨eT_in (i := 605) (by decide +kernel) rfl, eT_in (i := 50) (by decide +kernel) rfl, by decide +kernel, by decide +kernel, by decide +kernel⟩
theorem htJ9_abs_0f7a4 : Cond.static yJ9_abs_0f7a4 ∈ eT := eT_in (i := 604) (by decide +kernel) rfl
theorem hwJ9_max_7cf53 : eMw yJ9_max_7cf53 cJ9_max_7cf53 2 (some .int) 2 := ⟨eT_in (i := 83) (by decide +kernel) rfl, eT_in (i := 50) (by decide +kernel) rfl, by decide +kernel, by decide +kernel, by decide +kernel⟩
theorem htJ9_max_7cf53 : Cond.static yJ9_max_7cf53 ∈ eT := eT_in (i := 82) (by decide +kernel) rfl
theorem hwJ9_min_7cf53 : eMw yJ9_min_7cf53 cJ9_min_7cf53 2 (some .int) 2 := ⟨eT_in (i := 373) (by decide +kernel) rfl, eT_in (i := 50) (by decide +kernel) rfl, by decide +kernel, by decide +kernel, by decide +kernel⟩
theorem htJ9_min_7cf53 : Cond.static yJ9_min_7cf53 ∈ eT := eT_in (i := 372) (by decide +kernel) rfl
theorem kfX7_13 : Cond.fieldLink RX7 13 (TX7 0).1 (TX7 0).2.1 (TX7 0).2.2.1 ∈ eT := eT_in (i := 84) (by decide +kernel) rfl
theorem kfX1_26 : Cond.fieldLink RX1 26 (TX1 0).1 (TX1 0).2.1 (TX1 0).2.2.1 ∈ eT := eT_in (i := 97) (by decide +kernel) rfl
theorem kfX1_30 : Cond.fieldLink RX1 30 (TX1 1).1 (TX1 1).2.1 (TX1 1).2.2.1 ∈ eT := eT_in (i := 98) (by decide +kernel) rfl
theorem kfX1_33 : Cond.fieldLink RX1 33 (TX1 2).1 (TX1 2).2.1 (TX1 2).2.2.1 ∈ eT := eT_in (i := 99) (by decide +kernel) rfl
theorem kfX1_36 : Cond.fieldLink RX1 36 (TX1 3).1 (TX1 3).2.1 (TX1 3).2.2.1 ∈ eT := eT_in (i := 100) (by decide +kernel) rfl
theorem kfX1_14 : Cond.fieldLink RX1 14 (TX1 4).1 (TX1 4).2.1 (TX1 4).2.2.1 ∈ eT := eT_in (i := 101) (by decide +kernel) rfl
theorem kfX1_20 : Cond.fieldLink RX1 20 (TX1 5).1 (TX1 5).2.1 (TX1 5).2.2.1 ∈ eT := eT_in (i := 102) (by decide +kernel) rfl
theorem kfX2_14 : Cond.fieldLink RX2 14 (TX2 0).1 (TX2 0).2.1 (TX2 0).2.2.1 ∈ eT := eT_in (i := 126) (by decide +kernel) rfl
theorem kfX2_20 : Cond.fieldLink RX2 20 (TX2 1).1 (TX2 1).2.1 (TX2 1).2.2.1 ∈ eT := eT_in (i := 127) (by decide +kernel) rfl
theorem kfX2_27 : Cond.fieldLink RX2 27 (TX2 2).1 (TX2 2).2.1 (TX2 2).2.2.1 ∈ eT := eT_in (i := 128) (by decide +kernel) rfl
theorem kfX2_38 : Cond.fieldLink RX2 38 (TX2 3).1 (TX2 3).2.1 (TX2 3).2.2.1 ∈ eT := eT_in (i := 129) (by decide +kernel) rfl
theorem kfX2_41 : Cond.fieldLink RX2 41 (TX2 4).1 (TX2 4).2.1 (TX2 4).2.2.1 ∈ eT := eT_in (i := 130) (by decide +kernel) rfl
theorem kfX2_45 : Cond.fieldLink RX2 45 (TX2 5).1 (TX2 5).2.1 (TX2 5).2.2.1 ∈ eT := eT_in (i := 131) (by decide +kernel) rfl
theorem kfX2_51 : Cond.fieldLink RX2 51 (TX2 6).1 (TX2 6).2.1 (TX2 6).2.2.1 ∈ eT := eT_in (i := 132) (by decide +kernel) rfl
theorem kfX2_58 : Cond.fieldLink RX2 58 (TX2 7).1 (TX2 7).2.1 (TX2 7).2.2.1 ∈ eT := eT_in (i := 133) (by decide +kernel) rfl
theorem kfX2_81 : Cond.fieldLink RX2 81 (TX2 8).1 (TX2 8).2.1 (TX2 8).2.2.1 ∈ eT := eT_in (i := 134) (by decide +kernel) rfl
theorem kfX0_20 : Cond.fieldLink RX0 20 (TX0 0).1 (TX0 0).2.1 (TX0 0).2.2.1 ∈ eT := eT_in (i := 162) (by decide +kernel) rfl
theorem kfX0_16 : Cond.fieldLink RX0 16 (TX0 1).1 (TX0 1).2.1 (TX0 1).2.2.1 ∈ eT := eT_in (i := 163) (by decide +kernel) rfl
theorem kfX4_29 : Cond.fieldLink RX4 29 (TX4 0).1 (TX4 0).2.1 (TX4 0).2.2.1 ∈ eT := eT_in (i := 177) (by decide +kernel) rfl
theorem kfX4_16 : Cond.fieldLink RX4 16 (TX4 1).1 (TX4 1).2.1 (TX4 1).2.2.1 ∈ eT := eT_in (i := 178) (by decide +kernel) rfl
theorem kfX4_22 : Cond.fieldLink RX4 22 (TX4 2).1 (TX4 2).2.1 (TX4 2).2.2.1 ∈ eT := eT_in (i := 179) (by decide +kernel) rfl
theorem kfX4_26 : Cond.fieldLink RX4 26 (TX4 3).1 (TX4 3).2.1 (TX4 3).2.2.1 ∈ eT := eT_in (i := 180) (by decide +kernel) rfl
theorem kfX6_18 : Cond.fieldLink RX6 18 (TX6 0).1 (TX6 0).2.1 (TX6 0).2.2.1 ∈ eT := eT_in (i := 198) (by decide +kernel) rfl
theorem kfX6_9 : Cond.fieldLink RX6 9 (TX6 1).1 (TX6 1).2.1 (TX6 1).2.2.1 ∈ eT := eT_in (i := 199) (by decide +kernel) rfl
theorem kfX6_15 : Cond.fieldLink RX6 15 (TX6 2).1 (TX6 2).2.1 (TX6 2).2.2.1 ∈ eT := eT_in (i := 200) (by decide +kernel) rfl
theorem kfX8_20 : Cond.fieldLink RX8 20 (TX8 0).1 (TX8 0).2.1 (TX8 0).2.2.1 ∈ eT := eT_in (i := 216) (by decide +kernel) rfl
theorem kfX8_24 : Cond.fieldLink RX8 24 (TX8 1).1 (TX8 1).2.1 (TX8 1).2.2.1 ∈ eT := eT_in (i := 217) (by decide +kernel) rfl
theorem kfX8_28 : Cond.fieldLink RX8 28 (TX8 2).1 (TX8 2).2.1 (TX8 2).2.2.1 ∈ eT := eT_in (i := 218) (by decide +kernel) rfl
theorem kfX8_14 : Cond.fieldLink RX8 14 (TX8 3).1 (TX8 3).2.1 (TX8 3).2.2.1 ∈ eT := eT_in (i := 219) (by decide +kernel) rfl
theorem kfX9_24 : Cond.fieldLink RX9 24 (TX9 0).1 (TX9 0).2.1 (TX9 0).2.2.1 ∈ eT := eT_in (i := 242) (by decide +kernel) rfl
theorem kfX9_28 : Cond.fieldLink RX9 28 (TX9 1).1 (TX9 1).2.1 (TX9 1).2.2.1 ∈ eT := eT_in (i := 243) (by decide +kernel) rfl
theorem kfX9_37 : Cond.fieldLink RX9 37 (TX9 2).1 (TX9 2).2.1 (TX9 2).2.2.1 ∈ eT := eT_in (i := 244) (by decide +kernel) rfl
theorem kfX9_18 : Cond.fieldLink RX9 18 (TX9 3).1 (TX9 3).2.1 (TX9 3).2.2.1 ∈ eT := eT_in (i := 245) (by decide +kernel) rfl
theorem kfX3_25 : Cond.fieldLink RX3 25 (TX3 0).1 (TX3 0).2.1 (TX3 0).2.2.1 ∈ eT := eT_in (i := 267) (by decide +kernel) rfl
theorem kfX3_32 : Cond.fieldLink RX3 32 (TX3 1).1 (TX3 1).2.1 (TX3 1).2.2.1 ∈ eT := eT_in (i := 268) (by decide +kernel) rfl
theorem kfX3_14 : Cond.fieldLink RX3 14 (TX3 2).1 (TX3 2).2.1 (TX3 2).2.2.1 ∈ eT := eT_in (i := 269) (by decide +kernel) rfl
theorem kfX5_13 : Cond.fieldLink RX5 13 (TX5 0).1 (TX5 0).2.1 (TX5 0).2.2.1 ∈ eT := eT_in (i := 283) (by decide +kernel) rfl
theorem kfX5_17 : Cond.fieldLink RX5 17 (TX5 1).1 (TX5 1).2.1 (TX5 1).2.2.1 ∈ eT := eT_in (i := 284) (by decide +kernel) rfl
theorem kfX5_7 : Cond.fieldLink RX5 7 (TX5 2).1 (TX5 2).2.1 (TX5 2).2.2.1 ∈ eT := eT_in (i := 285) (by decide +kernel) rfl
theorem kfX10_12 : Cond.fieldLink RX10 12 (TX10 0).1 (TX10 0).2.1 (TX10 0).2.2.1 ∈ eT := eT_in (i := 293) (by decide +kernel) rfl
theorem kfX10_19 : Cond.fieldLink RX10 19 (TX10 1).1 (TX10 1).2.1 (TX10 1).2.2.1 ∈ eT := eT_in (i := 294) (by decide +kernel) rfl
theorem kfX10_28 : Cond.fieldLink RX10 28 (TX10 2).1 (TX10 2).2.1 (TX10 2).2.2.1 ∈ eT := eT_in (i := 295) (by decide +kernel) rfl
theorem kfX10_37 : Cond.fieldLink RX10 37 (TX10 3).1 (TX10 3).2.1 (TX10 3).2.2.1 ∈ eT := eT_in (i := 296) (by decide +kernel) rfl
theorem kfX10_46 : Cond.fieldLink RX10 46 (TX10 4).1 (TX10 4).2.1 (TX10 4).2.2.1 ∈ eT := eT_in (i := 297) (by decide +kernel) rfl
theorem kfX10_50 : Cond.fieldLink RX10 50 (TX10 5).1 (TX10 5).2.1 (TX10 5).2.2.1 ∈ eT := eT_in (i := 298) (by decide +kernel) rfl
theorem kfX10_57 : Cond.fieldLink RX10 57 (TX10 6).1 (TX10 6).2.1 (TX10 6).2.2.1 ∈ eT := eT_in (i := 299) (by decide +kernel) rfl
theorem kfX10_66 : Cond.fieldLink RX10 66 (TX10 7).1 (TX10 7).2.1 (TX10 7).2.2.1 ∈ eT := eT_in (i := 300) (by decide +kernel) rfl
theorem kfX10_75 : Cond.fieldLink RX10 75 (TX10 8).1 (TX10 8).2.1 (TX10 8).2.2.1 ∈ eT := eT_in (i := 301) (by decide +kernel) rfl
theorem kfX10_82 : Cond.fieldLink RX10 82 (TX10 9).1 (TX10 9).2.1 (TX10 9).2.2.1 ∈ eT := eT_in (i := 302) (by decide +kernel) rfl
theorem kfX10_91 : Cond.fieldLink RX10 91 (TX10 10).1 (TX10 10).2.1 (TX10 10).2.2.1 ∈ eT := eT_in (i := 303) (by decide +kernel) rfl
theorem kfX11_50 : Cond.fieldLink RX11 50 (TX11 0).1 (TX11 0).2.1 (TX11 0).2.2.1 ∈ eT := eT_in (i := 884) (by decide +kernel) rfl
theorem kfX11_215 : Cond.fieldLink RX11 215 (TX11 1).1 (TX11 1).2.1 (TX11 1).2.2.1 ∈ eT := eT_in (i := 885) (by decide +kernel) rfl
theorem kfX11_7 : Cond.fieldLink RX11 7 (TX11 2).1 (TX11 2).2.1 (TX11 2).2.2.1 ∈ eT := eT_in (i := 886) (by decide +kernel) rfl
theorem kfX11_58 : Cond.fieldLink RX11 58 (TX11 3).1 (TX11 3).2.1 (TX11 3).2.2.1 ∈ eT := eT_in (i := 887) (by decide +kernel) rfl
theorem kfX11_61 : Cond.fieldLink RX11 61 (TX11 4).1 (TX11 4).2.1 (TX11 4).2.2.1 ∈ eT := eT_in (i := 888) (by decide +kernel) rfl
theorem kfX11_71 : Cond.fieldLink RX11 71 (TX11 5).1 (TX11 5).2.1 (TX11 5).2.2.1 ∈ eT := eT_in (i := 889) (by decide +kernel) rfl
theorem kfX11_68 : Cond.fieldLink RX11 68 (TX11 6).1 (TX11 6).2.1 (TX11 6).2.2.1 ∈ eT := eT_in (i := 890) (by decide +kernel) rfl
theorem kfX11_74 : Cond.fieldLink RX11 74 (TX11 7).1 (TX11 7).2.1 (TX11 7).2.2.1 ∈ eT := eT_in (i := 891) (by decide +kernel) rfl
theorem kfX11_77 : Cond.fieldLink RX11 77 (TX11 8).1 (TX11 8).2.1 (TX11 8).2.2.1 ∈ eT := eT_in (i := 892) (by decide +kernel) rfl
theorem kfX11_13 : Cond.fieldLink RX11 13 (TX11 9).1 (TX11 9).2.1 (TX11 9).2.2.1 ∈ eT := eT_in (i := 893) (by decide +kernel) rfl
theorem kfX11_16 : Cond.fieldLink RX11 16 (TX11 10).1 (TX11 10).2.1 (TX11 10).2.2.1 ∈ eT := eT_in (i := 894) (by decide +kernel) rfl
theorem kfX11_19 : Cond.fieldLink RX11 19 (TX11 11).1 (TX11 11).2.1 (TX11 11).2.2.1 ∈ eT := eT_in (i := 895) (by decide +kernel) rfl
theorem kfX11_91 : Cond.fieldLink RX11 91 (TX11 12).1 (TX11 12).2.1 (TX11 12).2.2.1 ∈ eT := eT_in (i := 896) (by decide +kernel) rfl
theorem kfX11_22 : Cond.fieldLink RX11 22 (TX11 13).1 (TX11 13).2.1 (TX11 13).2.2.1 ∈ eT := eT_in (i := 897) (by decide +kernel) rfl
theorem kfX11_25 : Cond.fieldLink RX11 25 (TX11 14).1 (TX11 14).2.1 (TX11 14).2.2.1 ∈ eT := eT_in (i := 898) (by decide +kernel) rfl
theorem kfX11_28 : Cond.fieldLink RX11 28 (TX11 15).1 (TX11 15).2.1 (TX11 15).2.2.1 ∈ eT := eT_in (i := 899) (by decide +kernel) rfl
theorem kfX11_31 : Cond.fieldLink RX11 31 (TX11 16).1 (TX11 16).2.1 (TX11 16).2.2.1 ∈ eT := eT_in (i := 900) (by decide +kernel) rfl
theorem kfX11_35 : Cond.fieldLink RX11 35 (TX11 17).1 (TX11 17).2.1 (TX11 17).2.2.1 ∈ eT := eT_in (i := 901) (by decide +kernel) rfl
theorem kfX11_113 : Cond.fieldLink RX11 113 (TX11 18).1 (TX11 18).2.1 (TX11 18).2.2.1 ∈ eT := eT_in (i := 902) (by decide +kernel) rfl
theorem kfX11_38 : Cond.fieldLink RX11 38 (TX11 19).1 (TX11 19).2.1 (TX11 19).2.2.1 ∈ eT := eT_in (i := 903) (by decide +kernel) rfl
theorem kfX11_41 : Cond.fieldLink RX11 41 (TX11 20).1 (TX11 20).2.1 (TX11 20).2.2.1 ∈ eT := eT_in (i := 904) (by decide +kernel) rfl
theorem kfX11_44 : Cond.fieldLink RX11 44 (TX11 21).1 (TX11 21).2.1 (TX11 21).2.2.1 ∈ eT := eT_in (i := 905) (by decide +kernel) rfl
theorem kfX11_47 : Cond.fieldLink RX11 47 (TX11 22).1 (TX11 22).2.1 (TX11 22).2.2.1 ∈ eT := eT_in (i := 906) (by decide +kernel) rfl
theorem klL_9 : Cond.methodLink RL 9 yX10_init ∈ eT := eT_in (i := 63) (by decide +kernel) rfl
theorem klX10_3 : Cond.methodLink RX10 3 objectInit ∈ eT := eT_in (i := 66) (by decide +kernel) rfl
theorem klX10_11 : Cond.methodLink RX10 11 yX1_init ∈ eT := eT_in (i := 71) (by decide +kernel) rfl
theorem klX1_3 : Cond.methodLink RX1 3 objectInit ∈ eT := eT_in (i := 74) (by decide +kernel) rfl
theorem klX1_11 : Cond.methodLink RX1 11 yX7_init ∈ eT := eT_in (i := 77) (by decide +kernel) rfl
theorem klX7_1 : Cond.methodLink RX7 1 objectInit ∈ eT := eT_in (i := 80) (by decide +kernel) rfl
theorem klX7_7 : Cond.methodLink RX7 7 yJ9_max_7cf53 ∈ eT := eT_in (i := 81) (by decide +kernel) rfl
theorem klX1_23 : Cond.methodLink RX1 23 yX1_becomeFirst ∈ eT := eT_in (i := 89) (by decide +kernel) rfl
theorem klX1_39 : Cond.methodLink RX1 39 yX7_fill ∈ eT := eT_in (i := 93) (by decide +kernel) rfl
theorem klX2_3 : Cond.methodLink RX2 3 objectInit ∈ eT := eT_in (i := 121) (by decide +kernel) rfl
theorem klX2_11 : Cond.methodLink RX2 11 yX7_init ∈ eT := eT_in (i := 123) (by decide +kernel) rfl
theorem klX2_26 : Cond.methodLink RX2 26 yX1_init ∈ eT := eT_in (i := 125) (by decide +kernel) rfl
theorem klX10_25 : Cond.methodLink RX10 25 yX0_init ∈ eT := eT_in (i := 156) (by decide +kernel) rfl
theorem klX0_5 : Cond.methodLink RX0 5 objectInit ∈ eT := eT_in (i := 159) (by decide +kernel) rfl
theorem klX0_13 : Cond.methodLink RX0 13 yX7_init ∈ eT := eT_in (i := 161) (by decide +kernel) rfl
theorem klX10_34 : Cond.methodLink RX10 34 yX4_init ∈ eT := eT_in (i := 171) (by decide +kernel) rfl
theorem klX4_3 : Cond.methodLink RX4 3 objectInit ∈ eT := eT_in (i := 174) (by decide +kernel) rfl
theorem klX4_13 : Cond.methodLink RX4 13 yX7_init ∈ eT := eT_in (i := 176) (by decide +kernel) rfl
theorem klX10_43 : Cond.methodLink RX10 43 yX7_init ∈ eT := eT_in (i := 191) (by decide +kernel) rfl
theorem klX10_56 : Cond.methodLink RX10 56 yX6_init ∈ eT := eT_in (i := 194) (by decide +kernel) rfl
theorem klX6_3 : Cond.methodLink RX6 3 objectInit ∈ eT := eT_in (i := 197) (by decide +kernel) rfl
theorem klX10_63 : Cond.methodLink RX10 63 yX8_init ∈ eT := eT_in (i := 210) (by decide +kernel) rfl
theorem klX8_3 : Cond.methodLink RX8 3 objectInit ∈ eT := eT_in (i := 213) (by decide +kernel) rfl
theorem klX8_11 : Cond.methodLink RX8 11 yX7_init ∈ eT := eT_in (i := 215) (by decide +kernel) rfl
theorem klX10_72 : Cond.methodLink RX10 72 yX9_init ∈ eT := eT_in (i := 231) (by decide +kernel) rfl
theorem klX9_3 : Cond.methodLink RX9 3 objectInit ∈ eT := eT_in (i := 234) (by decide +kernel) rfl
theorem klX9_15 : Cond.methodLink RX9 15 yX7_init ∈ eT := eT_in (i := 239) (by decide +kernel) rfl
theorem klX9_34 : Cond.methodLink RX9 34 yX6_init ∈ eT := eT_in (i := 241) (by decide +kernel) rfl
theorem klX10_81 : Cond.methodLink RX10 81 yX3_init ∈ eT := eT_in (i := 257) (by decide +kernel) rfl
theorem klX3_3 : Cond.methodLink RX3 3 objectInit ∈ eT := eT_in (i := 260) (by decide +kernel) rfl
theorem klX3_11 : Cond.methodLink RX3 11 yX7_init ∈ eT := eT_in (i := 262) (by decide +kernel) rfl
theorem klX3_22 : Cond.methodLink RX3 22 yX0_init ∈ eT := eT_in (i := 264) (by decide +kernel) rfl
theorem klX3_31 : Cond.methodLink RX3 31 yX6_init ∈ eT := eT_in (i := 266) (by decide +kernel) rfl
theorem klX10_88 : Cond.methodLink RX10 88 yX5_init ∈ eT := eT_in (i := 279) (by decide +kernel) rfl
theorem klX5_1 : Cond.methodLink RX5 1 objectInit ∈ eT := eT_in (i := 282) (by decide +kernel) rfl
theorem klL_13 : Cond.methodLink RL 13 yX10_type ∈ eT := eT_in (i := 327) (by decide +kernel) rfl
theorem klX10_95 : Cond.methodLink RX10 95 yX2_add ∈ eT := eT_in (i := 331) (by decide +kernel) rfl
theorem klX2_31 : Cond.methodLink RX2 31 yX7_put ∈ eT := eT_in (i := 335) (by decide +kernel) rfl
theorem klX10_99 : Cond.methodLink RX10 99 yX2_size ∈ eT := eT_in (i := 339) (by decide +kernel) rfl
theorem klL_18 : Cond.methodLink RL 18 yX10_clear ∈ eT := eT_in (i := 343) (by decide +kernel) rfl
theorem klX10_103 : Cond.methodLink RX10 103 yX2_empty ∈ eT := eT_in (i := 347) (by decide +kernel) rfl
theorem klL_23 : Cond.methodLink RL 23 yX10_land ∈ eT := eT_in (i := 351) (by decide +kernel) rfl
theorem klX10_106 : Cond.methodLink RX10 106 yX2_read ∈ eT := eT_in (i := 355) (by decide +kernel) rfl
theorem klX2_35 : Cond.methodLink RX2 35 yX1_becomeFirst ∈ eT := eT_in (i := 359) (by decide +kernel) rfl
theorem klX2_48 : Cond.methodLink RX2 48 yX2_nextToken ∈ eT := eT_in (i := 360) (by decide +kernel) rfl
theorem klX2_106 : Cond.methodLink RX2 106 yX7_get ∈ eT := eT_in (i := 364) (by decide +kernel) rfl
theorem klX2_110 : Cond.methodLink RX2 110 yX2_isDigit ∈ eT := eT_in (i := 368) (by decide +kernel) rfl
theorem klX2_113 : Cond.methodLink RX2 113 yJ9_min_7cf53 ∈ eT := eT_in (i := 371) (by decide +kernel) rfl
theorem klX2_54 : Cond.methodLink RX2 54 yX2_readItem ∈ eT := eT_in (i := 374) (by decide +kernel) rfl
theorem klX2_61 : Cond.methodLink RX2 61 yX2_readSize ∈ eT := eT_in (i := 378) (by decide +kernel) rfl
theorem klX2_77 : Cond.methodLink RX2 77 yX2_readNumber ∈ eT := eT_in (i := 382) (by decide +kernel) rfl
theorem klX2_84 : Cond.methodLink RX2 84 yX1_setSize ∈ eT := eT_in (i := 386) (by decide +kernel) rfl
theorem klX2_87 : Cond.methodLink RX2 87 yX2_readItemEnd ∈ eT := eT_in (i := 390) (by decide +kernel) rfl
theorem klX2_64 : Cond.methodLink RX2 64 yX2_readHeight ∈ eT := eT_in (i := 394) (by decide +kernel) rfl
theorem klX2_90 : Cond.methodLink RX2 90 yX1_cells ∈ eT := eT_in (i := 398) (by decide +kernel) rfl
theorem klX2_93 : Cond.methodLink RX2 93 yX1_setHeight ∈ eT := eT_in (i := 402) (by decide +kernel) rfl
theorem klX1_46 : Cond.methodLink RX1 46 yX7_put ∈ eT := eT_in (i := 406) (by decide +kernel) rfl
theorem klX2_67 : Cond.methodLink RX2 67 yX1_towns ∈ eT := eT_in (i := 407) (by decide +kernel) rfl
theorem klX2_71 : Cond.methodLink RX2 71 yX2_readTown ∈ eT := eT_in (i := 411) (by decide +kernel) rfl
theorem klX2_96 : Cond.methodLink RX2 96 yX1_isTown ∈ eT := eT_in (i := 415) (by decide +kernel) rfl
theorem klX1_57 : Cond.methodLink RX1 57 yX1_cellsOfTowns ∈ eT := eT_in (i := 420) (by decide +kernel) rfl
theorem klX1_42 : Cond.methodLink RX1 42 yX7_get ∈ eT := eT_in (i := 424) (by decide +kernel) rfl
theorem klX2_100 : Cond.methodLink RX2 100 yX1_addTown ∈ eT := eT_in (i := 425) (by decide +kernel) rfl
theorem klX2_74 : Cond.methodLink RX2 74 yX2_readSlope ∈ eT := eT_in (i := 429) (by decide +kernel) rfl
theorem klX2_103 : Cond.methodLink RX2 103 yX1_setSlope ∈ eT := eT_in (i := 433) (by decide +kernel) rfl
theorem klX10_109 : Cond.methodLink RX10 109 yX2_told ∈ eT := eT_in (i := 437) (by decide +kernel) rfl
theorem klX10_113 : Cond.methodLink RX10 113 yX1_become ∈ eT := eT_in (i := 441) (by decide +kernel) rfl
theorem klX10_116 : Cond.methodLink RX10 116 yX0_removeAll ∈ eT := eT_in (i := 445) (by decide +kernel) rfl
theorem klX0_24 : Cond.methodLink RX0 24 yX7_put ∈ eT := eT_in (i := 449) (by decide +kernel) rfl
theorem klX10_119 : Cond.methodLink RX10 119 yX4_forget ∈ eT := eT_in (i := 450) (by decide +kernel) rfl
theorem klL_27 : Cond.methodLink RL 27 yX10_height ∈ eT := eT_in (i := 454) (by decide +kernel) rfl
theorem klX10_122 : Cond.methodLink RX10 122 yX1_hasCell ∈ eT := eT_in (i := 458) (by decide +kernel) rfl
theorem klX1_50 : Cond.methodLink RX1 50 yX1_cells ∈ eT := eT_in (i := 462) (by decide +kernel) rfl
theorem klX10_125 : Cond.methodLink RX10 125 yX1_heightAt ∈ eT := eT_in (i := 463) (by decide +kernel) rfl
theorem klL_31 : Cond.methodLink RL 31 yX10_town ∈ eT := eT_in (i := 467) (by decide +kernel) rfl
theorem klX10_129 : Cond.methodLink RX10 129 yX1_towns ∈ eT := eT_in (i := 471) (by decide +kernel) rfl
theorem klX10_132 : Cond.methodLink RX10 132 yX1_townCell ∈ eT := eT_in (i := 472) (by decide +kernel) rfl
theorem klL_35 : Cond.methodLink RL 35 yX10_bolt ∈ eT := eT_in (i := 476) (by decide +kernel) rfl
theorem klX10_135 : Cond.methodLink RX10 135 yX0_has ∈ eT := eT_in (i := 480) (by decide +kernel) rfl
theorem klX0_36 : Cond.methodLink RX0 36 yX0_size ∈ eT := eT_in (i := 484) (by decide +kernel) rfl
theorem klX0_32 : Cond.methodLink RX0 32 yX7_get ∈ eT := eT_in (i := 488) (by decide +kernel) rfl
theorem klX10_138 : Cond.methodLink RX10 138 yX0_firstCell ∈ eT := eT_in (i := 489) (by decide +kernel) rfl
theorem klX0_40 : Cond.methodLink RX0 40 yX0_placeOf ∈ eT := eT_in (i := 493) (by decide +kernel) rfl
theorem klX10_141 : Cond.methodLink RX10 141 yX0_lastCell ∈ eT := eT_in (i := 496) (by decide +kernel) rfl
theorem klX0_43 : Cond.methodLink RX0 43 yX0_length ∈ eT := eT_in (i := 500) (by decide +kernel) rfl
theorem klX0_46 : Cond.methodLink RX0 46 yX0_cellBehind ∈ eT := eT_in (i := 504) (by decide +kernel) rfl
theorem klX0_50 : Cond.methodLink RX0 50 yX0_firstCell ∈ eT := eT_in (i := 508) (by decide +kernel) rfl
theorem klX0_53 : Cond.methodLink RX0 53 yX0_cardAt ∈ eT := eT_in (i := 509) (by decide +kernel) rfl
theorem klX0_56 : Cond.methodLink RX0 56 yX1_neighbour ∈ eT := eT_in (i := 513) (by decide +kernel) rfl
theorem klX10_144 : Cond.methodLink RX10 144 yX0_length ∈ eT := eT_in (i := 517) (by decide +kernel) rfl
theorem klX10_147 : Cond.methodLink RX10 147 yX0_climb ∈ eT := eT_in (i := 518) (by decide +kernel) rfl
theorem klX0_74 : Cond.methodLink RX0 74 yX1_step ∈ eT := eT_in (i := 522) (by decide +kernel) rfl
theorem klX0_77 : Cond.methodLink RX0 77 yJ9_max_7cf53 ∈ eT := eT_in (i := 526) (by decide +kernel) rfl
theorem klL_40 : Cond.methodLink RL 40 yX10_card ∈ eT := eT_in (i := 527) (by decide +kernel) rfl
theorem klX10_150 : Cond.methodLink RX10 150 yX0_cardAt ∈ eT := eT_in (i := 531) (by decide +kernel) rfl
theorem klL_44 : Cond.methodLink RL 44 yX10_road ∈ eT := eT_in (i := 532) (by decide +kernel) rfl
theorem klX10_154 : Cond.methodLink RX10 154 yX10_isCard ∈ eT := eT_in (i := 536) (by decide +kernel) rfl
theorem klX10_157 : Cond.methodLink RX10 157 yX6_lay ∈ eT := eT_in (i := 539) (by decide +kernel) rfl
theorem klX6_22 : Cond.methodLink RX6 22 yX0_size ∈ eT := eT_in (i := 543) (by decide +kernel) rfl
theorem klX6_28 : Cond.methodLink RX6 28 yX0_firstCell ∈ eT := eT_in (i := 544) (by decide +kernel) rfl
theorem klX6_32 : Cond.methodLink RX6 32 yX0_length ∈ eT := eT_in (i := 545) (by decide +kernel) rfl
theorem klX6_35 : Cond.methodLink RX6 35 yX0_cardAt ∈ eT := eT_in (i := 546) (by decide +kernel) rfl
theorem klX6_39 : Cond.methodLink RX6 39 yX1_neighbour ∈ eT := eT_in (i := 547) (by decide +kernel) rfl
theorem klX6_44 : Cond.methodLink RX6 44 yJ9_min_7cf53 ∈ eT := eT_in (i := 548) (by decide +kernel) rfl
theorem klX6_49 : Cond.methodLink RX6 49 yJ9_max_7cf53 ∈ eT := eT_in (i := 549) (by decide +kernel) rfl
theorem klX6_52 : Cond.methodLink RX6 52 yX6_layBetween ∈ eT := eT_in (i := 550) (by decide +kernel) rfl
theorem klX10_160 : Cond.methodLink RX10 160 yX6_goes ∈ eT := eT_in (i := 555) (by decide +kernel) rfl
theorem klX6_68 : Cond.methodLink RX6 68 yX1_wide ∈ eT := eT_in (i := 559) (by decide +kernel) rfl
theorem klL_48 : Cond.methodLink RL 48 yX10_now ∈ eT := eT_in (i := 563) (by decide +kernel) rfl
theorem klX10_164 : Cond.methodLink RX10 164 yX0_size ∈ eT := eT_in (i := 567) (by decide +kernel) rfl
theorem klX10_165 : Cond.methodLink RX10 165 yX0_ells ∈ eT := eT_in (i := 568) (by decide +kernel) rfl
theorem klX10_168 : Cond.methodLink RX10 168 yX6_pieces ∈ eT := eT_in (i := 572) (by decide +kernel) rfl
theorem klX6_74 : Cond.methodLink RX6 74 yX1_towns ∈ eT := eT_in (i := 576) (by decide +kernel) rfl
theorem klX6_77 : Cond.methodLink RX6 77 yX1_townCell ∈ eT := eT_in (i := 577) (by decide +kernel) rfl
theorem klX6_80 : Cond.methodLink RX6 80 yX6_reach ∈ eT := eT_in (i := 578) (by decide +kernel) rfl
theorem klX6_71 : Cond.methodLink RX6 71 yX6_spread ∈ eT := eT_in (i := 582) (by decide +kernel) rfl
theorem klX10_171 : Cond.methodLink RX10 171 yX0_toNowhere ∈ eT := eT_in (i := 586) (by decide +kernel) rfl
theorem klX0_82 : Cond.methodLink RX0 82 yX0_touchesTown ∈ eT := eT_in (i := 590) (by decide +kernel) rfl
theorem klX0_70 : Cond.methodLink RX0 70 yX1_isTown ∈ eT := eT_in (i := 594) (by decide +kernel) rfl
theorem klX10_174 : Cond.methodLink RX10 174 yX6_steepest ∈ eT := eT_in (i := 596) (by decide +kernel) rfl
theorem klX6_56 : Cond.methodLink RX6 56 yX1_cells ∈ eT := eT_in (i := 600) (by decide +kernel) rfl
theorem klX6_83 : Cond.methodLink RX6 83 yX6_goes ∈ eT := eT_in (i := 601) (by decide +kernel) rfl
theorem klX6_59 : Cond.methodLink RX6 59 yX1_step ∈ eT := eT_in (i := 602) (by decide +kernel) rfl
theorem klX6_62 : Cond.methodLink RX6 62 yJ9_abs_0f7a4 ∈ eT := eT_in (i := 603) (by decide +kernel) rfl
theorem klX10_177 : Cond.methodLink RX10 177 yX9_leastSlope ∈ eT := eT_in (i := 606) (by decide +kernel) rfl
theorem klX9_40 : Cond.methodLink RX9 40 yX6_layWhereSlope ∈ eT := eT_in (i := 610) (by decide +kernel) rfl
theorem klX9_43 : Cond.methodLink RX9 43 yX6_pieces ∈ eT := eT_in (i := 614) (by decide +kernel) rfl
theorem klX10_180 : Cond.methodLink RX10 180 yX4_known ∈ eT := eT_in (i := 615) (by decide +kernel) rfl
theorem klL_52 : Cond.methodLink RL 52 yX10_begins ∈ eT := eT_in (i := 619) (by decide +kernel) rfl
theorem klX10_183 : Cond.methodLink RX10 183 yX4_remember ∈ eT := eT_in (i := 623) (by decide +kernel) rfl
theorem klX4_33 : Cond.methodLink RX4 33 yX0_copyTo ∈ eT := eT_in (i := 627) (by decide +kernel) rfl
theorem klX4_37 : Cond.methodLink RX4 37 yJ9_min_7cf53 ∈ eT := eT_in (i := 631) (by decide +kernel) rfl
theorem klX10_186 : Cond.methodLink RX10 186 yX0_begin ∈ eT := eT_in (i := 632) (by decide +kernel) rfl
theorem klL_56 : Cond.methodLink RL 56 yX10_weaves ∈ eT := eT_in (i := 636) (by decide +kernel) rfl
theorem klX10_189 : Cond.methodLink RX10 189 yX1_cellBy ∈ eT := eT_in (i := 640) (by decide +kernel) rfl
theorem klX1_60 : Cond.methodLink RX1 60 yX1_neighbour ∈ eT := eT_in (i := 644) (by decide +kernel) rfl
theorem klX1_64 : Cond.methodLink RX1 64 yX1_step ∈ eT := eT_in (i := 645) (by decide +kernel) rfl
theorem klX1_67 : Cond.methodLink RX1 67 yJ9_abs_0f7a4 ∈ eT := eT_in (i := 646) (by decide +kernel) rfl
theorem klX10_192 : Cond.methodLink RX10 192 yX0_weave ∈ eT := eT_in (i := 647) (by decide +kernel) rfl
theorem klL_60 : Cond.methodLink RL 60 yX10_turnAbout ∈ eT := eT_in (i := 651) (by decide +kernel) rfl
theorem klX10_196 : Cond.methodLink RX10 196 yX0_turn ∈ eT := eT_in (i := 655) (by decide +kernel) rfl
theorem klX0_64 : Cond.methodLink RX0 64 yX0_lastCell ∈ eT := eT_in (i := 659) (by decide +kernel) rfl
theorem klX0_67 : Cond.methodLink RX0 67 yX0_opposite ∈ eT := eT_in (i := 660) (by decide +kernel) rfl
theorem klL_64 : Cond.methodLink RL 64 yX10_rain ∈ eT := eT_in (i := 663) (by decide +kernel) rfl
theorem klX10_199 : Cond.methodLink RX10 199 yX0_fray ∈ eT := eT_in (i := 667) (by decide +kernel) rfl
theorem klL_68 : Cond.methodLink RL 68 yX10_undo ∈ eT := eT_in (i := 671) (by decide +kernel) rfl
theorem klX10_202 : Cond.methodLink RX10 202 yX4_takeBack ∈ eT := eT_in (i := 675) (by decide +kernel) rfl
theorem klX4_43 : Cond.methodLink RX4 43 yX0_copyFrom ∈ eT := eT_in (i := 679) (by decide +kernel) rfl
theorem klL_72 : Cond.methodLink RL 72 yX10_joined ∈ eT := eT_in (i := 683) (by decide +kernel) rfl
theorem klX10_206 : Cond.methodLink RX10 206 yX10_bit ∈ eT := eT_in (i := 687) (by decide +kernel) rfl
theorem klX10_209 : Cond.methodLink RX10 209 yX6_reach ∈ eT := eT_in (i := 688) (by decide +kernel) rfl
theorem klL_76 : Cond.methodLink RL 76 yX10_toWeave ∈ eT := eT_in (i := 689) (by decide +kernel) rfl
theorem klX10_212 : Cond.methodLink RX10 212 yX9_fewestElls ∈ eT := eT_in (i := 693) (by decide +kernel) rfl
theorem klX9_47 : Cond.methodLink RX9 47 yX1_slope ∈ eT := eT_in (i := 697) (by decide +kernel) rfl
theorem klX9_52 : Cond.methodLink RX9 52 yX1_towns ∈ eT := eT_in (i := 701) (by decide +kernel) rfl
theorem klX9_55 : Cond.methodLink RX9 55 yX1_cells ∈ eT := eT_in (i := 702) (by decide +kernel) rfl
theorem klX9_58 : Cond.methodLink RX9 58 yX9_placeOf ∈ eT := eT_in (i := 703) (by decide +kernel) rfl
theorem klX9_62 : Cond.methodLink RX9 62 yX9_cellsJoined ∈ eT := eT_in (i := 706) (by decide +kernel) rfl
theorem klX9_72 : Cond.methodLink RX9 72 yJ6_bitCount_0f7a4 ∈ eT := eT_in (i := 710) (by decide +kernel) rfl
theorem klX9_77 : Cond.methodLink RX9 77 yX1_cellsOfTowns ∈ eT := eT_in (i := 716) (by decide +kernel) rfl
theorem klX9_80 : Cond.methodLink RX9 80 yX9_cellsWherePartsMeet ∈ eT := eT_in (i := 717) (by decide +kernel) rfl
theorem klX9_69 : Cond.methodLink RX9 69 yX7_get ∈ eT := eT_in (i := 721) (by decide +kernel) rfl
theorem klX9_83 : Cond.methodLink RX9 83 yX6_spread ∈ eT := eT_in (i := 722) (by decide +kernel) rfl
theorem klX9_86 : Cond.methodLink RX9 86 yX6_reach ∈ eT := eT_in (i := 723) (by decide +kernel) rfl
theorem klX9_65 : Cond.methodLink RX9 65 yX7_put ∈ eT := eT_in (i := 724) (by decide +kernel) rfl
theorem klL_80 : Cond.methodLink RL 80 yX10_way ∈ eT := eT_in (i := 725) (by decide +kernel) rfl
theorem klX10_215 : Cond.methodLink RX10 215 yX8_soonest ∈ eT := eT_in (i := 729) (by decide +kernel) rfl
theorem klX8_32 : Cond.methodLink RX8 32 yX0_seams ∈ eT := eT_in (i := 733) (by decide +kernel) rfl
theorem klX8_38 : Cond.methodLink RX8 38 yX7_fill ∈ eT := eT_in (i := 737) (by decide +kernel) rfl
theorem klX8_41 : Cond.methodLink RX8 41 yX7_put ∈ eT := eT_in (i := 738) (by decide +kernel) rfl
theorem klX8_45 : Cond.methodLink RX8 45 yX1_cells ∈ eT := eT_in (i := 739) (by decide +kernel) rfl
theorem klX8_50 : Cond.methodLink RX8 50 yX7_get ∈ eT := eT_in (i := 740) (by decide +kernel) rfl
theorem klX8_54 : Cond.methodLink RX8 54 yX8_goOn ∈ eT := eT_in (i := 741) (by decide +kernel) rfl
theorem klX8_58 : Cond.methodLink RX8 58 yX6_goes ∈ eT := eT_in (i := 745) (by decide +kernel) rfl
theorem klX8_63 : Cond.methodLink RX8 63 yX1_neighbour ∈ eT := eT_in (i := 746) (by decide +kernel) rfl
theorem klX8_70 : Cond.methodLink RX8 70 yX1_step ∈ eT := eT_in (i := 748) (by decide +kernel) rfl
theorem klX8_73 : Cond.methodLink RX8 73 yJ9_max_7cf53 ∈ eT := eT_in (i := 749) (by decide +kernel) rfl
theorem klL_84 : Cond.methodLink RL 84 yX10_darners ∈ eT := eT_in (i := 750) (by decide +kernel) rfl
theorem klX10_218 : Cond.methodLink RX10 218 yX6_fewestDarners ∈ eT := eT_in (i := 754) (by decide +kernel) rfl
theorem klX6_87 : Cond.methodLink RX6 87 yJ6_bitCount_0f7a4 ∈ eT := eT_in (i := 758) (by decide +kernel) rfl
theorem klX6_92 : Cond.methodLink RX6 92 yX1_cellsOfTowns ∈ eT := eT_in (i := 759) (by decide +kernel) rfl
theorem klL_88 : Cond.methodLink RL 88 yX10_odds ∈ eT := eT_in (i := 760) (by decide +kernel) rfl
theorem klX10_221 : Cond.methodLink RX10 221 yX3_upperNumber ∈ eT := eT_in (i := 764) (by decide +kernel) rfl
theorem klX3_36 : Cond.methodLink RX3 36 yX3_foretell ∈ eT := eT_in (i := 768) (by decide +kernel) rfl
theorem klX3_58 : Cond.methodLink RX3 58 yX7_fill ∈ eT := eT_in (i := 772) (by decide +kernel) rfl
theorem klX3_61 : Cond.methodLink RX3 61 yX7_put ∈ eT := eT_in (i := 773) (by decide +kernel) rfl
theorem klX3_51 : Cond.methodLink RX3 51 yX7_get ∈ eT := eT_in (i := 774) (by decide +kernel) rfl
theorem klX3_40 : Cond.methodLink RX3 40 yX0_become ∈ eT := eT_in (i := 775) (by decide +kernel) rfl
theorem klX0_28 : Cond.methodLink RX0 28 yX0_copyTo ∈ eT := eT_in (i := 779) (by decide +kernel) rfl
theorem klX3_44 : Cond.methodLink RX3 44 yX6_lay ∈ eT := eT_in (i := 780) (by decide +kernel) rfl
theorem klX3_47 : Cond.methodLink RX3 47 yX6_pieces ∈ eT := eT_in (i := 781) (by decide +kernel) rfl
theorem klX3_55 : Cond.methodLink RX3 55 yX0_fray ∈ eT := eT_in (i := 782) (by decide +kernel) rfl
theorem klX10_225 : Cond.methodLink RX10 225 yX3_lowerNumber ∈ eT := eT_in (i := 783) (by decide +kernel) rfl
theorem klX10_228 : Cond.methodLink RX10 228 yX10_commonDivisor ∈ eT := eT_in (i := 787) (by decide +kernel) rfl
theorem klL_93 : Cond.methodLink RL 93 yX10_wrong ∈ eT := eT_in (i := 790) (by decide +kernel) rfl
theorem klX10_231 : Cond.methodLink RX10 231 yX0_cellIf ∈ eT := eT_in (i := 794) (by decide +kernel) rfl
theorem klX0_61 : Cond.methodLink RX0 61 yX1_cellBy ∈ eT := eT_in (i := 798) (by decide +kernel) rfl
theorem klL_97 : Cond.methodLink RL 97 yX10_look ∈ eT := eT_in (i := 799) (by decide +kernel) rfl
theorem klX10_235 : Cond.methodLink RX10 235 yX0_cellBehind ∈ eT := eT_in (i := 803) (by decide +kernel) rfl
theorem klX10_238 : Cond.methodLink RX10 238 yJ6_bitCount_0f7a4 ∈ eT := eT_in (i := 804) (by decide +kernel) rfl
theorem klL_101 : Cond.methodLink RL 101 yX10_rate ∈ eT := eT_in (i := 805) (by decide +kernel) rfl
theorem klX10_244 : Cond.methodLink RX10 244 yX5_asBolt ∈ eT := eT_in (i := 810) (by decide +kernel) rfl
theorem klX5_21 : Cond.methodLink RX5 21 yX0_length ∈ eT := eT_in (i := 814) (by decide +kernel) rfl
theorem klX10_247 : Cond.methodLink RX10 247 yX5_asLane ∈ eT := eT_in (i := 815) (by decide +kernel) rfl
theorem klX5_29 : Cond.methodLink RX5 29 yX5_asBolt ∈ eT := eT_in (i := 820) (by decide +kernel) rfl
theorem klX5_32 : Cond.methodLink RX5 32 yX0_lastCell ∈ eT := eT_in (i := 821) (by decide +kernel) rfl
theorem klX10_250 : Cond.methodLink RX10 250 yX5_asToll ∈ eT := eT_in (i := 822) (by decide +kernel) rfl
theorem klX5_37 : Cond.methodLink RX5 37 yX0_climb ∈ eT := eT_in (i := 827) (by decide +kernel) rfl
theorem klX10_253 : Cond.methodLink RX10 253 yX5_asTrack ∈ eT := eT_in (i := 828) (by decide +kernel) rfl
theorem klX5_42 : Cond.methodLink RX5 42 yX5_asLane ∈ eT := eT_in (i := 833) (by decide +kernel) rfl
theorem klX10_256 : Cond.methodLink RX10 256 yX5_asMoth ∈ eT := eT_in (i := 834) (by decide +kernel) rfl
theorem klX5_47 : Cond.methodLink RX5 47 yX5_asToll ∈ eT := eT_in (i := 839) (by decide +kernel) rfl
theorem klX10_259 : Cond.methodLink RX10 259 yX5_asDream ∈ eT := eT_in (i := 840) (by decide +kernel) rfl
theorem klX5_52 : Cond.methodLink RX5 52 yX6_lay ∈ eT := eT_in (i := 845) (by decide +kernel) rfl
theorem klX5_58 : Cond.methodLink RX5 58 yX6_pieces ∈ eT := eT_in (i := 846) (by decide +kernel) rfl
theorem klL_105 : Cond.methodLink RL 105 yX10_keep ∈ eT := eT_in (i := 847) (by decide +kernel) rfl
theorem klX10_262 : Cond.methodLink RX10 262 yX10_isImage ∈ eT := eT_in (i := 851) (by decide +kernel) rfl
theorem klX10_265 : Cond.methodLink RX10 265 yX0_copyTo ∈ eT := eT_in (i := 854) (by decide +kernel) rfl
theorem klL_109 : Cond.methodLink RL 109 yX10_back ∈ eT := eT_in (i := 855) (by decide +kernel) rfl
theorem klX10_269 : Cond.methodLink RX10 269 yX0_copyFrom ∈ eT := eT_in (i := 859) (by decide +kernel) rfl
theorem klL_113 : Cond.methodLink RL 113 yX10_count ∈ eT := eT_in (i := 860) (by decide +kernel) rfl
theorem klX10_272 : Cond.methodLink RX10 272 yX1_wide ∈ eT := eT_in (i := 864) (by decide +kernel) rfl
theorem klX10_275 : Cond.methodLink RX10 275 yX1_deep ∈ eT := eT_in (i := 865) (by decide +kernel) rfl
theorem klX10_278 : Cond.methodLink RX10 278 yX1_slope ∈ eT := eT_in (i := 869) (by decide +kernel) rfl
theorem klL_117 : Cond.methodLink RL 117 yX10_trace ∈ eT := eT_in (i := 870) (by decide +kernel) rfl
theorem klX10_281 : Cond.methodLink RX10 281 yX5_traced ∈ eT := eT_in (i := 874) (by decide +kernel) rfl
theorem klL_12 : Cond.methodLink RL 12 yX11_init ∈ eT := eT_in (i := 880) (by decide +kernel) rfl
theorem klX11_1 : Cond.methodLink RX11 1 objectInit ∈ eT := eT_in (i := 883) (by decide +kernel) rfl
theorem klL_17 : Cond.methodLink RL 17 yX11_type ∈ eT := eT_in (i := 955) (by decide +kernel) rfl
theorem klX11_54 : Cond.methodLink RX11 54 yX11_in ∈ eT := eT_in (i := 959) (by decide +kernel) rfl
theorem klL_22 : Cond.methodLink RL 22 yX11_clear ∈ eT := eT_in (i := 962) (by decide +kernel) rfl
theorem klL_26 : Cond.methodLink RL 26 yX11_land ∈ eT := eT_in (i := 966) (by decide +kernel) rfl
theorem klX11_84 : Cond.methodLink RX11 84 yX11_advances ∈ eT := eT_in (i := 970) (by decide +kernel) rfl
theorem klX11_64 : Cond.methodLink RX11 64 yX11_letterAt ∈ eT := eT_in (i := 974) (by decide +kernel) rfl
theorem klX11_80 : Cond.methodLink RX11 80 yX11_isWell ∈ eT := eT_in (i := 978) (by decide +kernel) rfl
theorem klX11_103 : Cond.methodLink RX11 103 yX11_mayBegin ∈ eT := eT_in (i := 982) (by decide +kernel) rfl
theorem klX11_87 : Cond.methodLink RX11 87 yX11_takes ∈ eT := eT_in (i := 986) (by decide +kernel) rfl
theorem klX11_106 : Cond.methodLink RX11 106 yX11_readsItem ∈ eT := eT_in (i := 990) (by decide +kernel) rfl
theorem klX11_95 : Cond.methodLink RX11 95 yX11_number ∈ eT := eT_in (i := 994) (by decide +kernel) rfl
theorem klX11_99 : Cond.methodLink RX11 99 yX11_isTaken ∈ eT := eT_in (i := 998) (by decide +kernel) rfl
theorem klX11_110 : Cond.methodLink RX11 110 yX11_settles ∈ eT := eT_in (i := 1002) (by decide +kernel) rfl
theorem klL_30 : Cond.methodLink RL 30 yX11_height ∈ eT := eT_in (i := 1006) (by decide +kernel) rfl
theorem klX11_120 : Cond.methodLink RX11 120 yX11_isCell ∈ eT := eT_in (i := 1010) (by decide +kernel) rfl
theorem klX11_116 : Cond.methodLink RX11 116 yX11_cells ∈ eT := eT_in (i := 1014) (by decide +kernel) rfl
theorem klL_34 : Cond.methodLink RL 34 yX11_town ∈ eT := eT_in (i := 1018) (by decide +kernel) rfl
theorem klL_39 : Cond.methodLink RL 39 yX11_bolt ∈ eT := eT_in (i := 1022) (by decide +kernel) rfl
theorem klX11_143 : Cond.methodLink RX11 143 yX11_isBolt ∈ eT := eT_in (i := 1026) (by decide +kernel) rfl
theorem klX11_129 : Cond.methodLink RX11 129 yX11_firstOf ∈ eT := eT_in (i := 1030) (by decide +kernel) rfl
theorem klX11_146 : Cond.methodLink RX11 146 yX11_endOf ∈ eT := eT_in (i := 1033) (by decide +kernel) rfl
theorem klX11_137 : Cond.methodLink RX11 137 yX11_cardsOf ∈ eT := eT_in (i := 1037) (by decide +kernel) rfl
theorem klX11_140 : Cond.methodLink RX11 140 yX11_behind ∈ eT := eT_in (i := 1040) (by decide +kernel) rfl
theorem klX11_133 : Cond.methodLink RX11 133 yX11_cardAt ∈ eT := eT_in (i := 1044) (by decide +kernel) rfl
theorem klX11_123 : Cond.methodLink RX11 123 yX11_leads ∈ eT := eT_in (i := 1047) (by decide +kernel) rfl
theorem klX11_149 : Cond.methodLink RX11 149 yX11_upOf ∈ eT := eT_in (i := 1051) (by decide +kernel) rfl
theorem klL_43 : Cond.methodLink RL 43 yX11_card ∈ eT := eT_in (i := 1055) (by decide +kernel) rfl
theorem klL_47 : Cond.methodLink RL 47 yX11_road ∈ eT := eT_in (i := 1059) (by decide +kernel) rfl
theorem klX11_152 : Cond.methodLink RX11 152 yX11_builds ∈ eT := eT_in (i := 1063) (by decide +kernel) rfl
theorem klL_51 : Cond.methodLink RL 51 yX11_now ∈ eT := eT_in (i := 1067) (by decide +kernel) rfl
theorem klX11_166 : Cond.methodLink RX11 166 yX11_ells ∈ eT := eT_in (i := 1071) (by decide +kernel) rfl
theorem klX11_169 : Cond.methodLink RX11 169 yX11_piecesOf ∈ eT := eT_in (i := 1075) (by decide +kernel) rfl
theorem klX11_157 : Cond.methodLink RX11 157 yX11_spreads ∈ eT := eT_in (i := 1079) (by decide +kernel) rfl
theorem klX11_173 : Cond.methodLink RX11 173 yX11_nowhere ∈ eT := eT_in (i := 1084) (by decide +kernel) rfl
theorem klX11_160 : Cond.methodLink RX11 160 yX11_isTown ∈ eT := eT_in (i := 1088) (by decide +kernel) rfl
theorem klX11_176 : Cond.methodLink RX11 176 yX11_steep ∈ eT := eT_in (i := 1092) (by decide +kernel) rfl
theorem klX11_126 : Cond.methodLink RX11 126 yX11_step ∈ eT := eT_in (i := 1096) (by decide +kernel) rfl
theorem klX11_179 : Cond.methodLink RX11 179 yX11_leastSlope ∈ eT := eT_in (i := 1100) (by decide +kernel) rfl
theorem klX11_163 : Cond.methodLink RX11 163 yX11_couldBe ∈ eT := eT_in (i := 1104) (by decide +kernel) rfl
theorem klL_55 : Cond.methodLink RL 55 yX11_begins ∈ eT := eT_in (i := 1108) (by decide +kernel) rfl
theorem klX11_182 : Cond.methodLink RX11 182 yX11_notes ∈ eT := eT_in (i := 1112) (by decide +kernel) rfl
theorem klL_59 : Cond.methodLink RL 59 yX11_weaves ∈ eT := eT_in (i := 1116) (by decide +kernel) rfl
theorem klX11_185 : Cond.methodLink RX11 185 yX11_goes ∈ eT := eT_in (i := 1120) (by decide +kernel) rfl
theorem klL_63 : Cond.methodLink RL 63 yX11_turnAbout ∈ eT := eT_in (i := 1124) (by decide +kernel) rfl
theorem klL_67 : Cond.methodLink RL 67 yX11_rain ∈ eT := eT_in (i := 1128) (by decide +kernel) rfl
theorem klX11_188 : Cond.methodLink RX11 188 yX11_frays ∈ eT := eT_in (i := 1132) (by decide +kernel) rfl
theorem klL_71 : Cond.methodLink RL 71 yX11_undo ∈ eT := eT_in (i := 1136) (by decide +kernel) rfl
theorem klL_75 : Cond.methodLink RL 75 yX11_joined ∈ eT := eT_in (i := 1140) (by decide +kernel) rfl
theorem klL_79 : Cond.methodLink RL 79 yX11_toWeave ∈ eT := eT_in (i := 1144) (by decide +kernel) rfl
theorem klX11_191 : Cond.methodLink RX11 191 yX11_grows ∈ eT := eT_in (i := 1148) (by decide +kernel) rfl
theorem klL_83 : Cond.methodLink RL 83 yX11_way ∈ eT := eT_in (i := 1152) (by decide +kernel) rfl
theorem klX11_194 : Cond.methodLink RX11 194 yX11_ones ∈ eT := eT_in (i := 1156) (by decide +kernel) rfl
theorem klL_87 : Cond.methodLink RL 87 yX11_darners ∈ eT := eT_in (i := 1159) (by decide +kernel) rfl
theorem klX11_197 : Cond.methodLink RX11 197 yX11_areNear ∈ eT := eT_in (i := 1163) (by decide +kernel) rfl
theorem klL_92 : Cond.methodLink RL 92 yX11_odds ∈ eT := eT_in (i := 1167) (by decide +kernel) rfl
theorem klX11_201 : Cond.methodLink RX11 201 yX11_choose ∈ eT := eT_in (i := 1171) (by decide +kernel) rfl
theorem klX11_204 : Cond.methodLink RX11 204 yX11_power ∈ eT := eT_in (i := 1174) (by decide +kernel) rfl
theorem klX11_207 : Cond.methodLink RX11 207 yX11_gcd ∈ eT := eT_in (i := 1177) (by decide +kernel) rfl
theorem klL_96 : Cond.methodLink RL 96 yX11_wrong ∈ eT := eT_in (i := 1180) (by decide +kernel) rfl
theorem klX11_210 : Cond.methodLink RX11 210 yX11_otherwise ∈ eT := eT_in (i := 1184) (by decide +kernel) rfl
theorem klL_100 : Cond.methodLink RL 100 yX11_look ∈ eT := eT_in (i := 1188) (by decide +kernel) rfl
theorem klL_104 : Cond.methodLink RL 104 yX11_rate ∈ eT := eT_in (i := 1192) (by decide +kernel) rfl
theorem klL_108 : Cond.methodLink RL 108 yX11_keep ∈ eT := eT_in (i := 1202) (by decide +kernel) rfl
theorem klL_112 : Cond.methodLink RL 112 yX11_back ∈ eT := eT_in (i := 1206) (by decide +kernel) rfl
theorem klL_116 : Cond.methodLink RL 116 yX11_count ∈ eT := eT_in (i := 1210) (by decide +kernel) rfl
theorem klL_121 : Cond.methodLink RL 121 yX11_trace ∈ eT := eT_in (i := 1214) (by decide +kernel) rfl
theorem knX10_18 : Cond.methodLinkNest RX10 18 yX2_init "WovenRoads" ∈ eNw := List.mem_filter.mpr ⟨List.mem_of_getElem? (i := 72) (by decide +kernel), rfl⟩
theorem knX9_11 : Cond.methodLinkNest RX9 11 yX10_bit "WovenRoads" ∈ eNw := List.mem_filter.mpr ⟨List.mem_of_getElem? (i := 190) (by decide +kernel), rfl⟩
theorem knX1_54 : Cond.methodLinkNest RX1 54 yX10_bit "WovenRoads" ∈ eNw := List.mem_filter.mpr ⟨List.mem_of_getElem? (i := 373) (by decide +kernel), rfl⟩
theorem knX6_65 : Cond.methodLinkNest RX6 65 yX10_bit "WovenRoads" ∈ eNw := List.mem_filter.mpr ⟨List.mem_of_getElem? (i := 508) (by decide +kernel), rfl⟩
theorem knX0_85 : Cond.methodLinkNest RX0 85 yX10_bit "WovenRoads" ∈ eNw := List.mem_filter.mpr ⟨List.mem_of_getElem? (i := 549) (by decide +kernel), rfl⟩
theorem knX8_67 : Cond.methodLinkNest RX8 67 yX10_bit "WovenRoads" ∈ eNw := List.mem_filter.mpr ⟨List.mem_of_getElem? (i := 701) (by decide +kernel), rfl⟩
theorem kcL_7 : Cond.classLink RL 7 RX10 ∈ eT := eT_in (i := 61) (by decide +kernel) rfl
theorem kcX10_9 : Cond.classLink RX10 9 RX1 ∈ eT := eT_in (i := 69) (by decide +kernel) rfl
theorem kcX1_9 : Cond.classLink RX1 9 RX7 ∈ eT := eT_in (i := 75) (by decide +kernel) rfl
theorem kcX10_16 : Cond.classLink RX10 16 RX2 ∈ eT := eT_in (i := 116) (by decide +kernel) rfl
theorem kcX2_9 : Cond.classLink RX2 9 RX7 ∈ eT := eT_in (i := 122) (by decide +kernel) rfl
theorem kcX2_24 : Cond.classLink RX2 24 RX1 ∈ eT := eT_in (i := 124) (by decide +kernel) rfl
theorem kcX10_23 : Cond.classLink RX10 23 RX0 ∈ eT := eT_in (i := 154) (by decide +kernel) rfl
theorem kcX0_11 : Cond.classLink RX0 11 RX7 ∈ eT := eT_in (i := 160) (by decide +kernel) rfl
theorem kcX10_32 : Cond.classLink RX10 32 RX4 ∈ eT := eT_in (i := 169) (by decide +kernel) rfl
theorem kcX4_9 : Cond.classLink RX4 9 RX7 ∈ eT := eT_in (i := 175) (by decide +kernel) rfl
theorem kcX10_41 : Cond.classLink RX10 41 RX7 ∈ eT := eT_in (i := 190) (by decide +kernel) rfl
theorem kcX10_54 : Cond.classLink RX10 54 RX6 ∈ eT := eT_in (i := 192) (by decide +kernel) rfl
theorem kcX10_61 : Cond.classLink RX10 61 RX8 ∈ eT := eT_in (i := 208) (by decide +kernel) rfl
theorem kcX8_9 : Cond.classLink RX8 9 RX7 ∈ eT := eT_in (i := 214) (by decide +kernel) rfl
theorem kcX10_70 : Cond.classLink RX10 70 RX9 ∈ eT := eT_in (i := 229) (by decide +kernel) rfl
theorem kcX9_9 : Cond.classLink RX9 9 RX7 ∈ eT := eT_in (i := 235) (by decide +kernel) rfl
theorem kcX9_32 : Cond.classLink RX9 32 RX6 ∈ eT := eT_in (i := 240) (by decide +kernel) rfl
theorem kcX10_79 : Cond.classLink RX10 79 RX3 ∈ eT := eT_in (i := 255) (by decide +kernel) rfl
theorem kcX3_9 : Cond.classLink RX3 9 RX7 ∈ eT := eT_in (i := 261) (by decide +kernel) rfl
theorem kcX3_20 : Cond.classLink RX3 20 RX0 ∈ eT := eT_in (i := 263) (by decide +kernel) rfl
theorem kcX3_29 : Cond.classLink RX3 29 RX6 ∈ eT := eT_in (i := 265) (by decide +kernel) rfl
theorem kcX10_86 : Cond.classLink RX10 86 RX5 ∈ eT := eT_in (i := 277) (by decide +kernel) rfl
theorem kcL_10 : Cond.classLink RL 10 RX11 ∈ eT := eT_in (i := 878) (by decide +kernel) rfl
theorem kkJ6_265 : Cond.constant RJ6 265 (1431655765) ∈ eT := eT_in (i := 713) (by decide +kernel) rfl
theorem kkJ6_266 : Cond.constant RJ6 266 (858993459) ∈ eT := eT_in (i := 714) (by decide +kernel) rfl
theorem kkJ6_267 : Cond.constant RJ6 267 (252645135) ∈ eT := eT_in (i := 715) (by decide +kernel) rfl
theorem kkX10_243 : Cond.constant RX10 243 (-1000000) ∈ eT := eT_in (i := 809) (by decide +kernel) rfl
theorem kkX11_156 : Cond.constant RX11 156 (1000000) ∈ eT := eT_in (i := 1083) (by decide +kernel) rfl
theorem kkX11_214 : Cond.constant RX11 214 (-1000000) ∈ eT := eT_in (i := 1196) (by decide +kernel) rfl
theorem kjX5_27 : Cond.constantLong RX5 27 (10) ∈ eT := eT_in (i := 819) (by decide +kernel) rfl
theorem kjX5_35 : Cond.constantLong RX5 35 (100) ∈ eT := eT_in (i := 826) (by decide +kernel) rfl
theorem kjX5_40 : Cond.constantLong RX5 40 (1000) ∈ eT := eT_in (i := 832) (by decide +kernel) rfl
theorem kjX5_45 : Cond.constantLong RX5 45 (10000) ∈ eT := eT_in (i := 838) (by decide +kernel) rfl
theorem kjX5_50 : Cond.constantLong RX5 50 (100000) ∈ eT := eT_in (i := 844) (by decide +kernel) rfl
theorem kjX11_219 : Cond.constantLong RX11 219 (11) ∈ eT := eT_in (i := 1197) (by decide +kernel) rfl
theorem kjX11_221 : Cond.constantLong RX11 221 (101) ∈ eT := eT_in (i := 1198) (by decide +kernel) rfl
theorem kjX11_223 : Cond.constantLong RX11 223 (1011) ∈ eT := eT_in (i := 1199) (by decide +kernel) rfl
theorem kjX11_225 : Cond.constantLong RX11 225 (10101) ∈ eT := eT_in (i := 1200) (by decide +kernel) rfl
theorem kjX11_227 : Cond.constantLong RX11 227 (100001) ∈ eT := eT_in (i := 1201) (by decide +kernel) rfl

theorem MI_Arrays_fill : MI yJ7_fill_53178 cJ7_fill_53178 4 none 2 := ⟨(tw 670 (by decide +kernel) rfl), (tw 13 (by decide +kernel) rfl), by decide +kernel, by decide⟩
theorem MI_Box_covers : MI yX0_covers cX0_covers 3 (some .boolean) 2 := ⟨(tw 403 (by decide +kernel) rfl), (tw 5 (by decide +kernel) rfl), by decide +kernel, by decide⟩
theorem MI_Box_coversAny : MI yX0_coversAny cX0_coversAny 6 (some .boolean) 4 := ⟨(tw 399 (by decide +kernel) rfl), (tw 5 (by decide +kernel) rfl), by decide +kernel, by decide⟩
theorem MI_Box_hits : MI yX0_hits cX0_hits 2 (some .boolean) 1 := ⟨(tw 452 (by decide +kernel) rfl), (tw 5 (by decide +kernel) rfl), by decide +kernel, by decide⟩
theorem MI_Box_isOpen : MI yX0_isOpen cX0_isOpen 4 (some .boolean) 2 := ⟨(tw 395 (by decide +kernel) rfl), (tw 5 (by decide +kernel) rfl), by decide +kernel, by decide⟩
theorem MI_Box_lay : MI yX0_lay cX0_lay 13 none 4 := ⟨(tw 384 (by decide +kernel) rfl), (tw 5 (by decide +kernel) rfl), by decide +kernel, by decide⟩
theorem MI_Box_lineEnters : MI yX0_lineEnters cX0_lineEnters 12 (some .boolean) 1 := ⟨(tw 460 (by decide +kernel) rfl), (tw 5 (by decide +kernel) rfl), by decide +kernel, by decide⟩
theorem MI_Box_linesMeet : MI yX0_linesMeet cX0_linesMeet 8 (some .boolean) 1 := ⟨(tw 472 (by decide +kernel) rfl), (tw 5 (by decide +kernel) rfl), by decide +kernel, by decide⟩
theorem MI_Box_overlaps : MI yX0_overlaps cX0_overlaps 5 (some .boolean) 4 := ⟨(tw 456 (by decide +kernel) rfl), (tw 5 (by decide +kernel) rfl), by decide +kernel, by decide⟩
theorem MI_Box_sideOf : MI yX0_sideOf cX0_sideOf 3 (some .int) 2 := ⟨(tw 468 (by decide +kernel) rfl), (tw 5 (by decide +kernel) rfl), by decide +kernel, by decide⟩
theorem MI_Box_start : MI yX0_start cX0_start 4 (some .int) 4 := ⟨(tw 389 (by decide +kernel) rfl), (tw 5 (by decide +kernel) rfl), by decide +kernel, by decide⟩
theorem MI_Chart_addDot : MI yX1_addDot cX1_addDot 3 (some .int) 2 := ⟨(tw 339 (by decide +kernel) rfl), (tw 2 (by decide +kernel) rfl), by decide +kernel, by decide⟩
theorem MI_Chart_addName : MI yX1_addName cX1_addName 4 (some .int) 3 := ⟨(tw 331 (by decide +kernel) rfl), (tw 2 (by decide +kernel) rfl), by decide +kernel, by decide⟩
theorem MI_Chart_areNear : MI yX1_areNear cX1_areNear 3 (some .boolean) 2 := ⟨(tw 425 (by decide +kernel) rfl), (tw 2 (by decide +kernel) rfl), by decide +kernel, by decide⟩
theorem MI_Chart_copyFrom : MI yX1_copyFrom cX1_copyFrom 2 none 1 := ⟨(tw 317 (by decide +kernel) rfl), (tw 2 (by decide +kernel) rfl), by decide +kernel, by decide⟩
theorem MI_Chart_gainOf : MI yX1_gainOf cX1_gainOf 3 (some .int) 2 := ⟨(tw 568 (by decide +kernel) rfl), (tw 2 (by decide +kernel) rfl), by decide +kernel, by decide⟩
theorem MI_Chart_has : MI yX1_has cX1_has 2 (some .boolean) 1 := ⟨(tw 347 (by decide +kernel) rfl), (tw 2 (by decide +kernel) rfl), by decide +kernel, by decide⟩
theorem MI_Chart_hasWay : MI yX1_hasWay cX1_hasWay 3 (some .boolean) 2 := ⟨(tw 498 (by decide +kernel) rfl), (tw 2 (by decide +kernel) rfl), by decide +kernel, by decide⟩
theorem MI_Chart_isOfKind : MI yX1_isOfKind cX1_isOfKind 3 (some .boolean) 2 := ⟨(tw 436 (by decide +kernel) rfl), (tw 2 (by decide +kernel) rfl), by decide +kernel, by decide⟩
theorem MI_Chart_isServedAhead : MI yX1_isServedAhead cX1_isServedAhead 4 (some .boolean) 2 := ⟨(tw 581 (by decide +kernel) rfl), (tw 2 (by decide +kernel) rfl), by decide +kernel, by decide⟩
theorem MI_Chart_priceOf : MI yX1_priceOf cX1_priceOf 3 (some .int) 2 := ⟨(tw 508 (by decide +kernel) rfl), (tw 2 (by decide +kernel) rfl), by decide +kernel, by decide⟩
theorem MI_Chart_queue : MI yX1_queue cX1_queue 4 none 1 := ⟨(tw 577 (by decide +kernel) rfl), (tw 2 (by decide +kernel) rfl), by decide +kernel, by decide⟩
theorem MI_Chart_rankOf : MI yX1_rankOf cX1_rankOf 3 (some .int) 2 := ⟨(tw 596 (by decide +kernel) rfl), (tw 2 (by decide +kernel) rfl), by decide +kernel, by decide⟩
theorem MI_Chart_reachAcross : MI yX1_reachAcross cX1_reachAcross 2 (some .int) 1 := ⟨(tw 432 (by decide +kernel) rfl), (tw 2 (by decide +kernel) rfl), by decide +kernel, by decide⟩
theorem MI_Chart_reachDown : MI yX1_reachDown cX1_reachDown 2 (some .int) 1 := ⟨(tw 440 (by decide +kernel) rfl), (tw 2 (by decide +kernel) rfl), by decide +kernel, by decide⟩
theorem MI_Chart_wayByPrice : MI yX1_wayByPrice cX1_wayByPrice 3 (some .int) 2 := ⟨(tw 609 (by decide +kernel) rfl), (tw 2 (by decide +kernel) rfl), by decide +kernel, by decide⟩
theorem MI_Chart_waysOf : MI yX1_waysOf cX1_waysOf 2 (some .int) 1 := ⟨(tw 363 (by decide +kernel) rfl), (tw 2 (by decide +kernel) rfl), by decide +kernel, by decide⟩
theorem MI_Hist_keep : MI yX2_keep cX2_keep 2 none 1 := ⟨(tw 313 (by decide +kernel) rfl), (tw 3 (by decide +kernel) rfl), by decide +kernel, by decide⟩
theorem MI_Hist_takeBack : MI yX2_takeBack cX2_takeBack 2 none 1 := ⟨(tw 736 (by decide +kernel) rfl), (tw 3 (by decide +kernel) rfl), by decide +kernel, by decide⟩
theorem MI_Integer_bitCount : MI yJ6_bitCount_0f7a4 cJ6_bitCount_0f7a4 1 (some .int) 1 := ⟨(tw 406 (by decide +kernel) rfl), (tw 12 (by decide +kernel) rfl), by decide +kernel, by decide⟩
theorem MI_Integer_numberOfTrailingZeros : MI yJ6_numberOfTrailingZeros_0f7a4 cJ6_numberOfTrailingZeros_0f7a4 2 (some .int) 1 := ⟨(tw 638 (by decide +kernel) rfl), (tw 12 (by decide +kernel) rfl), by decide +kernel, by decide⟩
theorem MI_Lay_boxOf : MI yX3_boxOf cX3_boxOf 3 (some (.object "NameChart$Box")) 2 := ⟨(tw 380 (by decide +kernel) rfl), (tw 4 (by decide +kernel) rfl), by decide +kernel, by decide⟩
theorem MI_Lay_isOpen : MI yX3_isOpen cX3_isOpen 3 (some .boolean) 2 := ⟨(tw 448 (by decide +kernel) rfl), (tw 4 (by decide +kernel) rfl), by decide +kernel, by decide⟩
theorem MI_Lay_openHits : MI yX3_openHits cX3_openHits 7 (some .int) 3 := ⟨(tw 522 (by decide +kernel) rfl), (tw 4 (by decide +kernel) rfl), by decide +kernel, by decide⟩
theorem MI_Lay_openWaysClash : MI yX3_openWaysClash cX3_openWaysClash 5 (some .boolean) 2 := ⟨(tw 444 (by decide +kernel) rfl), (tw 4 (by decide +kernel) rfl), by decide +kernel, by decide⟩
theorem MI_Lay_refresh : MI yX3_refresh cX3_refresh 5 none 1 := ⟨(tw 375 (by decide +kernel) rfl), (tw 4 (by decide +kernel) rfl), by decide +kernel, by decide⟩
theorem MI_Mo_bestOf : MI yX8_bestOf cX8_bestOf 6 (some .boolean) 1 := ⟨(tw 1053 (by decide +kernel) rfl), (tw 9 (by decide +kernel) rfl), by decide +kernel, by decide⟩
theorem MI_Mo_box : MI yX8_box cX8_box 15 none 3 := ⟨(tw 927 (by decide +kernel) rfl), (tw 9 (by decide +kernel) rfl), by decide +kernel, by decide⟩
theorem MI_Mo_clashInHand : MI yX8_clashInHand cX8_clashInHand 4 (some .int) 2 := ⟨(tw 1029 (by decide +kernel) rfl), (tw 9 (by decide +kernel) rfl), by decide +kernel, by decide⟩
theorem MI_Mo_covers : MI yX8_covers cX8_covers 3 (some .boolean) 2 := ⟨(tw 943 (by decide +kernel) rfl), (tw 9 (by decide +kernel) rfl), by decide +kernel, by decide⟩
theorem MI_Mo_crosses : MI yX8_crosses cX8_crosses 4 (some .boolean) 2 := ⟨(tw 976 (by decide +kernel) rfl), (tw 9 (by decide +kernel) rfl), by decide +kernel, by decide⟩
theorem MI_Mo_cut : MI yX8_cut cX8_cut 15 (some .boolean) 4 := ⟨(tw 981 (by decide +kernel) rfl), (tw 9 (by decide +kernel) rfl), by decide +kernel, by decide⟩
theorem MI_Mo_doClash : MI yX8_doClash cX8_doClash 8 (some .boolean) 5 := ⟨(tw 951 (by decide +kernel) rfl), (tw 9 (by decide +kernel) rfl), by decide +kernel, by decide⟩
theorem MI_Mo_findOpen : MI yX8_findOpen cX8_findOpen 3 none 0 := ⟨(tw 997 (by decide +kernel) rfl), (tw 9 (by decide +kernel) rfl), by decide +kernel, by decide⟩
theorem MI_Mo_findOrder : MI yX8_findOrder cX8_findOrder 3 none 0 := ⟨(tw 1069 (by decide +kernel) rfl), (tw 9 (by decide +kernel) rfl), by decide +kernel, by decide⟩
theorem MI_Mo_findParts : MI yX8_findParts cX8_findParts 6 (some .int) 0 := ⟨(tw 993 (by decide +kernel) rfl), (tw 9 (by decide +kernel) rfl), by decide +kernel, by decide⟩
theorem MI_Mo_findSteady : MI yX8_findSteady cX8_findSteady 7 none 0 := ⟨(tw 1089 (by decide +kernel) rfl), (tw 9 (by decide +kernel) rfl), by decide +kernel, by decide⟩
theorem MI_Mo_fits : MI yX8_fits cX8_fits 4 (some .boolean) 2 := ⟨(tw 1061 (by decide +kernel) rfl), (tw 9 (by decide +kernel) rfl), by decide +kernel, by decide⟩
theorem MI_Mo_in : MI yX8_in cX8_in 3 (some .boolean) 3 := ⟨(tw 880 (by decide +kernel) rfl), (tw 9 (by decide +kernel) rfl), by decide +kernel, by decide⟩
theorem MI_Mo_isAhead : MI yX8_isAhead cX8_isAhead 4 (some .boolean) 2 := ⟨(tw 1073 (by decide +kernel) rfl), (tw 9 (by decide +kernel) rfl), by decide +kernel, by decide⟩
theorem MI_Mo_isBetween : MI yX8_isBetween cX8_isBetween 6 (some .boolean) 3 := ⟨(tw 972 (by decide +kernel) rfl), (tw 9 (by decide +kernel) rfl), by decide +kernel, by decide⟩
theorem MI_Mo_isLed : MI yX8_isLed cX8_isLed 3 (some .boolean) 2 := ⟨(tw 931 (by decide +kernel) rfl), (tw 9 (by decide +kernel) rfl), by decide +kernel, by decide⟩
theorem MI_Mo_isName : MI yX8_isName cX8_isName 2 (some .boolean) 1 := ⟨(tw 903 (by decide +kernel) rfl), (tw 9 (by decide +kernel) rfl), by decide +kernel, by decide⟩
theorem MI_Mo_isOn : MI yX8_isOn cX8_isOn 3 (some .boolean) 3 := ⟨(tw 969 (by decide +kernel) rfl), (tw 9 (by decide +kernel) rfl), by decide +kernel, by decide⟩
theorem MI_Mo_isOpen : MI yX8_isOpen cX8_isOpen 6 (some .boolean) 3 := ⟨(tw 939 (by decide +kernel) rfl), (tw 9 (by decide +kernel) rfl), by decide +kernel, by decide⟩
theorem MI_Mo_isPlace : MI yX8_isPlace cX8_isPlace 2 (some .boolean) 2 := ⟨(tw 883 (by decide +kernel) rfl), (tw 9 (by decide +kernel) rfl), by decide +kernel, by decide⟩
theorem MI_Mo_isSteady : MI yX8_isSteady cX8_isSteady 8 (some .boolean) 3 := ⟨(tw 1093 (by decide +kernel) rfl), (tw 9 (by decide +kernel) rfl), by decide +kernel, by decide⟩
theorem MI_Mo_isWay : MI yX8_isWay cX8_isWay 3 (some .boolean) 2 := ⟨(tw 919 (by decide +kernel) rfl), (tw 9 (by decide +kernel) rfl), by decide +kernel, by decide⟩
theorem MI_Mo_keep : MI yX8_keep cX8_keep 1 none 0 := ⟨(tw 887 (by decide +kernel) rfl), (tw 9 (by decide +kernel) rfl), by decide +kernel, by decide⟩
theorem MI_Mo_linesMeet : MI yX8_linesMeet cX8_linesMeet 5 (some .boolean) 0 := ⟨(tw 960 (by decide +kernel) rfl), (tw 9 (by decide +kernel) rfl), by decide +kernel, by decide⟩
theorem MI_Mo_most : MI yX8_most cX8_most 6 (some .int) 0 := ⟨(tw 1049 (by decide +kernel) rfl), (tw 9 (by decide +kernel) rfl), by decide +kernel, by decide⟩
theorem MI_Mo_priceOf : MI yX8_priceOf cX8_priceOf 3 (some .int) 2 := ⟨(tw 935 (by decide +kernel) rfl), (tw 9 (by decide +kernel) rfl), by decide +kernel, by decide⟩
theorem MI_Mo_read : MI yX8_read cX8_read 4 none 2 := ⟨(tw 873 (by decide +kernel) rfl), (tw 9 (by decide +kernel) rfl), by decide +kernel, by decide⟩
theorem MI_Mo_side : MI yX8_side cX8_side 5 (some .int) 5 := ⟨(tw 963 (by decide +kernel) rfl), (tw 9 (by decide +kernel) rfl), by decide +kernel, by decide⟩
theorem MI_Mo_signOf : MI yX8_signOf cX8_signOf 2 (some .int) 1 := ⟨(tw 966 (by decide +kernel) rfl), (tw 9 (by decide +kernel) rfl), by decide +kernel, by decide⟩
theorem MI_Mo_take : MI yX8_take cX8_take 5 none 4 := ⟨(tw 955 (by decide +kernel) rfl), (tw 9 (by decide +kernel) rfl), by decide +kernel, by decide⟩
theorem MI_Mo_touch : MI yX8_touch cX8_touch 5 (some .boolean) 2 := ⟨(tw 1001 (by decide +kernel) rfl), (tw 9 (by decide +kernel) rfl), by decide +kernel, by decide⟩
theorem MI_Mo_tryFrom : MI yX8_tryFrom cX8_tryFrom 5 none 2 := ⟨(tw 1057 (by decide +kernel) rfl), (tw 9 (by decide +kernel) rfl), by decide +kernel, by decide⟩
theorem MI_Mo_ways : MI yX8_ways cX8_ways 2 (some .int) 1 := ⟨(tw 923 (by decide +kernel) rfl), (tw 9 (by decide +kernel) rfl), by decide +kernel, by decide⟩
theorem MI_Mo_worthInHand : MI yX8_worthInHand cX8_worthInHand 3 (some .int) 0 := ⟨(tw 1037 (by decide +kernel) rfl), (tw 9 (by decide +kernel) rfl), by decide +kernel, by decide⟩
theorem MI_Mo_worthOf : MI yX8_worthOf cX8_worthOf 3 (some .int) 2 := ⟨(tw 1041 (by decide +kernel) rfl), (tw 9 (by decide +kernel) rfl), by decide +kernel, by decide⟩
theorem MI_Mo_write : MI yX8_write cX8_write 4 none 2 := ⟨(tw 891 (by decide +kernel) rfl), (tw 9 (by decide +kernel) rfl), by decide +kernel, by decide⟩
theorem MI_NC_cheapestWay : MI yX7_cheapestWay cX7_cheapestWay 5 (some .int) 2 := ⟨(tw 674 (by decide +kernel) rfl), (tw 1 (by decide +kernel) rfl), by decide +kernel, by decide⟩
theorem MI_NC_firstClashing : MI yX7_firstClashing cX7_firstClashing 2 (some .int) 0 := ⟨(tw 551 (by decide +kernel) rfl), (tw 1 (by decide +kernel) rfl), by decide +kernel, by decide⟩
theorem MI_NC_firstHit : MI yX7_firstHit cX7_firstHit 6 (some .int) 3 := ⟨(tw 555 (by decide +kernel) rfl), (tw 1 (by decide +kernel) rfl), by decide +kernel, by decide⟩
theorem MI_NC_firstMissing : MI yX7_firstMissing cX7_firstMissing 2 (some .int) 0 := ⟨(tw 560 (by decide +kernel) rfl), (tw 1 (by decide +kernel) rfl), by decide +kernel, by decide⟩
theorem MI_NC_firstShut : MI yX7_firstShut cX7_firstShut 2 (some .int) 0 := ⟨(tw 546 (by decide +kernel) rfl), (tw 1 (by decide +kernel) rfl), by decide +kernel, by decide⟩
theorem MI_NC_forgetDrawing : MI yX7_forgetDrawing cX7_forgetDrawing 1 none 0 := ⟨(tw 327 (by decide +kernel) rfl), (tw 1 (by decide +kernel) rfl), by decide +kernel, by decide⟩
theorem MI_NC_isKind : MI yX7_isKind cX7_isKind 1 (some .boolean) 1 := ⟨(tw 299 (by decide +kernel) rfl), (tw 1 (by decide +kernel) rfl), by decide +kernel, by decide⟩
theorem MI_NC_isPlace : MI yX7_isPlace cX7_isPlace 2 (some .boolean) 2 := ⟨(tw 305 (by decide +kernel) rfl), (tw 1 (by decide +kernel) rfl), by decide +kernel, by decide⟩
theorem MI_NC_isZoom : MI yX7_isZoom cX7_isZoom 1 (some .boolean) 1 := ⟨(tw 503 (by decide +kernel) rfl), (tw 1 (by decide +kernel) rfl), by decide +kernel, by decide⟩
theorem MI_NC_layOut : MI yX7_layOut cX7_layOut 1 none 0 := ⟨(tw 371 (by decide +kernel) rfl), (tw 1 (by decide +kernel) rfl), by decide +kernel, by decide⟩
theorem MI_NC_leftInHand : MI yX7_leftInHand cX7_leftInHand 3 (some .int) 0 := ⟨(tw 679 (by decide +kernel) rfl), (tw 1 (by decide +kernel) rfl), by decide +kernel, by decide⟩
theorem MI_NC_musts : MI yX7_musts cX7_musts 3 (some .int) 0 := ⟨(tw 744 (by decide +kernel) rfl), (tw 1 (by decide +kernel) rfl), by decide +kernel, by decide⟩
theorem MI_NC_openWays : MI yX7_openWays cX7_openWays 2 (some .int) 1 := ⟨(tw 367 (by decide +kernel) rfl), (tw 1 (by decide +kernel) rfl), by decide +kernel, by decide⟩
theorem MI_NC_redraw : MI yX7_redraw cX7_redraw 1 none 0 := ⟨(tw 309 (by decide +kernel) rfl), (tw 1 (by decide +kernel) rfl), by decide +kernel, by decide⟩
theorem MI_NC_splitUp : MI yX7_splitUp cX7_splitUp 1 none 0 := ⟨(tw 413 (by decide +kernel) rfl), (tw 1 (by decide +kernel) rfl), by decide +kernel, by decide⟩
theorem MI_NC_takeInHand : MI yX7_takeInHand cX7_takeInHand 1 none 0 := ⟨(tw 662 (by decide +kernel) rfl), (tw 1 (by decide +kernel) rfl), by decide +kernel, by decide⟩
theorem MI_NC_within : MI yX7_within cX7_within 3 (some .boolean) 3 := ⟨(tw 302 (by decide +kernel) rfl), (tw 1 (by decide +kernel) rfl), by decide +kernel, by decide⟩
theorem MI_NC_yes : MI yX7_yes cX7_yes 1 (some .int) 1 := ⟨(tw 490 (by decide +kernel) rfl), (tw 1 (by decide +kernel) rfl), by decide +kernel, by decide⟩
theorem MI_Parts_giveNumbers : MI yX4_giveNumbers cX4_giveNumbers 3 none 1 := ⟨(tw 482 (by decide +kernel) rfl), (tw 6 (by decide +kernel) rfl), by decide +kernel, by decide⟩
theorem MI_Parts_join : MI yX4_join cX4_join 5 none 3 := ⟨(tw 478 (by decide +kernel) rfl), (tw 6 (by decide +kernel) rfl), by decide +kernel, by decide⟩
theorem MI_Parts_joinBack : MI yX4_joinBack cX4_joinBack 5 none 3 := ⟨(tw 421 (by decide +kernel) rfl), (tw 6 (by decide +kernel) rfl), by decide +kernel, by decide⟩
theorem MI_Parts_refresh : MI yX4_refresh cX4_refresh 4 none 2 := ⟨(tw 417 (by decide +kernel) rfl), (tw 6 (by decide +kernel) rfl), by decide +kernel, by decide⟩
theorem MI_Plan_fits : MI yX5_fits cX5_fits 6 (some .boolean) 4 := ⟨(tw 706 (by decide +kernel) rfl), (tw 8 (by decide +kernel) rfl), by decide +kernel, by decide⟩
theorem MI_Plan_isThere : MI yX5_isThere cX5_isThere 3 (some .boolean) 2 := ⟨(tw 712 (by decide +kernel) rfl), (tw 8 (by decide +kernel) rfl), by decide +kernel, by decide⟩
theorem MI_Plan_refresh : MI yX5_refresh cX5_refresh 3 none 1 := ⟨(tw 695 (by decide +kernel) rfl), (tw 8 (by decide +kernel) rfl), by decide +kernel, by decide⟩
theorem MI_Plan_settle : MI yX5_settle cX5_settle 7 none 2 := ⟨(tw 701 (by decide +kernel) rfl), (tw 8 (by decide +kernel) rfl), by decide +kernel, by decide⟩
theorem MI_Search_bitsOf : MI yX6_bitsOf cX6_bitsOf 7 (some .int) 3 := ⟨(tw 635 (by decide +kernel) rfl), (tw 7 (by decide +kernel) rfl), by decide +kernel, by decide⟩
theorem MI_Search_byRank : MI yX6_byRank cX6_byRank 5 (some .int) 3 := ⟨(tw 592 (by decide +kernel) rfl), (tw 7 (by decide +kernel) rfl), by decide +kernel, by decide⟩
theorem MI_Search_descend : MI yX6_descend cX6_descend 10 none 4 := ⟨(tw 627 (by decide +kernel) rfl), (tw 7 (by decide +kernel) rfl), by decide +kernel, by decide⟩
theorem MI_Search_firstReaching : MI yX6_firstReaching cX6_firstReaching 7 (some .int) 3 := ⟨(tw 654 (by decide +kernel) rfl), (tw 7 (by decide +kernel) rfl), by decide +kernel, by decide⟩
theorem MI_Search_fixIfReaching : MI yX6_fixIfReaching cX6_fixIfReaching 9 (some .boolean) 3 := ⟨(tw 658 (by decide +kernel) rfl), (tw 7 (by decide +kernel) rfl), by decide +kernel, by decide⟩
theorem MI_Search_gatherBans : MI yX6_gatherBans cX6_gatherBans 8 none 5 := ⟨(tw 616 (by decide +kernel) rfl), (tw 7 (by decide +kernel) rfl), by decide +kernel, by decide⟩
theorem MI_Search_gatherOptions : MI yX6_gatherOptions cX6_gatherOptions 9 none 3 := ⟨(tw 589 (by decide +kernel) rfl), (tw 7 (by decide +kernel) rfl), by decide +kernel, by decide⟩
theorem MI_Search_hope : MI yX6_hope cX6_hope 9 (some .int) 3 := ⟨(tw 632 (by decide +kernel) rfl), (tw 7 (by decide +kernel) rfl), by decide +kernel, by decide⟩
theorem MI_Search_inBack : MI yX6_inBack cX6_inBack 2 (some .long) 2 := ⟨(tw 604 (by decide +kernel) rfl), (tw 7 (by decide +kernel) rfl), by decide +kernel, by decide⟩
theorem MI_Search_inFront : MI yX6_inFront cX6_inFront 2 (some .long) 2 := ⟨(tw 601 (by decide +kernel) rfl), (tw 7 (by decide +kernel) rfl), by decide +kernel, by decide⟩
theorem MI_Search_isBeaten : MI yX6_isBeaten cX6_isBeaten 11 (some .boolean) 5 := ⟨(tw 645 (by decide +kernel) rfl), (tw 7 (by decide +kernel) rfl), by decide +kernel, by decide⟩
theorem MI_Search_mostWorth : MI yX6_mostWorth cX6_mostWorth 1 (some .int) 0 := ⟨(tw 622 (by decide +kernel) rfl), (tw 7 (by decide +kernel) rfl), by decide +kernel, by decide⟩
theorem MI_Search_pickFirst : MI yX6_pickFirst cX6_pickFirst 6 none 3 := ⟨(tw 650 (by decide +kernel) rfl), (tw 7 (by decide +kernel) rfl), by decide +kernel, by decide⟩
theorem MI_Search_seat : MI yX6_seat cX6_seat 8 none 5 := ⟨(tw 585 (by decide +kernel) rfl), (tw 7 (by decide +kernel) rfl), by decide +kernel, by decide⟩
theorem MS_Arrays_fill : Cond.static yJ7_fill_53178 ∈ gt := (tw 669 (by decide +kernel) rfl)
theorem MS_Box_start : Cond.static yX0_start ∈ gt := (tw 388 (by decide +kernel) rfl)
theorem MS_Integer_bitCount : Cond.static yJ6_bitCount_0f7a4 ∈ gt := (tw 405 (by decide +kernel) rfl)
theorem MS_Integer_numberOfTrailingZeros : Cond.static yJ6_numberOfTrailingZeros_0f7a4 ∈ gt := (tw 637 (by decide +kernel) rfl)
theorem MS_Mo_in : Cond.static yX8_in ∈ gt := (tw 879 (by decide +kernel) rfl)
theorem MS_Mo_isBetween : Cond.static yX8_isBetween ∈ gt := (tw 971 (by decide +kernel) rfl)
theorem MS_Mo_isOn : Cond.static yX8_isOn ∈ gt := (tw 968 (by decide +kernel) rfl)
theorem MS_Mo_isPlace : Cond.static yX8_isPlace ∈ gt := (tw 882 (by decide +kernel) rfl)
theorem MS_Mo_side : Cond.static yX8_side ∈ gt := (tw 962 (by decide +kernel) rfl)
theorem MS_Mo_signOf : Cond.static yX8_signOf ∈ gt := (tw 965 (by decide +kernel) rfl)
theorem MS_NC_isKind : Cond.static yX7_isKind ∈ gt := (tw 298 (by decide +kernel) rfl)
theorem MS_NC_isPlace : Cond.static yX7_isPlace ∈ gt := (tw 304 (by decide +kernel) rfl)
theorem MS_NC_isZoom : Cond.static yX7_isZoom ∈ gt := (tw 502 (by decide +kernel) rfl)
theorem MS_NC_within : Cond.static yX7_within ∈ gt := (tw 301 (by decide +kernel) rfl)
theorem MS_NC_yes : Cond.static yX7_yes ∈ gt := (tw 489 (by decide +kernel) rfl)
theorem MS_Search_bitsOf : Cond.static yX6_bitsOf ∈ gt := (tw 634 (by decide +kernel) rfl)
theorem MS_Search_byRank : Cond.static yX6_byRank ∈ gt := (tw 591 (by decide +kernel) rfl)
theorem MS_Search_inBack : Cond.static yX6_inBack ∈ gt := (tw 603 (by decide +kernel) rfl)
theorem MS_Search_inFront : Cond.static yX6_inFront ∈ gt := (tw 600 (by decide +kernel) rfl)
theorem MV_Box_covers : MV yX0_covers 0 := ⟨(tw 401 (by decide +kernel) rfl), (tw 402 (by decide +kernel) rfl), _, _, rfl⟩
theorem MV_Box_coversAny : MV yX0_coversAny 0 := ⟨(tw 398 (by decide +kernel) rfl), (tp 4 (by decide +kernel)), _, _, rfl⟩
theorem MV_Box_hits : MV yX0_hits 0 := ⟨(tw 450 (by decide +kernel) rfl), (tw 451 (by decide +kernel) rfl), _, _, rfl⟩
theorem MV_Box_isOpen : MV yX0_isOpen 0 := ⟨(tw 393 (by decide +kernel) rfl), (tw 394 (by decide +kernel) rfl), _, _, rfl⟩
theorem MV_Box_lay : MV yX0_lay 0 := ⟨(tw 382 (by decide +kernel) rfl), (tw 383 (by decide +kernel) rfl), _, _, rfl⟩
theorem MV_Box_lineEnters : MV yX0_lineEnters 0 := ⟨(tw 459 (by decide +kernel) rfl), (tp 9 (by decide +kernel)), _, _, rfl⟩
theorem MV_Box_linesMeet : MV yX0_linesMeet 0 := ⟨(tw 471 (by decide +kernel) rfl), (tp 11 (by decide +kernel)), _, _, rfl⟩
theorem MV_Box_overlaps : MV yX0_overlaps 0 := ⟨(tw 454 (by decide +kernel) rfl), (tw 455 (by decide +kernel) rfl), _, _, rfl⟩
theorem MV_Box_sideOf : MV yX0_sideOf 0 := ⟨(tw 467 (by decide +kernel) rfl), (tp 10 (by decide +kernel)), _, _, rfl⟩
theorem MV_Chart_addDot : MV yX1_addDot 1 := ⟨(tw 337 (by decide +kernel) rfl), (tw 338 (by decide +kernel) rfl), _, _, rfl⟩
theorem MV_Chart_addName : MV yX1_addName 1 := ⟨(tw 329 (by decide +kernel) rfl), (tw 330 (by decide +kernel) rfl), _, _, rfl⟩
theorem MV_Chart_areNear : MV yX1_areNear 1 := ⟨(tw 423 (by decide +kernel) rfl), (tw 424 (by decide +kernel) rfl), _, _, rfl⟩
theorem MV_Chart_copyFrom : MV yX1_copyFrom 1 := ⟨(tw 315 (by decide +kernel) rfl), (tw 316 (by decide +kernel) rfl), _, _, rfl⟩
theorem MV_Chart_gainOf : MV yX1_gainOf 1 := ⟨(tw 566 (by decide +kernel) rfl), (tw 567 (by decide +kernel) rfl), _, _, rfl⟩
theorem MV_Chart_has : MV yX1_has 1 := ⟨(tw 345 (by decide +kernel) rfl), (tw 346 (by decide +kernel) rfl), _, _, rfl⟩
theorem MV_Chart_hasWay : MV yX1_hasWay 1 := ⟨(tw 496 (by decide +kernel) rfl), (tw 497 (by decide +kernel) rfl), _, _, rfl⟩
theorem MV_Chart_isOfKind : MV yX1_isOfKind 1 := ⟨(tw 434 (by decide +kernel) rfl), (tw 435 (by decide +kernel) rfl), _, _, rfl⟩
theorem MV_Chart_isServedAhead : MV yX1_isServedAhead 1 := ⟨(tw 580 (by decide +kernel) rfl), (tp 18 (by decide +kernel)), _, _, rfl⟩
theorem MV_Chart_priceOf : MV yX1_priceOf 1 := ⟨(tw 506 (by decide +kernel) rfl), (tw 507 (by decide +kernel) rfl), _, _, rfl⟩
theorem MV_Chart_queue : MV yX1_queue 1 := ⟨(tw 575 (by decide +kernel) rfl), (tw 576 (by decide +kernel) rfl), _, _, rfl⟩
theorem MV_Chart_rankOf : MV yX1_rankOf 1 := ⟨(tw 594 (by decide +kernel) rfl), (tw 595 (by decide +kernel) rfl), _, _, rfl⟩
theorem MV_Chart_reachAcross : MV yX1_reachAcross 1 := ⟨(tw 431 (by decide +kernel) rfl), (tp 7 (by decide +kernel)), _, _, rfl⟩
theorem MV_Chart_reachDown : MV yX1_reachDown 1 := ⟨(tw 439 (by decide +kernel) rfl), (tp 8 (by decide +kernel)), _, _, rfl⟩
theorem MV_Chart_wayByPrice : MV yX1_wayByPrice 1 := ⟨(tw 607 (by decide +kernel) rfl), (tw 608 (by decide +kernel) rfl), _, _, rfl⟩
theorem MV_Chart_waysOf : MV yX1_waysOf 1 := ⟨(tw 361 (by decide +kernel) rfl), (tw 362 (by decide +kernel) rfl), _, _, rfl⟩
theorem MV_Hist_keep : MV yX2_keep 2 := ⟨(tw 311 (by decide +kernel) rfl), (tw 312 (by decide +kernel) rfl), _, _, rfl⟩
theorem MV_Hist_takeBack : MV yX2_takeBack 2 := ⟨(tw 734 (by decide +kernel) rfl), (tw 735 (by decide +kernel) rfl), _, _, rfl⟩
theorem MV_Lay_boxOf : MV yX3_boxOf 3 := ⟨(tw 378 (by decide +kernel) rfl), (tw 379 (by decide +kernel) rfl), _, _, rfl⟩
theorem MV_Lay_isOpen : MV yX3_isOpen 3 := ⟨(tw 446 (by decide +kernel) rfl), (tw 447 (by decide +kernel) rfl), _, _, rfl⟩
theorem MV_Lay_openHits : MV yX3_openHits 3 := ⟨(tw 520 (by decide +kernel) rfl), (tw 521 (by decide +kernel) rfl), _, _, rfl⟩
theorem MV_Lay_openWaysClash : MV yX3_openWaysClash 3 := ⟨(tw 442 (by decide +kernel) rfl), (tw 443 (by decide +kernel) rfl), _, _, rfl⟩
theorem MV_Lay_refresh : MV yX3_refresh 3 := ⟨(tw 373 (by decide +kernel) rfl), (tw 374 (by decide +kernel) rfl), _, _, rfl⟩
theorem MV_Mo_bestOf : MV yX8_bestOf 8 := ⟨(tw 1052 (by decide +kernel) rfl), (tp 55 (by decide +kernel)), _, _, rfl⟩
theorem MV_Mo_box : MV yX8_box 8 := ⟨(tw 926 (by decide +kernel) rfl), (tp 38 (by decide +kernel)), _, _, rfl⟩
theorem MV_Mo_clashInHand : MV yX8_clashInHand 8 := ⟨(tw 1028 (by decide +kernel) rfl), (tp 51 (by decide +kernel)), _, _, rfl⟩
theorem MV_Mo_covers : MV yX8_covers 8 := ⟨(tw 942 (by decide +kernel) rfl), (tp 42 (by decide +kernel)), _, _, rfl⟩
theorem MV_Mo_crosses : MV yX8_crosses 8 := ⟨(tw 975 (by decide +kernel) rfl), (tp 46 (by decide +kernel)), _, _, rfl⟩
theorem MV_Mo_cut : MV yX8_cut 8 := ⟨(tw 980 (by decide +kernel) rfl), (tp 47 (by decide +kernel)), _, _, rfl⟩
theorem MV_Mo_doClash : MV yX8_doClash 8 := ⟨(tw 950 (by decide +kernel) rfl), (tp 43 (by decide +kernel)), _, _, rfl⟩
theorem MV_Mo_findOpen : MV yX8_findOpen 8 := ⟨(tw 996 (by decide +kernel) rfl), (tp 49 (by decide +kernel)), _, _, rfl⟩
theorem MV_Mo_findOrder : MV yX8_findOrder 8 := ⟨(tw 1068 (by decide +kernel) rfl), (tp 58 (by decide +kernel)), _, _, rfl⟩
theorem MV_Mo_findParts : MV yX8_findParts 8 := ⟨(tw 992 (by decide +kernel) rfl), (tp 48 (by decide +kernel)), _, _, rfl⟩
theorem MV_Mo_findSteady : MV yX8_findSteady 8 := ⟨(tw 1088 (by decide +kernel) rfl), (tp 60 (by decide +kernel)), _, _, rfl⟩
theorem MV_Mo_fits : MV yX8_fits 8 := ⟨(tw 1060 (by decide +kernel) rfl), (tp 57 (by decide +kernel)), _, _, rfl⟩
theorem MV_Mo_isAhead : MV yX8_isAhead 8 := ⟨(tw 1072 (by decide +kernel) rfl), (tp 59 (by decide +kernel)), _, _, rfl⟩
theorem MV_Mo_isLed : MV yX8_isLed 8 := ⟨(tw 930 (by decide +kernel) rfl), (tp 39 (by decide +kernel)), _, _, rfl⟩
theorem MV_Mo_isName : MV yX8_isName 8 := ⟨(tw 902 (by decide +kernel) rfl), (tp 35 (by decide +kernel)), _, _, rfl⟩
theorem MV_Mo_isOpen : MV yX8_isOpen 8 := ⟨(tw 938 (by decide +kernel) rfl), (tp 41 (by decide +kernel)), _, _, rfl⟩
theorem MV_Mo_isSteady : MV yX8_isSteady 8 := ⟨(tw 1092 (by decide +kernel) rfl), (tp 61 (by decide +kernel)), _, _, rfl⟩
theorem MV_Mo_isWay : MV yX8_isWay 8 := ⟨(tw 918 (by decide +kernel) rfl), (tp 36 (by decide +kernel)), _, _, rfl⟩
theorem MV_Mo_keep : MV yX8_keep 8 := ⟨(tw 886 (by decide +kernel) rfl), (tp 33 (by decide +kernel)), _, _, rfl⟩
theorem MV_Mo_linesMeet : MV yX8_linesMeet 8 := ⟨(tw 959 (by decide +kernel) rfl), (tp 45 (by decide +kernel)), _, _, rfl⟩
theorem MV_Mo_most : MV yX8_most 8 := ⟨(tw 1048 (by decide +kernel) rfl), (tp 54 (by decide +kernel)), _, _, rfl⟩
theorem MV_Mo_priceOf : MV yX8_priceOf 8 := ⟨(tw 934 (by decide +kernel) rfl), (tp 40 (by decide +kernel)), _, _, rfl⟩
theorem MV_Mo_read : MV yX8_read 8 := ⟨(tw 872 (by decide +kernel) rfl), (tp 32 (by decide +kernel)), _, _, rfl⟩
theorem MV_Mo_take : MV yX8_take 8 := ⟨(tw 954 (by decide +kernel) rfl), (tp 44 (by decide +kernel)), _, _, rfl⟩
theorem MV_Mo_touch : MV yX8_touch 8 := ⟨(tw 1000 (by decide +kernel) rfl), (tp 50 (by decide +kernel)), _, _, rfl⟩
theorem MV_Mo_tryFrom : MV yX8_tryFrom 8 := ⟨(tw 1056 (by decide +kernel) rfl), (tp 56 (by decide +kernel)), _, _, rfl⟩
theorem MV_Mo_ways : MV yX8_ways 8 := ⟨(tw 922 (by decide +kernel) rfl), (tp 37 (by decide +kernel)), _, _, rfl⟩
theorem MV_Mo_worthInHand : MV yX8_worthInHand 8 := ⟨(tw 1036 (by decide +kernel) rfl), (tp 52 (by decide +kernel)), _, _, rfl⟩
theorem MV_Mo_worthOf : MV yX8_worthOf 8 := ⟨(tw 1040 (by decide +kernel) rfl), (tp 53 (by decide +kernel)), _, _, rfl⟩
theorem MV_Mo_write : MV yX8_write 8 := ⟨(tw 890 (by decide +kernel) rfl), (tp 34 (by decide +kernel)), _, _, rfl⟩
theorem MV_NC_cheapestWay : MV yX7_cheapestWay 7 := ⟨(tw 673 (by decide +kernel) rfl), (tp 27 (by decide +kernel)), _, _, rfl⟩
theorem MV_NC_firstClashing : MV yX7_firstClashing 7 := ⟨(tw 550 (by decide +kernel) rfl), (tp 15 (by decide +kernel)), _, _, rfl⟩
theorem MV_NC_firstHit : MV yX7_firstHit 7 := ⟨(tw 554 (by decide +kernel) rfl), (tp 16 (by decide +kernel)), _, _, rfl⟩
theorem MV_NC_firstMissing : MV yX7_firstMissing 7 := ⟨(tw 559 (by decide +kernel) rfl), (tp 17 (by decide +kernel)), _, _, rfl⟩
theorem MV_NC_firstShut : MV yX7_firstShut 7 := ⟨(tw 545 (by decide +kernel) rfl), (tp 14 (by decide +kernel)), _, _, rfl⟩
theorem MV_NC_forgetDrawing : MV yX7_forgetDrawing 7 := ⟨(tw 326 (by decide +kernel) rfl), (tp 1 (by decide +kernel)), _, _, rfl⟩
theorem MV_NC_layOut : MV yX7_layOut 7 := ⟨(tw 370 (by decide +kernel) rfl), (tp 3 (by decide +kernel)), _, _, rfl⟩
theorem MV_NC_leftInHand : MV yX7_leftInHand 7 := ⟨(tw 678 (by decide +kernel) rfl), (tp 28 (by decide +kernel)), _, _, rfl⟩
theorem MV_NC_musts : MV yX7_musts 7 := ⟨(tw 743 (by decide +kernel) rfl), (tp 31 (by decide +kernel)), _, _, rfl⟩
theorem MV_NC_openWays : MV yX7_openWays 7 := ⟨(tw 366 (by decide +kernel) rfl), (tp 2 (by decide +kernel)), _, _, rfl⟩
theorem MV_NC_redraw : MV yX7_redraw 7 := ⟨(tw 308 (by decide +kernel) rfl), (tp 0 (by decide +kernel)), _, _, rfl⟩
theorem MV_NC_splitUp : MV yX7_splitUp 7 := ⟨(tw 412 (by decide +kernel) rfl), (tp 5 (by decide +kernel)), _, _, rfl⟩
theorem MV_NC_takeInHand : MV yX7_takeInHand 7 := ⟨(tw 661 (by decide +kernel) rfl), (tp 26 (by decide +kernel)), _, _, rfl⟩
theorem MV_Parts_giveNumbers : MV yX4_giveNumbers 4 := ⟨(tw 481 (by decide +kernel) rfl), (tp 13 (by decide +kernel)), _, _, rfl⟩
theorem MV_Parts_join : MV yX4_join 4 := ⟨(tw 477 (by decide +kernel) rfl), (tp 12 (by decide +kernel)), _, _, rfl⟩
theorem MV_Parts_joinBack : MV yX4_joinBack 4 := ⟨(tw 420 (by decide +kernel) rfl), (tp 6 (by decide +kernel)), _, _, rfl⟩
theorem MV_Parts_refresh : MV yX4_refresh 4 := ⟨(tw 415 (by decide +kernel) rfl), (tw 416 (by decide +kernel) rfl), _, _, rfl⟩
theorem MV_Plan_fits : MV yX5_fits 5 := ⟨(tw 705 (by decide +kernel) rfl), (tp 30 (by decide +kernel)), _, _, rfl⟩
theorem MV_Plan_isThere : MV yX5_isThere 5 := ⟨(tw 710 (by decide +kernel) rfl), (tw 711 (by decide +kernel) rfl), _, _, rfl⟩
theorem MV_Plan_refresh : MV yX5_refresh 5 := ⟨(tw 693 (by decide +kernel) rfl), (tw 694 (by decide +kernel) rfl), _, _, rfl⟩
theorem MV_Plan_settle : MV yX5_settle 5 := ⟨(tw 700 (by decide +kernel) rfl), (tp 29 (by decide +kernel)), _, _, rfl⟩
theorem MV_Search_descend : MV yX6_descend 6 := ⟨(tw 626 (by decide +kernel) rfl), (tp 21 (by decide +kernel)), _, _, rfl⟩
theorem MV_Search_firstReaching : MV yX6_firstReaching 6 := ⟨(tw 653 (by decide +kernel) rfl), (tp 24 (by decide +kernel)), _, _, rfl⟩
theorem MV_Search_fixIfReaching : MV yX6_fixIfReaching 6 := ⟨(tw 657 (by decide +kernel) rfl), (tp 25 (by decide +kernel)), _, _, rfl⟩
theorem MV_Search_gatherBans : MV yX6_gatherBans 6 := ⟨(tw 615 (by decide +kernel) rfl), (tp 20 (by decide +kernel)), _, _, rfl⟩
theorem MV_Search_gatherOptions : MV yX6_gatherOptions 6 := ⟨(tw 588 (by decide +kernel) rfl), (tp 19 (by decide +kernel)), _, _, rfl⟩
theorem MV_Search_hope : MV yX6_hope 6 := ⟨(tw 631 (by decide +kernel) rfl), (tp 22 (by decide +kernel)), _, _, rfl⟩
theorem MV_Search_isBeaten : MV yX6_isBeaten 6 := ⟨(tw 644 (by decide +kernel) rfl), (tp 23 (by decide +kernel)), _, _, rfl⟩
theorem MV_Search_mostWorth : MV yX6_mostWorth 6 := ⟨(tw 620 (by decide +kernel) rfl), (tw 621 (by decide +kernel) rfl), _, _, rfl⟩
theorem MV_Search_pickFirst : MV yX6_pickFirst 6 := ⟨(tw 648 (by decide +kernel) rfl), (tw 649 (by decide +kernel) rfl), _, _, rfl⟩
theorem MV_Search_seat : MV yX6_seat 6 := ⟨(tw 583 (by decide +kernel) rfl), (tw 584 (by decide +kernel) rfl), _, _, rfl⟩
theorem bp_100 : (Int8.ofInt (100)).toInt32 = (100 : Int32) := by decide
theorem bp_16 : (Int8.ofInt (16)).toInt32 = (16 : Int32) := by decide
theorem bp_17 : (Int8.ofInt (17)).toInt32 = (17 : Int32) := by decide
theorem bp_20 : (Int8.ofInt (20)).toInt32 = (20 : Int32) := by decide
theorem bp_24 : (Int8.ofInt (24)).toInt32 = (24 : Int32) := by decide
theorem bp_32 : (Int8.ofInt (32)).toInt32 = (32 : Int32) := by decide
theorem bp_40 : (Int8.ofInt (40)).toInt32 = (40 : Int32) := by decide
theorem bp_50 : (Int8.ofInt (50)).toInt32 = (50 : Int32) := by decide
theorem bp_6 : (Int8.ofInt (6)).toInt32 = (6 : Int32) := by decide
theorem bp_63 : (Int8.ofInt (63)).toInt32 = (63 : Int32) := by decide
theorem bp_7 : (Int8.ofInt (7)).toInt32 = (7 : Int32) := by decide
theorem bp_8 : (Int8.ofInt (8)).toInt32 = (8 : Int32) := by decide
theorem bp_80 : (Int8.ofInt (80)).toInt32 = (80 : Int32) := by decide
theorem bp_m3 : (Int8.ofInt (-3)).toInt32 = (-3 : Int32) := by decide
theorem bp_m4 : (Int8.ofInt (-4)).toInt32 = (-4 : Int32) := by decide
theorem bp_m5 : (Int8.ofInt (-5)).toInt32 = (-5 : Int32) := by decide
theorem bp_m6 : (Int8.ofInt (-6)).toInt32 = (-6 : Int32) := by decide
theorem cnJ6_264 : Cond.constant RJ6 264 (65536 : Int32) ∈ gt := (tw 639 (by decide +kernel) rfl)
theorem cnJ6_265 : Cond.constant RJ6 265 (1431655765 : Int32) ∈ gt := (tw 407 (by decide +kernel) rfl)
theorem cnJ6_266 : Cond.constant RJ6 266 (858993459 : Int32) ∈ gt := (tw 408 (by decide +kernel) rfl)
theorem cnJ6_267 : Cond.constant RJ6 267 (252645135 : Int32) ∈ gt := (tw 409 (by decide +kernel) rfl)
theorem cnX6_128 : Cond.constant RX6 128 (65536 : Int32) ∈ gt := (tw 641 (by decide +kernel) rfl)
theorem cnX6_139 : Cond.constant RX6 139 (-1000000000 : Int32) ∈ gt := (tw 640 (by decide +kernel) rfl)
theorem cnX6_60 : Cond.constant RX6 60 (1000000000 : Int32) ∈ gt := (tw 623 (by decide +kernel) rfl)
theorem cnX6_84 : Cond.constant RX6 84 (65535 : Int32) ∈ gt := (tw 605 (by decide +kernel) rfl)
theorem cnX6_89 : Cond.constantLong RX6 89 (-1 : Int64) ∈ gt := (tw 646 (by decide +kernel) rfl)
theorem cnX8_141 : Cond.constantLong RX8 141 (2 : Int64) ∈ gt := (tw 956 (by decide +kernel) rfl)
theorem cnX8_172 : Cond.constantLong RX8 172 (-1 : Int64) ∈ gt := (tw 977 (by decide +kernel) rfl)
theorem fp0_15 : FP RX0 15 0 4 1 .boolean false := ⟨_, _, _, _, KC0, by decide, rfl, rfl, rfl, (tw 127 (by decide +kernel) rfl)⟩
theorem fp0_21 : FP RX0 21 1 5 3 (.array .int) true := ⟨_, _, _, _, KC1, by decide, rfl, rfl, rfl, (tw 49 (by decide +kernel) rfl)⟩
theorem fp0_24 : FP RX0 24 1 6 3 (.array .int) true := ⟨_, _, _, _, KC1, by decide, rfl, rfl, rfl, (tw 52 (by decide +kernel) rfl)⟩
theorem fp0_27 : FP RX0 27 1 3 3 (.array .int) true := ⟨_, _, _, _, KC1, by decide, rfl, rfl, rfl, (tw 43 (by decide +kernel) rfl)⟩
theorem fp0_30 : FP RX0 30 1 4 3 (.array .int) true := ⟨_, _, _, _, KC1, by decide, rfl, rfl, rfl, (tw 46 (by decide +kernel) rfl)⟩
theorem fp0_40 : FP RX0 40 0 0 0 .int false := ⟨_, _, _, _, KC0, by decide, rfl, rfl, rfl, (tw 119 (by decide +kernel) rfl)⟩
theorem fp0_47 : FP RX0 47 0 1 0 .int false := ⟨_, _, _, _, KC0, by decide, rfl, rfl, rfl, (tw 121 (by decide +kernel) rfl)⟩
theorem fp0_50 : FP RX0 50 0 2 0 .int false := ⟨_, _, _, _, KC0, by decide, rfl, rfl, rfl, (tw 123 (by decide +kernel) rfl)⟩
theorem fp0_53 : FP RX0 53 0 3 0 .int false := ⟨_, _, _, _, KC0, by decide, rfl, rfl, rfl, (tw 125 (by decide +kernel) rfl)⟩
theorem fp0_56 : FP RX0 56 0 5 0 .int false := ⟨_, _, _, _, KC0, by decide, rfl, rfl, rfl, (tw 128 (by decide +kernel) rfl)⟩
theorem fp0_59 : FP RX0 59 0 6 0 .int false := ⟨_, _, _, _, KC0, by decide, rfl, rfl, rfl, (tw 129 (by decide +kernel) rfl)⟩
theorem fp0_62 : FP RX0 62 0 7 0 .int false := ⟨_, _, _, _, KC0, by decide, rfl, rfl, rfl, (tw 130 (by decide +kernel) rfl)⟩
theorem fp0_65 : FP RX0 65 0 8 0 .int false := ⟨_, _, _, _, KC0, by decide, rfl, rfl, rfl, (tw 131 (by decide +kernel) rfl)⟩
theorem fp0_68 : FP RX0 68 1 9 3 (.array .int) true := ⟨_, _, _, _, KC1, by decide, rfl, rfl, rfl, (tw 59 (by decide +kernel) rfl)⟩
theorem fp0_71 : FP RX0 71 1 10 3 (.array .int) true := ⟨_, _, _, _, KC1, by decide, rfl, rfl, rfl, (tw 61 (by decide +kernel) rfl)⟩
theorem fp0_74 : FP RX0 74 1 1 0 .int false := ⟨_, _, _, _, KC1, by decide, rfl, rfl, rfl, (tw 37 (by decide +kernel) rfl)⟩
theorem fp0_81 : FP RX0 81 1 0 0 .int false := ⟨_, _, _, _, KC1, by decide, rfl, rfl, rfl, (tw 34 (by decide +kernel) rfl)⟩
theorem fp0_9 : FP RX0 9 1 2 3 (.array .int) true := ⟨_, _, _, _, KC1, by decide, rfl, rfl, rfl, (tw 39 (by decide +kernel) rfl)⟩
theorem fp1_15 : FP RX1 15 1 3 3 (.array .int) true := ⟨_, _, _, _, KC1, by decide, rfl, rfl, rfl, (tw 42 (by decide +kernel) rfl)⟩
theorem fp1_18 : FP RX1 18 1 4 3 (.array .int) true := ⟨_, _, _, _, KC1, by decide, rfl, rfl, rfl, (tw 45 (by decide +kernel) rfl)⟩
theorem fp1_21 : FP RX1 21 1 5 3 (.array .int) true := ⟨_, _, _, _, KC1, by decide, rfl, rfl, rfl, (tw 48 (by decide +kernel) rfl)⟩
theorem fp1_24 : FP RX1 24 1 6 3 (.array .int) true := ⟨_, _, _, _, KC1, by decide, rfl, rfl, rfl, (tw 51 (by decide +kernel) rfl)⟩
theorem fp1_27 : FP RX1 27 1 7 3 (.array .int) true := ⟨_, _, _, _, KC1, by decide, rfl, rfl, rfl, (tw 54 (by decide +kernel) rfl)⟩
theorem fp1_30 : FP RX1 30 1 8 3 (.array .int) true := ⟨_, _, _, _, KC1, by decide, rfl, rfl, rfl, (tw 56 (by decide +kernel) rfl)⟩
theorem fp1_33 : FP RX1 33 1 9 3 (.array .int) true := ⟨_, _, _, _, KC1, by decide, rfl, rfl, rfl, (tw 58 (by decide +kernel) rfl)⟩
theorem fp1_36 : FP RX1 36 1 10 3 (.array .int) true := ⟨_, _, _, _, KC1, by decide, rfl, rfl, rfl, (tw 60 (by decide +kernel) rfl)⟩
theorem fp1_39 : FP RX1 39 1 0 0 .int false := ⟨_, _, _, _, KC1, by decide, rfl, rfl, rfl, (tw 28 (by decide +kernel) rfl)⟩
theorem fp1_43 : FP RX1 43 1 1 0 .int false := ⟨_, _, _, _, KC1, by decide, rfl, rfl, rfl, (tw 35 (by decide +kernel) rfl)⟩
theorem fp1_9 : FP RX1 9 1 2 3 (.array .int) true := ⟨_, _, _, _, KC1, by decide, rfl, rfl, rfl, (tw 38 (by decide +kernel) rfl)⟩
theorem fp2_11 : FP RX2 11 2 0 3 (.array (.object "NameChart$Chart")) true := ⟨_, _, _, _, KC2, by decide, rfl, rfl, rfl, (tw 95 (by decide +kernel) rfl)⟩
theorem fp2_18 : FP RX2 18 2 1 0 .int false := ⟨_, _, _, _, KC2, by decide, rfl, rfl, rfl, (tw 96 (by decide +kernel) rfl)⟩
theorem fp2_26 : FP RX2 26 2 2 0 .int false := ⟨_, _, _, _, KC2, by decide, rfl, rfl, rfl, (tw 97 (by decide +kernel) rfl)⟩
theorem fp3_11 : FP RX3 11 3 0 3 (.array (.object "NameChart$Box")) true := ⟨_, _, _, _, KC3, by decide, rfl, rfl, rfl, (tw 151 (by decide +kernel) rfl)⟩
theorem fp3_17 : FP RX3 17 3 1 3 (.array .int) true := ⟨_, _, _, _, KC3, by decide, rfl, rfl, rfl, (tw 152 (by decide +kernel) rfl)⟩
theorem fp3_22 : FP RX3 22 3 2 1 .boolean false := ⟨_, _, _, _, KC3, by decide, rfl, rfl, rfl, (tw 155 (by decide +kernel) rfl)⟩
theorem fp3_26 : FP RX3 26 1 0 0 .int false := ⟨_, _, _, _, KC1, by decide, rfl, rfl, rfl, (tw 30 (by decide +kernel) rfl)⟩
theorem fp4_15 : FP RX4 15 4 1 3 (.array .int) true := ⟨_, _, _, _, KC4, by decide, rfl, rfl, rfl, (tw 173 (by decide +kernel) rfl)⟩
theorem fp4_18 : FP RX4 18 4 4 1 .boolean false := ⟨_, _, _, _, KC4, by decide, rfl, rfl, rfl, (tw 178 (by decide +kernel) rfl)⟩
theorem fp4_22 : FP RX4 22 1 0 0 .int false := ⟨_, _, _, _, KC1, by decide, rfl, rfl, rfl, (tw 31 (by decide +kernel) rfl)⟩
theorem fp4_58 : FP RX4 58 4 2 0 .int false := ⟨_, _, _, _, KC4, by decide, rfl, rfl, rfl, (tw 174 (by decide +kernel) rfl)⟩
theorem fp4_61 : FP RX4 61 4 3 0 .int false := ⟨_, _, _, _, KC4, by decide, rfl, rfl, rfl, (tw 176 (by decide +kernel) rfl)⟩
theorem fp4_9 : FP RX4 9 4 0 3 (.array .int) true := ⟨_, _, _, _, KC4, by decide, rfl, rfl, rfl, (tw 170 (by decide +kernel) rfl)⟩
theorem fp5_15 : FP RX5 15 5 1 3 (.array .int) true := ⟨_, _, _, _, KC5, by decide, rfl, rfl, rfl, (tw 240 (by decide +kernel) rfl)⟩
theorem fp5_18 : FP RX5 18 5 2 3 (.array .int) true := ⟨_, _, _, _, KC5, by decide, rfl, rfl, rfl, (tw 242 (by decide +kernel) rfl)⟩
theorem fp5_24 : FP RX5 24 5 3 3 (.object "NameChart$Box") true := ⟨_, _, _, _, KC5, by decide, rfl, rfl, rfl, (tw 243 (by decide +kernel) rfl)⟩
theorem fp5_28 : FP RX5 28 5 4 3 (.object "NameChart$Box") true := ⟨_, _, _, _, KC5, by decide, rfl, rfl, rfl, (tw 244 (by decide +kernel) rfl)⟩
theorem fp5_31 : FP RX5 31 5 5 1 .boolean false := ⟨_, _, _, _, KC5, by decide, rfl, rfl, rfl, (tw 245 (by decide +kernel) rfl)⟩
theorem fp5_47 : FP RX5 47 1 0 0 .int false := ⟨_, _, _, _, KC1, by decide, rfl, rfl, rfl, (tw 33 (by decide +kernel) rfl)⟩
theorem fp5_9 : FP RX5 9 5 0 3 (.array .int) true := ⟨_, _, _, _, KC5, by decide, rfl, rfl, rfl, (tw 238 (by decide +kernel) rfl)⟩
theorem fp6_15 : FP RX6 15 6 1 3 (.array .boolean) true := ⟨_, _, _, _, KC6, by decide, rfl, rfl, rfl, (tw 198 (by decide +kernel) rfl)⟩
theorem fp6_19 : FP RX6 19 6 2 3 (.array .int) true := ⟨_, _, _, _, KC6, by decide, rfl, rfl, rfl, (tw 199 (by decide +kernel) rfl)⟩
theorem fp6_22 : FP RX6 22 6 3 3 (.array .long) true := ⟨_, _, _, _, KC6, by decide, rfl, rfl, rfl, (tw 200 (by decide +kernel) rfl)⟩
theorem fp6_26 : FP RX6 26 6 4 3 (.array .long) true := ⟨_, _, _, _, KC6, by decide, rfl, rfl, rfl, (tw 201 (by decide +kernel) rfl)⟩
theorem fp6_29 : FP RX6 29 6 5 0 .int false := ⟨_, _, _, _, KC6, by decide, rfl, rfl, rfl, (tw 202 (by decide +kernel) rfl)⟩
theorem fp6_33 : FP RX6 33 1 0 0 .int false := ⟨_, _, _, _, KC1, by decide, rfl, rfl, rfl, (tw 29 (by decide +kernel) rfl)⟩
theorem fp6_38 : FP RX6 38 4 0 3 (.array .int) true := ⟨_, _, _, _, KC4, by decide, rfl, rfl, rfl, (tw 171 (by decide +kernel) rfl)⟩
theorem fp6_43 : FP RX6 43 1 2 3 (.array .int) true := ⟨_, _, _, _, KC1, by decide, rfl, rfl, rfl, (tw 40 (by decide +kernel) rfl)⟩
theorem fp6_46 : FP RX6 46 6 6 2 .long false := ⟨_, _, _, _, KC6, by decide, rfl, rfl, rfl, (tw 203 (by decide +kernel) rfl)⟩
theorem fp6_50 : FP RX6 50 6 7 2 .long false := ⟨_, _, _, _, KC6, by decide, rfl, rfl, rfl, (tw 204 (by decide +kernel) rfl)⟩
theorem fp6_57 : FP RX6 57 6 8 0 .int false := ⟨_, _, _, _, KC6, by decide, rfl, rfl, rfl, (tw 205 (by decide +kernel) rfl)⟩
theorem fp6_61 : FP RX6 61 6 9 0 .int false := ⟨_, _, _, _, KC6, by decide, rfl, rfl, rfl, (tw 206 (by decide +kernel) rfl)⟩
theorem fp6_9 : FP RX6 9 6 0 3 (.array .int) true := ⟨_, _, _, _, KC6, by decide, rfl, rfl, rfl, (tw 197 (by decide +kernel) rfl)⟩
theorem fp6_94 : FP RX6 94 3 1 3 (.array .int) true := ⟨_, _, _, _, KC3, by decide, rfl, rfl, rfl, (tw 153 (by decide +kernel) rfl)⟩
theorem fp7_10 : FP RX7 10 7 0 3 (.object "NameChart$Chart") true := ⟨_, _, _, _, KC7, by decide, rfl, rfl, rfl, (tw 262 (by decide +kernel) rfl)⟩
theorem fp7_100 : FP RX7 100 1 4 3 (.array .int) true := ⟨_, _, _, _, KC1, by decide, rfl, rfl, rfl, (tw 47 (by decide +kernel) rfl)⟩
theorem fp7_107 : FP RX7 107 1 7 3 (.array .int) true := ⟨_, _, _, _, KC1, by decide, rfl, rfl, rfl, (tw 55 (by decide +kernel) rfl)⟩
theorem fp7_110 : FP RX7 110 1 5 3 (.array .int) true := ⟨_, _, _, _, KC1, by decide, rfl, rfl, rfl, (tw 50 (by decide +kernel) rfl)⟩
theorem fp7_113 : FP RX7 113 1 6 3 (.array .int) true := ⟨_, _, _, _, KC1, by decide, rfl, rfl, rfl, (tw 53 (by decide +kernel) rfl)⟩
theorem fp7_116 : FP RX7 116 1 2 3 (.array .int) true := ⟨_, _, _, _, KC1, by decide, rfl, rfl, rfl, (tw 41 (by decide +kernel) rfl)⟩
theorem fp7_129 : FP RX7 129 4 0 3 (.array .int) true := ⟨_, _, _, _, KC4, by decide, rfl, rfl, rfl, (tw 172 (by decide +kernel) rfl)⟩
theorem fp7_149 : FP RX7 149 0 0 0 .int false := ⟨_, _, _, _, KC0, by decide, rfl, rfl, rfl, (tw 120 (by decide +kernel) rfl)⟩
theorem fp7_152 : FP RX7 152 0 1 0 .int false := ⟨_, _, _, _, KC0, by decide, rfl, rfl, rfl, (tw 122 (by decide +kernel) rfl)⟩
theorem fp7_155 : FP RX7 155 0 2 0 .int false := ⟨_, _, _, _, KC0, by decide, rfl, rfl, rfl, (tw 124 (by decide +kernel) rfl)⟩
theorem fp7_158 : FP RX7 158 0 3 0 .int false := ⟨_, _, _, _, KC0, by decide, rfl, rfl, rfl, (tw 126 (by decide +kernel) rfl)⟩
theorem fp7_183 : FP RX7 183 4 2 0 .int false := ⟨_, _, _, _, KC4, by decide, rfl, rfl, rfl, (tw 175 (by decide +kernel) rfl)⟩
theorem fp7_19 : FP RX7 19 7 1 3 (.object "NameChart$History") true := ⟨_, _, _, _, KC7, by decide, rfl, rfl, rfl, (tw 263 (by decide +kernel) rfl)⟩
theorem fp7_190 : FP RX7 190 1 8 3 (.array .int) true := ⟨_, _, _, _, KC1, by decide, rfl, rfl, rfl, (tw 57 (by decide +kernel) rfl)⟩
theorem fp7_206 : FP RX7 206 4 3 0 .int false := ⟨_, _, _, _, KC4, by decide, rfl, rfl, rfl, (tw 177 (by decide +kernel) rfl)⟩
theorem fp7_247 : FP RX7 247 5 0 3 (.array .int) true := ⟨_, _, _, _, KC5, by decide, rfl, rfl, rfl, (tw 239 (by decide +kernel) rfl)⟩
theorem fp7_250 : FP RX7 250 5 1 3 (.array .int) true := ⟨_, _, _, _, KC5, by decide, rfl, rfl, rfl, (tw 241 (by decide +kernel) rfl)⟩
theorem fp7_26 : FP RX7 26 7 2 3 (.object "NameChart$Layout") true := ⟨_, _, _, _, KC7, by decide, rfl, rfl, rfl, (tw 264 (by decide +kernel) rfl)⟩
theorem fp7_267 : FP RX7 267 2 2 0 .int false := ⟨_, _, _, _, KC2, by decide, rfl, rfl, rfl, (tw 98 (by decide +kernel) rfl)⟩
theorem fp7_279 : FP RX7 279 3 2 1 .boolean false := ⟨_, _, _, _, KC3, by decide, rfl, rfl, rfl, (tw 156 (by decide +kernel) rfl)⟩
theorem fp7_283 : FP RX7 283 4 4 1 .boolean false := ⟨_, _, _, _, KC4, by decide, rfl, rfl, rfl, (tw 179 (by decide +kernel) rfl)⟩
theorem fp7_284 : FP RX7 284 5 5 1 .boolean false := ⟨_, _, _, _, KC5, by decide, rfl, rfl, rfl, (tw 246 (by decide +kernel) rfl)⟩
theorem fp7_289 : FP RX7 289 3 1 3 (.array .int) true := ⟨_, _, _, _, KC3, by decide, rfl, rfl, rfl, (tw 154 (by decide +kernel) rfl)⟩
theorem fp7_33 : FP RX7 33 7 3 3 (.object "NameChart$Parts") true := ⟨_, _, _, _, KC7, by decide, rfl, rfl, rfl, (tw 265 (by decide +kernel) rfl)⟩
theorem fp7_40 : FP RX7 40 7 4 3 (.object "NameChart$Search") true := ⟨_, _, _, _, KC7, by decide, rfl, rfl, rfl, (tw 266 (by decide +kernel) rfl)⟩
theorem fp7_47 : FP RX7 47 7 5 3 (.object "NameChart$Plan") true := ⟨_, _, _, _, KC7, by decide, rfl, rfl, rfl, (tw 267 (by decide +kernel) rfl)⟩
theorem fp7_54 : FP RX7 54 7 6 3 (.object "NameChart$Box") true := ⟨_, _, _, _, KC7, by decide, rfl, rfl, rfl, (tw 268 (by decide +kernel) rfl)⟩
theorem fp7_58 : FP RX7 58 7 7 3 (.object "NameChart$Box") true := ⟨_, _, _, _, KC7, by decide, rfl, rfl, rfl, (tw 269 (by decide +kernel) rfl)⟩
theorem fp7_61 : FP RX7 61 7 8 3 (.array .int) true := ⟨_, _, _, _, KC7, by decide, rfl, rfl, rfl, (tw 270 (by decide +kernel) rfl)⟩
theorem fp7_65 : FP RX7 65 7 9 3 (.array .int) true := ⟨_, _, _, _, KC7, by decide, rfl, rfl, rfl, (tw 271 (by decide +kernel) rfl)⟩
theorem fp7_76 : FP RX7 76 1 0 0 .int false := ⟨_, _, _, _, KC1, by decide, rfl, rfl, rfl, (tw 32 (by decide +kernel) rfl)⟩
theorem fp7_87 : FP RX7 87 1 1 0 .int false := ⟨_, _, _, _, KC1, by decide, rfl, rfl, rfl, (tw 36 (by decide +kernel) rfl)⟩
theorem fp7_97 : FP RX7 97 1 3 3 (.array .int) true := ⟨_, _, _, _, KC1, by decide, rfl, rfl, rfl, (tw 44 (by decide +kernel) rfl)⟩
theorem fp8_122 : FP RX8 122 8 16 0 .int false := ⟨_, _, _, _, KC8, by decide, rfl, rfl, rfl, (tw 767 (by decide +kernel) rfl)⟩
theorem fp8_125 : FP RX8 125 8 17 0 .int false := ⟨_, _, _, _, KC8, by decide, rfl, rfl, rfl, (tw 768 (by decide +kernel) rfl)⟩
theorem fp8_128 : FP RX8 128 8 18 0 .int false := ⟨_, _, _, _, KC8, by decide, rfl, rfl, rfl, (tw 769 (by decide +kernel) rfl)⟩
theorem fp8_13 : FP RX8 13 8 4 3 (.array .int) true := ⟨_, _, _, _, KC8, by decide, rfl, rfl, rfl, (tw 755 (by decide +kernel) rfl)⟩
theorem fp8_131 : FP RX8 131 8 19 0 .int false := ⟨_, _, _, _, KC8, by decide, rfl, rfl, rfl, (tw 770 (by decide +kernel) rfl)⟩
theorem fp8_159 : FP RX8 159 8 23 2 .long false := ⟨_, _, _, _, KC8, by decide, rfl, rfl, rfl, (tw 774 (by decide +kernel) rfl)⟩
theorem fp8_16 : FP RX8 16 8 5 3 (.array .int) true := ⟨_, _, _, _, KC8, by decide, rfl, rfl, rfl, (tw 756 (by decide +kernel) rfl)⟩
theorem fp8_163 : FP RX8 163 8 22 2 .long false := ⟨_, _, _, _, KC8, by decide, rfl, rfl, rfl, (tw 773 (by decide +kernel) rfl)⟩
theorem fp8_166 : FP RX8 166 8 25 2 .long false := ⟨_, _, _, _, KC8, by decide, rfl, rfl, rfl, (tw 776 (by decide +kernel) rfl)⟩
theorem fp8_169 : FP RX8 169 8 24 2 .long false := ⟨_, _, _, _, KC8, by decide, rfl, rfl, rfl, (tw 775 (by decide +kernel) rfl)⟩
theorem fp8_19 : FP RX8 19 8 6 3 (.array .int) true := ⟨_, _, _, _, KC8, by decide, rfl, rfl, rfl, (tw 757 (by decide +kernel) rfl)⟩
theorem fp8_22 : FP RX8 22 8 7 3 (.array .int) true := ⟨_, _, _, _, KC8, by decide, rfl, rfl, rfl, (tw 758 (by decide +kernel) rfl)⟩
theorem fp8_227 : FP RX8 227 8 29 0 .int false := ⟨_, _, _, _, KC8, by decide, rfl, rfl, rfl, (tw 780 (by decide +kernel) rfl)⟩
theorem fp8_230 : FP RX8 230 8 32 0 .int false := ⟨_, _, _, _, KC8, by decide, rfl, rfl, rfl, (tw 783 (by decide +kernel) rfl)⟩
theorem fp8_25 : FP RX8 25 8 8 3 (.array .int) true := ⟨_, _, _, _, KC8, by decide, rfl, rfl, rfl, (tw 759 (by decide +kernel) rfl)⟩
theorem fp8_28 : FP RX8 28 8 9 3 (.array .int) true := ⟨_, _, _, _, KC8, by decide, rfl, rfl, rfl, (tw 760 (by decide +kernel) rfl)⟩
theorem fp8_31 : FP RX8 31 8 10 3 (.array .int) true := ⟨_, _, _, _, KC8, by decide, rfl, rfl, rfl, (tw 761 (by decide +kernel) rfl)⟩
theorem fp8_34 : FP RX8 34 8 11 3 (.array .int) true := ⟨_, _, _, _, KC8, by decide, rfl, rfl, rfl, (tw 762 (by decide +kernel) rfl)⟩
theorem fp8_37 : FP RX8 37 8 12 3 (.array .int) true := ⟨_, _, _, _, KC8, by decide, rfl, rfl, rfl, (tw 763 (by decide +kernel) rfl)⟩
theorem fp8_40 : FP RX8 40 8 20 3 (.array .long) true := ⟨_, _, _, _, KC8, by decide, rfl, rfl, rfl, (tw 771 (by decide +kernel) rfl)⟩
theorem fp8_44 : FP RX8 44 8 21 3 (.array .long) true := ⟨_, _, _, _, KC8, by decide, rfl, rfl, rfl, (tw 772 (by decide +kernel) rfl)⟩
theorem fp8_47 : FP RX8 47 8 26 3 (.array .int) true := ⟨_, _, _, _, KC8, by decide, rfl, rfl, rfl, (tw 777 (by decide +kernel) rfl)⟩
theorem fp8_50 : FP RX8 50 8 27 3 (.array .boolean) true := ⟨_, _, _, _, KC8, by decide, rfl, rfl, rfl, (tw 778 (by decide +kernel) rfl)⟩
theorem fp8_54 : FP RX8 54 8 28 3 (.array .int) true := ⟨_, _, _, _, KC8, by decide, rfl, rfl, rfl, (tw 779 (by decide +kernel) rfl)⟩
theorem fp8_57 : FP RX8 57 8 30 3 (.array .int) true := ⟨_, _, _, _, KC8, by decide, rfl, rfl, rfl, (tw 781 (by decide +kernel) rfl)⟩
theorem fp8_60 : FP RX8 60 8 31 3 (.array .int) true := ⟨_, _, _, _, KC8, by decide, rfl, rfl, rfl, (tw 782 (by decide +kernel) rfl)⟩
theorem fp8_63 : FP RX8 63 8 33 3 (.array .int) true := ⟨_, _, _, _, KC8, by decide, rfl, rfl, rfl, (tw 784 (by decide +kernel) rfl)⟩
theorem fp8_66 : FP RX8 66 8 34 3 (.array .int) true := ⟨_, _, _, _, KC8, by decide, rfl, rfl, rfl, (tw 785 (by decide +kernel) rfl)⟩
theorem fp8_69 : FP RX8 69 8 35 3 (.array .int) true := ⟨_, _, _, _, KC8, by decide, rfl, rfl, rfl, (tw 786 (by decide +kernel) rfl)⟩
theorem fp8_7 : FP RX8 7 8 3 3 (.array .int) true := ⟨_, _, _, _, KC8, by decide, rfl, rfl, rfl, (tw 754 (by decide +kernel) rfl)⟩
theorem fp8_72 : FP RX8 72 8 36 3 (.array .int) true := ⟨_, _, _, _, KC8, by decide, rfl, rfl, rfl, (tw 787 (by decide +kernel) rfl)⟩
theorem fp8_75 : FP RX8 75 8 37 3 (.array .int) true := ⟨_, _, _, _, KC8, by decide, rfl, rfl, rfl, (tw 788 (by decide +kernel) rfl)⟩
theorem fp8_78 : FP RX8 78 8 0 0 .int false := ⟨_, _, _, _, KC8, by decide, rfl, rfl, rfl, (tw 751 (by decide +kernel) rfl)⟩
theorem fp8_82 : FP RX8 82 8 15 0 .int false := ⟨_, _, _, _, KC8, by decide, rfl, rfl, rfl, (tw 766 (by decide +kernel) rfl)⟩
theorem fp8_85 : FP RX8 85 8 13 0 .int false := ⟨_, _, _, _, KC8, by decide, rfl, rfl, rfl, (tw 764 (by decide +kernel) rfl)⟩
theorem fp8_88 : FP RX8 88 8 1 0 .int false := ⟨_, _, _, _, KC8, by decide, rfl, rfl, rfl, (tw 752 (by decide +kernel) rfl)⟩
theorem fp8_91 : FP RX8 91 8 2 0 .int false := ⟨_, _, _, _, KC8, by decide, rfl, rfl, rfl, (tw 753 (by decide +kernel) rfl)⟩
theorem fp8_98 : FP RX8 98 8 14 0 .int false := ⟨_, _, _, _, KC8, by decide, rfl, rfl, rfl, (tw 765 (by decide +kernel) rfl)⟩
theorem g0_0 : rf 0 0 = some 10 := by decide
theorem g0_1 : rf 0 1 = some 1 := by decide
theorem g0_2 : rf 0 2 = some 3 := by decide
theorem g0_3 : rf 0 3 = some 6 := by decide
theorem g0_4 : rf 0 4 = some 9 := by decide
theorem g0_5 : rf 0 5 = some 105 := by decide
theorem g0_6 : rf 0 6 = some 1384 := by decide
theorem g0_7 : rf 0 7 = some 1385 := by decide
theorem g0_8 : rf 0 8 = some 109 := by decide
theorem g0_9 : rf 0 9 = some 110 := by decide
theorem g105_0 : rf 105 0 = some 106 := by decide
theorem g105_1 : rf 105 1 = some 107 := by decide
theorem g105_2 : rf 105 2 = some 108 := by decide
theorem g105_3 : rf 105 3 = some 1386 := by decide
theorem g105_4 : rf 105 4 = some 1387 := by decide
theorem g10_10 : rf 10 10 = some 19 := by decide
theorem g10_2 : rf 10 2 = some 11 := by decide
theorem g10_3 : rf 10 3 = some 12 := by decide
theorem g10_4 : rf 10 4 = some 13 := by decide
theorem g10_5 : rf 10 5 = some 14 := by decide
theorem g10_6 : rf 10 6 = some 15 := by decide
theorem g10_7 : rf 10 7 = some 16 := by decide
theorem g10_8 : rf 10 8 = some 17 := by decide
theorem g10_9 : rf 10 9 = some 18 := by decide
theorem g1_0 : rf 1 0 = some 2 := by decide
theorem g200_10 : rf 200 10 = some 208 := by decide
theorem g200_11 : rf 200 11 = some 209 := by decide
theorem g200_12 : rf 200 12 = some 210 := by decide
theorem g200_20 : rf 200 20 = some 211 := by decide
theorem g200_21 : rf 200 21 = some 212 := by decide
theorem g200_26 : rf 200 26 = some 213 := by decide
theorem g200_27 : rf 200 27 = some 214 := by decide
theorem g200_28 : rf 200 28 = some 215 := by decide
theorem g200_3 : rf 200 3 = some 201 := by decide
theorem g200_30 : rf 200 30 = some 216 := by decide
theorem g200_31 : rf 200 31 = some 217 := by decide
theorem g200_33 : rf 200 33 = some 218 := by decide
theorem g200_34 : rf 200 34 = some 219 := by decide
theorem g200_35 : rf 200 35 = some 220 := by decide
theorem g200_36 : rf 200 36 = some 221 := by decide
theorem g200_37 : rf 200 37 = some 222 := by decide
theorem g200_4 : rf 200 4 = some 202 := by decide
theorem g200_5 : rf 200 5 = some 203 := by decide
theorem g200_6 : rf 200 6 = some 204 := by decide
theorem g200_7 : rf 200 7 = some 205 := by decide
theorem g200_8 : rf 200 8 = some 206 := by decide
theorem g200_9 : rf 200 9 = some 207 := by decide
theorem g3_0 : rf 3 0 = some 4 := by decide
theorem g3_1 : rf 3 1 = some 5 := by decide
theorem g6_0 : rf 6 0 = some 7 := by decide
theorem g6_1 : rf 6 1 = some 8 := by decide
theorem g9_0 : rf 9 0 = some 100 := by decide
theorem g9_1 : rf 9 1 = some 101 := by decide
theorem g9_2 : rf 9 2 = some 102 := by decide
theorem g9_3 : rf 9 3 = some 103 := by decide
theorem g9_4 : rf 9 4 = some 104 := by decide
theorem ic_0 : Int32.ofInt (0) = (0 : Int32) := by decide
theorem ic_1 : Int32.ofInt (1) = (1 : Int32) := by decide
theorem ic_2 : Int32.ofInt (2) = (2 : Int32) := by decide
theorem ic_3 : Int32.ofInt (3) = (3 : Int32) := by decide
theorem ic_4 : Int32.ofInt (4) = (4 : Int32) := by decide
theorem ic_5 : Int32.ofInt (5) = (5 : Int32) := by decide
theorem ic_m1 : Int32.ofInt (-1) = (-1 : Int32) := by decide
theorem k0 : kd 0 = 7 := by decide
theorem k1 : kd 1 = 2 := by decide
theorem k10 : kd 10 = 1 := by decide
theorem k100 : kd 100 = 20 := by decide
theorem k101 : kd 101 = 22 := by decide
theorem k102 : kd 102 = 20 := by decide
theorem k103 : kd 103 = 21 := by decide
theorem k104 : kd 104 = 21 := by decide
theorem k105 : kd 105 = 5 := by decide
theorem k106 : kd 106 = 20 := by decide
theorem k107 : kd 107 = 20 := by decide
theorem k108 : kd 108 = 20 := by decide
theorem k109 : kd 109 = 20 := by decide
theorem k11 : kd 11 = 20 := by decide
theorem k110 : kd 110 = 20 := by decide
theorem k12 : kd 12 = 20 := by decide
theorem k13 : kd 13 = 20 := by decide
theorem k1384 : kd 1384 = 0 := by decide
theorem k1385 : kd 1385 = 0 := by decide
theorem k1386 : kd 1386 = 0 := by decide
theorem k1387 : kd 1387 = 0 := by decide
theorem k14 : kd 14 = 20 := by decide
theorem k15 : kd 15 = 20 := by decide
theorem k16 : kd 16 = 20 := by decide
theorem k17 : kd 17 = 20 := by decide
theorem k18 : kd 18 = 20 := by decide
theorem k19 : kd 19 = 20 := by decide
theorem k2 : kd 2 = 24 := by decide
theorem k200 : kd 200 = 8 := by decide
theorem k201 : kd 201 = 20 := by decide
theorem k202 : kd 202 = 20 := by decide
theorem k203 : kd 203 = 20 := by decide
theorem k204 : kd 204 = 20 := by decide
theorem k205 : kd 205 = 20 := by decide
theorem k206 : kd 206 = 20 := by decide
theorem k207 : kd 207 = 20 := by decide
theorem k208 : kd 208 = 20 := by decide
theorem k209 : kd 209 = 20 := by decide
theorem k210 : kd 210 = 20 := by decide
theorem k211 : kd 211 = 21 := by decide
theorem k212 : kd 212 = 21 := by decide
theorem k213 : kd 213 = 20 := by decide
theorem k214 : kd 214 = 22 := by decide
theorem k215 : kd 215 = 20 := by decide
theorem k216 : kd 216 = 20 := by decide
theorem k217 : kd 217 = 20 := by decide
theorem k218 : kd 218 = 20 := by decide
theorem k219 : kd 219 = 20 := by decide
theorem k220 : kd 220 = 20 := by decide
theorem k221 : kd 221 = 20 := by decide
theorem k222 : kd 222 = 20 := by decide
theorem k3 : kd 3 = 3 := by decide
theorem k4 : kd 4 = 23 := by decide
theorem k5 : kd 5 = 20 := by decide
theorem k6 : kd 6 = 4 := by decide
theorem k7 : kd 7 = 20 := by decide
theorem k8 : kd 8 = 20 := by decide
theorem k9 : kd 9 = 6 := by decide
theorem lkAC1_46 : Cond.methodLink RX1 46 arraycopyName ∈ gt := gt_in (by decide +kernel) rfl
theorem lkAC7_292 : Cond.methodLink RX7 292 arraycopyName ∈ gt := gt_in (by decide +kernel) rfl
theorem lkM0_105 : Cond.methodLink RX0 105 Lib.Math.min.name ∈ gt := gt_in (by decide +kernel) rfl
theorem lkM0_99 : Cond.methodLink RX0 99 Lib.Math.max.name ∈ gt := gt_in (by decide +kernel) rfl
theorem lkM1_70 : Cond.methodLink RX1 70 Lib.Math.abs.name ∈ gt := gt_in (by decide +kernel) rfl
theorem lkM2_29 : Cond.methodLink RX2 29 Lib.Math.min.name ∈ gt := gt_in (by decide +kernel) rfl
theorem lkM4_45 : Cond.methodLink RX4 45 Lib.Math.min.name ∈ gt := gt_in (by decide +kernel) rfl
theorem lkM4_51 : Cond.methodLink RX4 51 Lib.Math.max.name ∈ gt := gt_in (by decide +kernel) rfl
theorem lkM6_120 : Cond.methodLink RX6 120 Lib.Math.max.name ∈ gt := gt_in (by decide +kernel) rfl
theorem lkX0_108 : Cond.methodLink RX0 108 yX0_sideOf ∈ gt := (tw 465 (by decide +kernel) rfl)
theorem lkX0_36 : Cond.methodLink RX0 36 yX0_start ∈ gt := (tw 387 (by decide +kernel) rfl)
theorem lkX0_77 : Cond.methodLink RX0 77 yX0_coversAny ∈ gt := (tw 396 (by decide +kernel) rfl)
theorem lkX0_84 : Cond.methodLink RX0 84 yX0_covers ∈ gt := (tw 400 (by decide +kernel) rfl)
theorem lkX0_88 : Cond.methodLink RX0 88 yX0_overlaps ∈ gt := (tw 453 (by decide +kernel) rfl)
theorem lkX0_92 : Cond.methodLink RX0 92 yX0_lineEnters ∈ gt := (tw 457 (by decide +kernel) rfl)
theorem lkX0_96 : Cond.methodLink RX0 96 yX0_linesMeet ∈ gt := (tw 469 (by decide +kernel) rfl)
theorem lkX1_52 : Cond.methodLink RX1 52 yX1_has ∈ gt := (tw 499 (by decide +kernel) rfl)
theorem lkX1_56 : Cond.methodLink RX1 56 yX1_waysOf ∈ gt := (tw 500 (by decide +kernel) rfl)
theorem lkX1_66 : Cond.methodLink RX1 66 yX1_priceOf ∈ gt := (tw 569 (by decide +kernel) rfl)
theorem lkX1_75 : Cond.methodLink RX1 75 yX1_reachAcross ∈ gt := (tw 429 (by decide +kernel) rfl)
theorem lkX1_78 : Cond.methodLink RX1 78 yX1_reachDown ∈ gt := (tw 437 (by decide +kernel) rfl)
theorem lkX1_81 : Cond.methodLink RX1 81 yX1_isOfKind ∈ gt := (tw 433 (by decide +kernel) rfl)
theorem lkX1_85 : Cond.methodLink RX1 85 yX1_isServedAhead ∈ gt := (tw 578 (by decide +kernel) rfl)
theorem lkX2_22 : Cond.methodLink RX2 22 yX1_copyFrom ∈ gt := (tw 314 (by decide +kernel) rfl)
theorem lkX3_32 : Cond.methodLink RX3 32 yX1_waysOf ∈ gt := (tw 376 (by decide +kernel) rfl)
theorem lkX3_36 : Cond.methodLink RX3 36 yX3_boxOf ∈ gt := (tw 377 (by decide +kernel) rfl)
theorem lkX3_40 : Cond.methodLink RX3 40 yX0_lay ∈ gt := (tw 381 (by decide +kernel) rfl)
theorem lkX3_44 : Cond.methodLink RX3 44 yX0_isOpen ∈ gt := (tw 392 (by decide +kernel) rfl)
theorem lkX3_48 : Cond.methodLink RX3 48 yX3_isOpen ∈ gt := (tw 445 (by decide +kernel) rfl)
theorem lkX3_51 : Cond.methodLink RX3 51 yX0_hits ∈ gt := (tw 449 (by decide +kernel) rfl)
theorem lkX4_28 : Cond.methodLink RX4 28 yX4_joinBack ∈ gt := (tw 418 (by decide +kernel) rfl)
theorem lkX4_32 : Cond.methodLink RX4 32 yX4_giveNumbers ∈ gt := (tw 479 (by decide +kernel) rfl)
theorem lkX4_36 : Cond.methodLink RX4 36 yX1_areNear ∈ gt := (tw 422 (by decide +kernel) rfl)
theorem lkX4_40 : Cond.methodLink RX4 40 yX3_openWaysClash ∈ gt := (tw 441 (by decide +kernel) rfl)
theorem lkX4_54 : Cond.methodLink RX4 54 yX4_join ∈ gt := (tw 475 (by decide +kernel) rfl)
theorem lkX5_35 : Cond.methodLink RX5 35 yJ7_fill_53178 ∈ gt := (tw 696 (by decide +kernel) rfl)
theorem lkX5_41 : Cond.methodLink RX5 41 yX1_queue ∈ gt := (tw 697 (by decide +kernel) rfl)
theorem lkX5_51 : Cond.methodLink RX5 51 yX5_settle ∈ gt := (tw 698 (by decide +kernel) rfl)
theorem lkX5_55 : Cond.methodLink RX5 55 yX1_waysOf ∈ gt := (tw 702 (by decide +kernel) rfl)
theorem lkX5_59 : Cond.methodLink RX5 59 yX5_fits ∈ gt := (tw 703 (by decide +kernel) rfl)
theorem lkX5_63 : Cond.methodLink RX5 63 yX0_lay ∈ gt := (tw 707 (by decide +kernel) rfl)
theorem lkX5_67 : Cond.methodLink RX5 67 yX0_isOpen ∈ gt := (tw 708 (by decide +kernel) rfl)
theorem lkX5_71 : Cond.methodLink RX5 71 yX5_isThere ∈ gt := (tw 709 (by decide +kernel) rfl)
theorem lkX5_75 : Cond.methodLink RX5 75 yX0_hits ∈ gt := (tw 713 (by decide +kernel) rfl)
theorem lkX6_102 : Cond.methodLink RX6 102 yX1_wayByPrice ∈ gt := (tw 606 (by decide +kernel) rfl)
theorem lkX6_105 : Cond.methodLink RX6 105 yX1_gainOf ∈ gt := (tw 612 (by decide +kernel) rfl)
theorem lkX6_108 : Cond.methodLink RX6 108 yX6_gatherBans ∈ gt := (tw 613 (by decide +kernel) rfl)
theorem lkX6_112 : Cond.methodLink RX6 112 yX1_areNear ∈ gt := (tw 617 (by decide +kernel) rfl)
theorem lkX6_116 : Cond.methodLink RX6 116 yX3_openHits ∈ gt := (tw 618 (by decide +kernel) rfl)
theorem lkX6_125 : Cond.methodLink RX6 125 yX6_hope ∈ gt := (tw 629 (by decide +kernel) rfl)
theorem lkX6_129 : Cond.methodLink RX6 129 yX6_isBeaten ∈ gt := (tw 642 (by decide +kernel) rfl)
theorem lkX6_133 : Cond.methodLink RX6 133 yJ6_numberOfTrailingZeros_0f7a4 ∈ gt := (tw 636 (by decide +kernel) rfl)
theorem lkX6_53 : Cond.methodLink RX6 53 yX6_gatherOptions ∈ gt := (tw 586 (by decide +kernel) rfl)
theorem lkX6_64 : Cond.methodLink RX6 64 yX6_descend ∈ gt := (tw 624 (by decide +kernel) rfl)
theorem lkX6_68 : Cond.methodLink RX6 68 yX6_firstReaching ∈ gt := (tw 651 (by decide +kernel) rfl)
theorem lkX6_72 : Cond.methodLink RX6 72 yX6_bitsOf ∈ gt := (tw 633 (by decide +kernel) rfl)
theorem lkX6_76 : Cond.methodLink RX6 76 yX1_rankOf ∈ gt := (tw 593 (by decide +kernel) rfl)
theorem lkX6_80 : Cond.methodLink RX6 80 yX6_fixIfReaching ∈ gt := (tw 655 (by decide +kernel) rfl)
theorem lkX6_85 : Cond.methodLink RX6 85 yX6_inFront ∈ gt := (tw 599 (by decide +kernel) rfl)
theorem lkX6_91 : Cond.methodLink RX6 91 yX6_inBack ∈ gt := (tw 602 (by decide +kernel) rfl)
theorem lkX6_99 : Cond.methodLink RX6 99 yX6_byRank ∈ gt := (tw 590 (by decide +kernel) rfl)
theorem lkX7_103 : Cond.methodLink RX7 103 yX7_within ∈ gt := (tw 300 (by decide +kernel) rfl)
theorem lkX7_119 : Cond.methodLink RX7 119 yX1_waysOf ∈ gt := (tw 360 (by decide +kernel) rfl)
theorem lkX7_123 : Cond.methodLink RX7 123 yX7_openWays ∈ gt := (tw 364 (by decide +kernel) rfl)
theorem lkX7_126 : Cond.methodLink RX7 126 yX7_splitUp ∈ gt := (tw 410 (by decide +kernel) rfl)
theorem lkX7_132 : Cond.methodLink RX7 132 yX1_isOfKind ∈ gt := (tw 487 (by decide +kernel) rfl)
theorem lkX7_135 : Cond.methodLink RX7 135 yX7_yes ∈ gt := (tw 488 (by decide +kernel) rfl)
theorem lkX7_139 : Cond.methodLink RX7 139 yX1_hasWay ∈ gt := (tw 495 (by decide +kernel) rfl)
theorem lkX7_142 : Cond.methodLink RX7 142 yX7_isZoom ∈ gt := (tw 501 (by decide +kernel) rfl)
theorem lkX7_145 : Cond.methodLink RX7 145 yX0_lay ∈ gt := (tw 504 (by decide +kernel) rfl)
theorem lkX7_161 : Cond.methodLink RX7 161 yX1_priceOf ∈ gt := (tw 505 (by decide +kernel) rfl)
theorem lkX7_164 : Cond.methodLink RX7 164 yX0_isOpen ∈ gt := (tw 509 (by decide +kernel) rfl)
theorem lkX7_168 : Cond.methodLink RX7 168 yX0_hits ∈ gt := (tw 514 (by decide +kernel) rfl)
theorem lkX7_172 : Cond.methodLink RX7 172 yX7_layOut ∈ gt := (tw 368 (by decide +kernel) rfl)
theorem lkX7_175 : Cond.methodLink RX7 175 yX3_openHits ∈ gt := (tw 519 (by decide +kernel) rfl)
theorem lkX7_178 : Cond.methodLink RX7 178 yJ6_bitCount_0f7a4 ∈ gt := (tw 404 (by decide +kernel) rfl)
theorem lkX7_186 : Cond.methodLink RX7 186 yX2_keep ∈ gt := (tw 310 (by decide +kernel) rfl)
theorem lkX7_193 : Cond.methodLink RX7 193 yX7_firstShut ∈ gt := (tw 543 (by decide +kernel) rfl)
theorem lkX7_197 : Cond.methodLink RX7 197 yX7_firstClashing ∈ gt := (tw 548 (by decide +kernel) rfl)
theorem lkX7_200 : Cond.methodLink RX7 200 yX7_firstMissing ∈ gt := (tw 557 (by decide +kernel) rfl)
theorem lkX7_203 : Cond.methodLink RX7 203 yX1_gainOf ∈ gt := (tw 565 (by decide +kernel) rfl)
theorem lkX7_209 : Cond.methodLink RX7 209 yX1_queue ∈ gt := (tw 574 (by decide +kernel) rfl)
theorem lkX7_213 : Cond.methodLink RX7 213 yX6_seat ∈ gt := (tw 582 (by decide +kernel) rfl)
theorem lkX7_217 : Cond.methodLink RX7 217 yX6_mostWorth ∈ gt := (tw 619 (by decide +kernel) rfl)
theorem lkX7_220 : Cond.methodLink RX7 220 yX6_pickFirst ∈ gt := (tw 647 (by decide +kernel) rfl)
theorem lkX7_224 : Cond.methodLink RX7 224 yX7_takeInHand ∈ gt := (tw 659 (by decide +kernel) rfl)
theorem lkX7_227 : Cond.methodLink RX7 227 yJ7_fill_53178 ∈ gt := (tw 668 (by decide +kernel) rfl)
theorem lkX7_233 : Cond.methodLink RX7 233 yX7_cheapestWay ∈ gt := (tw 671 (by decide +kernel) rfl)
theorem lkX7_237 : Cond.methodLink RX7 237 yX7_leftInHand ∈ gt := (tw 676 (by decide +kernel) rfl)
theorem lkX7_240 : Cond.methodLink RX7 240 yX7_firstHit ∈ gt := (tw 552 (by decide +kernel) rfl)
theorem lkX7_244 : Cond.methodLink RX7 244 yX5_refresh ∈ gt := (tw 692 (by decide +kernel) rfl)
theorem lkX7_253 : Cond.methodLink RX7 253 yX5_isThere ∈ gt := (tw 718 (by decide +kernel) rfl)
theorem lkX7_256 : Cond.methodLink RX7 256 yX3_boxOf ∈ gt := (tw 556 (by decide +kernel) rfl)
theorem lkX7_260 : Cond.methodLink RX7 260 yX0_covers ∈ gt := (tw 723 (by decide +kernel) rfl)
theorem lkX7_263 : Cond.methodLink RX7 263 yX0_overlaps ∈ gt := (tw 728 (by decide +kernel) rfl)
theorem lkX7_270 : Cond.methodLink RX7 270 yX2_takeBack ∈ gt := (tw 733 (by decide +kernel) rfl)
theorem lkX7_273 : Cond.methodLink RX7 273 yX7_forgetDrawing ∈ gt := (tw 324 (by decide +kernel) rfl)
theorem lkX7_276 : Cond.methodLink RX7 276 yX7_musts ∈ gt := (tw 741 (by decide +kernel) rfl)
theorem lkX7_285 : Cond.methodLink RX7 285 yX3_refresh ∈ gt := (tw 372 (by decide +kernel) rfl)
theorem lkX7_286 : Cond.methodLink RX7 286 yX4_refresh ∈ gt := (tw 414 (by decide +kernel) rfl)
theorem lkX7_298 : Cond.methodLink RX7 298 yX3_isOpen ∈ gt := (tw 547 (by decide +kernel) rfl)
theorem lkX7_300 : Cond.methodLink RX7 300 yX1_wayByPrice ∈ gt := (tw 675 (by decide +kernel) rfl)
theorem lkX7_68 : Cond.methodLink RX7 68 yX7_isKind ∈ gt := (tw 297 (by decide +kernel) rfl)
theorem lkX7_72 : Cond.methodLink RX7 72 yX7_isPlace ∈ gt := (tw 303 (by decide +kernel) rfl)
theorem lkX7_80 : Cond.methodLink RX7 80 yX7_redraw ∈ gt := (tw 306 (by decide +kernel) rfl)
theorem lkX7_83 : Cond.methodLink RX7 83 yX1_addName ∈ gt := (tw 328 (by decide +kernel) rfl)
theorem lkX7_90 : Cond.methodLink RX7 90 yX1_addDot ∈ gt := (tw 336 (by decide +kernel) rfl)
theorem lkX7_94 : Cond.methodLink RX7 94 yX1_has ∈ gt := (tw 344 (by decide +kernel) rfl)
theorem lkX8_101 : Cond.methodLink RX8 101 yX8_read ∈ gt := (tw 870 (by decide +kernel) rfl)
theorem lkX8_104 : Cond.methodLink RX8 104 yX8_in ∈ gt := (tw 878 (by decide +kernel) rfl)
theorem lkX8_108 : Cond.methodLink RX8 108 yX8_isPlace ∈ gt := (tw 881 (by decide +kernel) rfl)
theorem lkX8_112 : Cond.methodLink RX8 112 yX8_keep ∈ gt := (tw 884 (by decide +kernel) rfl)
theorem lkX8_115 : Cond.methodLink RX8 115 yX8_isName ∈ gt := (tw 900 (by decide +kernel) rfl)
theorem lkX8_119 : Cond.methodLink RX8 119 yX8_isLed ∈ gt := (tw 928 (by decide +kernel) rfl)
theorem lkX8_134 : Cond.methodLink RX8 134 yX8_box ∈ gt := (tw 924 (by decide +kernel) rfl)
theorem lkX8_138 : Cond.methodLink RX8 138 yX8_covers ∈ gt := (tw 940 (by decide +kernel) rfl)
theorem lkX8_143 : Cond.methodLink RX8 143 yX8_signOf ∈ gt := (tw 964 (by decide +kernel) rfl)
theorem lkX8_147 : Cond.methodLink RX8 147 yX8_isBetween ∈ gt := (tw 970 (by decide +kernel) rfl)
theorem lkX8_151 : Cond.methodLink RX8 151 yX8_side ∈ gt := (tw 961 (by decide +kernel) rfl)
theorem lkX8_155 : Cond.methodLink RX8 155 yX8_isOn ∈ gt := (tw 967 (by decide +kernel) rfl)
theorem lkX8_174 : Cond.methodLink RX8 174 yX8_cut ∈ gt := (tw 978 (by decide +kernel) rfl)
theorem lkX8_178 : Cond.methodLink RX8 178 yX8_take ∈ gt := (tw 952 (by decide +kernel) rfl)
theorem lkX8_182 : Cond.methodLink RX8 182 yX8_linesMeet ∈ gt := (tw 957 (by decide +kernel) rfl)
theorem lkX8_186 : Cond.methodLink RX8 186 yX8_crosses ∈ gt := (tw 973 (by decide +kernel) rfl)
theorem lkX8_190 : Cond.methodLink RX8 190 yX8_ways ∈ gt := (tw 920 (by decide +kernel) rfl)
theorem lkX8_194 : Cond.methodLink RX8 194 yX8_isWay ∈ gt := (tw 916 (by decide +kernel) rfl)
theorem lkX8_197 : Cond.methodLink RX8 197 yX8_priceOf ∈ gt := (tw 932 (by decide +kernel) rfl)
theorem lkX8_201 : Cond.methodLink RX8 201 yX8_isOpen ∈ gt := (tw 936 (by decide +kernel) rfl)
theorem lkX8_204 : Cond.methodLink RX8 204 yX8_doClash ∈ gt := (tw 948 (by decide +kernel) rfl)
theorem lkX8_208 : Cond.methodLink RX8 208 yX8_findOpen ∈ gt := (tw 994 (by decide +kernel) rfl)
theorem lkX8_211 : Cond.methodLink RX8 211 yX8_touch ∈ gt := (tw 998 (by decide +kernel) rfl)
theorem lkX8_214 : Cond.methodLink RX8 214 yX8_findParts ∈ gt := (tw 990 (by decide +kernel) rfl)
theorem lkX8_218 : Cond.methodLink RX8 218 yX8_clashInHand ∈ gt := (tw 1026 (by decide +kernel) rfl)
theorem lkX8_221 : Cond.methodLink RX8 221 yX8_worthOf ∈ gt := (tw 1038 (by decide +kernel) rfl)
theorem lkX8_224 : Cond.methodLink RX8 224 yX8_worthInHand ∈ gt := (tw 1034 (by decide +kernel) rfl)
theorem lkX8_233 : Cond.methodLink RX8 233 yX8_fits ∈ gt := (tw 1058 (by decide +kernel) rfl)
theorem lkX8_236 : Cond.methodLink RX8 236 yX8_tryFrom ∈ gt := (tw 1054 (by decide +kernel) rfl)
theorem lkX8_240 : Cond.methodLink RX8 240 yX8_most ∈ gt := (tw 1046 (by decide +kernel) rfl)
theorem lkX8_243 : Cond.methodLink RX8 243 yX8_bestOf ∈ gt := (tw 1050 (by decide +kernel) rfl)
theorem lkX8_246 : Cond.methodLink RX8 246 yX8_isAhead ∈ gt := (tw 1070 (by decide +kernel) rfl)
theorem lkX8_249 : Cond.methodLink RX8 249 yX8_findOrder ∈ gt := (tw 1066 (by decide +kernel) rfl)
theorem lkX8_252 : Cond.methodLink RX8 252 yX8_isSteady ∈ gt := (tw 1090 (by decide +kernel) rfl)
theorem lkX8_255 : Cond.methodLink RX8 255 yX8_findSteady ∈ gt := (tw 1086 (by decide +kernel) rfl)
theorem lkX8_94 : Cond.methodLink RX8 94 yX8_write ∈ gt := (tw 888 (by decide +kernel) rfl)
theorem sp_1000 : (Int16.ofInt (1000)).toInt32 = (1000 : Int32) := by decide
theorem sp_200 : (Int16.ofInt (200)).toInt32 = (200 : Int32) := by decide
theorem sp_210 : (Int16.ofInt (210)).toInt32 = (210 : Int32) := by decide
theorem sp_256 : (Int16.ofInt (256)).toInt32 = (256 : Int32) := by decide
theorem sp_300 : (Int16.ofInt (300)).toInt32 = (300 : Int32) := by decide

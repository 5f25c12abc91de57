/-! THE LAW, case by case, over what a step must do (Step0 .. Step33). -/
theorem v_scr {E : EX} {own : String} {cc : ByteArray} {nL h mc ms cells slots pc : Nat} {ret : Option FieldType} {ws : va_W} {lv : List (Nat × Value)} {rest : List Value} {b L : Nat} {xs0 : Nat → Int32} {i : Int32} (C : Cx E own cc nL ret h mc ms) (hX : va_X b L xs0 (xs E) (xs E).heap) (hbl : b < (xs E).heap.size) (hbA : ¬ xA E b) (hin : vp_in i L) (hdg : decode cc pc = .ok (.iaload, 1)) (k : VV E cells slots ws (pc + 1) lv (.int (xs0 i.toNatClampNeg) :: rest)) : VV E cells slots ws pc lv (.int i :: .ref b :: rest) := fun H locs ls hP hD hS hl => va_sld C.1 C.2.1 hX hbl hbA hS hin hdg (k H locs ls hP hD hS hl)
theorem v_scl {E : EX} {own : String} {cc : ByteArray} {nL h mc ms cells slots pc : Nat} {ret : Option FieldType} {ws : va_W} {lv : List (Nat × Value)} {rest : List Value} {b L : Nat} {xs0 : Nat → Int32} (C : Cx E own cc nL ret h mc ms) (hX : va_X b L xs0 (xs E) (xs E).heap) (hbl : b < (xs E).heap.size) (hbA : ¬ xA E b) (hdg : decode cc pc = .ok (.arraylength, 1)) (k : VV E cells slots ws (pc + 1) lv (.int (nI L) :: rest)) : VV E cells slots ws pc lv (.ref b :: rest) := fun H locs ls hP hD hS hl => va_slen C.1 C.2.1 hX hbl hbA hS hdg (k H locs ls hP hD hS hl)
theorem ykw_0 : Cond.code ⟨"FirstOver", "feed", "(IIIII)I"⟩ cX10_feed 7 (some .int) ∈ WS := WS_mem 660 (by decide +kernel) rfl
theorem ykw_1 : Cond.methodLink "FirstOverLaw" 13 ⟨"FirstOver", "feed", "(IIIII)I"⟩ ∈ WS := WS_mem 657 (by decide +kernel) rfl
theorem ykw_2 : Cond.instanceMethod ⟨"FirstOver", "feed", "(IIIII)I"⟩ ∈ WS := WS_mem 658 (by decide +kernel) rfl
theorem ykw_3 : Cond.selects "FirstOver" ⟨"FirstOver", "feed", "(IIIII)I"⟩ ⟨"FirstOver", "feed", "(IIIII)I"⟩ ∈ WS := WS_mem 659 (by decide +kernel) rfl
theorem ykw_4 : Cond.initialized "FirstOver" ∈ WS := WS_mem 119 (by decide +kernel) rfl
theorem ycs_L_13 : CSV RL 13 RX10 yX10_feed cX10_feed 7 (some .int) 5 := ⟨ykw_0, ykw_1, ykw_2, ykw_3, ykw_4, ⟨rfl, by decide, by decide, by decide⟩, by decide⟩
theorem ykw_5 : Cond.code ⟨"FirstOverModel", "feed", "(IIIII)I"⟩ cX11_feed 6 (some .int) ∈ WS := WS_mem 1529 (by decide +kernel) rfl
theorem ykw_6 : Cond.methodLink "FirstOverLaw" 17 ⟨"FirstOverModel", "feed", "(IIIII)I"⟩ ∈ WS := WS_mem 1526 (by decide +kernel) rfl
theorem ykw_7 : Cond.instanceMethod ⟨"FirstOverModel", "feed", "(IIIII)I"⟩ ∈ WS := WS_mem 1527 (by decide +kernel) rfl
theorem ykw_8 : Cond.selects "FirstOverModel" ⟨"FirstOverModel", "feed", "(IIIII)I"⟩ ⟨"FirstOverModel", "feed", "(IIIII)I"⟩ ∈ WS := WS_mem 1528 (by decide +kernel) rfl
theorem ykw_9 : Cond.initialized "FirstOverModel" ∈ WS := WS_mem 134 (by decide +kernel) rfl
theorem ycs_L_17 : CSV RL 17 RX11 yX11_feed cX11_feed 6 (some .int) 5 := ⟨ykw_5, ykw_6, ykw_7, ykw_8, ykw_9, ⟨rfl, by decide, by decide, by decide⟩, by decide⟩
theorem ykw_10 : Cond.code ⟨"FirstOver", "back", "(I)I"⟩ cX10_back 2 (some .int) ∈ WS := WS_mem 668 (by decide +kernel) rfl
theorem ykw_11 : Cond.methodLink "FirstOverLaw" 18 ⟨"FirstOver", "back", "(I)I"⟩ ∈ WS := WS_mem 665 (by decide +kernel) rfl
theorem ykw_12 : Cond.instanceMethod ⟨"FirstOver", "back", "(I)I"⟩ ∈ WS := WS_mem 666 (by decide +kernel) rfl
theorem ykw_13 : Cond.selects "FirstOver" ⟨"FirstOver", "back", "(I)I"⟩ ⟨"FirstOver", "back", "(I)I"⟩ ∈ WS := WS_mem 667 (by decide +kernel) rfl
theorem ycs_L_18 : CSV RL 18 RX10 yX10_back cX10_back 2 (some .int) 1 := ⟨ykw_10, ykw_11, ykw_12, ykw_13, ykw_4, ⟨rfl, by decide, by decide, by decide⟩, by decide⟩
theorem ykw_14 : Cond.code ⟨"FirstOverModel", "back", "(I)I"⟩ cX11_back 2 (some .int) ∈ WS := WS_mem 1537 (by decide +kernel) rfl
theorem ykw_15 : Cond.methodLink "FirstOverLaw" 22 ⟨"FirstOverModel", "back", "(I)I"⟩ ∈ WS := WS_mem 1534 (by decide +kernel) rfl
theorem ykw_16 : Cond.instanceMethod ⟨"FirstOverModel", "back", "(I)I"⟩ ∈ WS := WS_mem 1535 (by decide +kernel) rfl
theorem ykw_17 : Cond.selects "FirstOverModel" ⟨"FirstOverModel", "back", "(I)I"⟩ ⟨"FirstOverModel", "back", "(I)I"⟩ ∈ WS := WS_mem 1536 (by decide +kernel) rfl
theorem ycs_L_22 : CSV RL 22 RX11 yX11_back cX11_back 2 (some .int) 1 := ⟨ykw_14, ykw_15, ykw_16, ykw_17, ykw_9, ⟨rfl, by decide, by decide, by decide⟩, by decide⟩
theorem ykw_18 : Cond.code ⟨"FirstOver", "read", "()I"⟩ cX10_read 2 (some .int) ∈ WS := WS_mem 672 (by decide +kernel) rfl
theorem ykw_19 : Cond.methodLink "FirstOverLaw" 23 ⟨"FirstOver", "read", "()I"⟩ ∈ WS := WS_mem 669 (by decide +kernel) rfl
theorem ykw_20 : Cond.instanceMethod ⟨"FirstOver", "read", "()I"⟩ ∈ WS := WS_mem 670 (by decide +kernel) rfl
theorem ykw_21 : Cond.selects "FirstOver" ⟨"FirstOver", "read", "()I"⟩ ⟨"FirstOver", "read", "()I"⟩ ∈ WS := WS_mem 671 (by decide +kernel) rfl
theorem ycs_L_23 : CSV RL 23 RX10 yX10_read cX10_read 2 (some .int) 0 := ⟨ykw_18, ykw_19, ykw_20, ykw_21, ykw_4, ⟨rfl, by decide, by decide, by decide⟩, by decide⟩
theorem ykw_22 : Cond.code ⟨"FirstOverModel", "read", "()I"⟩ cX11_read 2 (some .int) ∈ WS := WS_mem 1541 (by decide +kernel) rfl
theorem ykw_23 : Cond.methodLink "FirstOverLaw" 27 ⟨"FirstOverModel", "read", "()I"⟩ ∈ WS := WS_mem 1538 (by decide +kernel) rfl
theorem ykw_24 : Cond.instanceMethod ⟨"FirstOverModel", "read", "()I"⟩ ∈ WS := WS_mem 1539 (by decide +kernel) rfl
theorem ykw_25 : Cond.selects "FirstOverModel" ⟨"FirstOverModel", "read", "()I"⟩ ⟨"FirstOverModel", "read", "()I"⟩ ∈ WS := WS_mem 1540 (by decide +kernel) rfl
theorem ycs_L_27 : CSV RL 27 RX11 yX11_read cX11_read 2 (some .int) 0 := ⟨ykw_22, ykw_23, ykw_24, ykw_25, ykw_9, ⟨rfl, by decide, by decide, by decide⟩, by decide⟩
theorem ykw_26 : Cond.code ⟨"FirstOver", "place", "()I"⟩ cX10_place 1 (some .int) ∈ WS := WS_mem 832 (by decide +kernel) rfl
theorem ykw_27 : Cond.methodLink "FirstOverLaw" 28 ⟨"FirstOver", "place", "()I"⟩ ∈ WS := WS_mem 829 (by decide +kernel) rfl
theorem ykw_28 : Cond.instanceMethod ⟨"FirstOver", "place", "()I"⟩ ∈ WS := WS_mem 830 (by decide +kernel) rfl
theorem ykw_29 : Cond.selects "FirstOver" ⟨"FirstOver", "place", "()I"⟩ ⟨"FirstOver", "place", "()I"⟩ ∈ WS := WS_mem 831 (by decide +kernel) rfl
theorem ycs_L_28 : CSV RL 28 RX10 yX10_place cX10_place 1 (some .int) 0 := ⟨ykw_26, ykw_27, ykw_28, ykw_29, ykw_4, ⟨rfl, by decide, by decide, by decide⟩, by decide⟩
theorem ykw_30 : Cond.code ⟨"FirstOverModel", "place", "()I"⟩ cX11_place 1 (some .int) ∈ WS := WS_mem 1678 (by decide +kernel) rfl
theorem ykw_31 : Cond.methodLink "FirstOverLaw" 31 ⟨"FirstOverModel", "place", "()I"⟩ ∈ WS := WS_mem 1675 (by decide +kernel) rfl
theorem ykw_32 : Cond.instanceMethod ⟨"FirstOverModel", "place", "()I"⟩ ∈ WS := WS_mem 1676 (by decide +kernel) rfl
theorem ykw_33 : Cond.selects "FirstOverModel" ⟨"FirstOverModel", "place", "()I"⟩ ⟨"FirstOverModel", "place", "()I"⟩ ∈ WS := WS_mem 1677 (by decide +kernel) rfl
theorem ycs_L_31 : CSV RL 31 RX11 yX11_place cX11_place 1 (some .int) 0 := ⟨ykw_30, ykw_31, ykw_32, ykw_33, ykw_9, ⟨rfl, by decide, by decide, by decide⟩, by decide⟩
theorem ykw_34 : Cond.code ⟨"FirstOver", "being", "(II)I"⟩ cX10_being 3 (some .int) ∈ WS := WS_mem 836 (by decide +kernel) rfl
theorem ykw_35 : Cond.methodLink "FirstOverLaw" 32 ⟨"FirstOver", "being", "(II)I"⟩ ∈ WS := WS_mem 833 (by decide +kernel) rfl
theorem ykw_36 : Cond.instanceMethod ⟨"FirstOver", "being", "(II)I"⟩ ∈ WS := WS_mem 834 (by decide +kernel) rfl
theorem ykw_37 : Cond.selects "FirstOver" ⟨"FirstOver", "being", "(II)I"⟩ ⟨"FirstOver", "being", "(II)I"⟩ ∈ WS := WS_mem 835 (by decide +kernel) rfl
theorem ycs_L_32 : CSV RL 32 RX10 yX10_being cX10_being 3 (some .int) 2 := ⟨ykw_34, ykw_35, ykw_36, ykw_37, ykw_4, ⟨rfl, by decide, by decide, by decide⟩, by decide⟩
theorem ykw_38 : Cond.code ⟨"FirstOverModel", "being", "(II)I"⟩ cX11_being 3 (some .int) ∈ WS := WS_mem 1682 (by decide +kernel) rfl
theorem ykw_39 : Cond.methodLink "FirstOverLaw" 36 ⟨"FirstOverModel", "being", "(II)I"⟩ ∈ WS := WS_mem 1679 (by decide +kernel) rfl
theorem ykw_40 : Cond.instanceMethod ⟨"FirstOverModel", "being", "(II)I"⟩ ∈ WS := WS_mem 1680 (by decide +kernel) rfl
theorem ykw_41 : Cond.selects "FirstOverModel" ⟨"FirstOverModel", "being", "(II)I"⟩ ⟨"FirstOverModel", "being", "(II)I"⟩ ∈ WS := WS_mem 1681 (by decide +kernel) rfl
theorem ycs_L_36 : CSV RL 36 RX11 yX11_being cX11_being 3 (some .int) 2 := ⟨ykw_38, ykw_39, ykw_40, ykw_41, ykw_9, ⟨rfl, by decide, by decide, by decide⟩, by decide⟩
theorem ykw_42 : Cond.code ⟨"FirstOver", "set", "(II)I"⟩ cX10_set 3 (some .int) ∈ WS := WS_mem 844 (by decide +kernel) rfl
theorem ykw_43 : Cond.methodLink "FirstOverLaw" 37 ⟨"FirstOver", "set", "(II)I"⟩ ∈ WS := WS_mem 841 (by decide +kernel) rfl
theorem ykw_44 : Cond.instanceMethod ⟨"FirstOver", "set", "(II)I"⟩ ∈ WS := WS_mem 842 (by decide +kernel) rfl
theorem ykw_45 : Cond.selects "FirstOver" ⟨"FirstOver", "set", "(II)I"⟩ ⟨"FirstOver", "set", "(II)I"⟩ ∈ WS := WS_mem 843 (by decide +kernel) rfl
theorem ycs_L_37 : CSV RL 37 RX10 yX10_set cX10_set 3 (some .int) 2 := ⟨ykw_42, ykw_43, ykw_44, ykw_45, ykw_4, ⟨rfl, by decide, by decide, by decide⟩, by decide⟩
theorem ykw_46 : Cond.code ⟨"FirstOverModel", "set", "(II)I"⟩ cX11_set 3 (some .int) ∈ WS := WS_mem 1693 (by decide +kernel) rfl
theorem ykw_47 : Cond.methodLink "FirstOverLaw" 40 ⟨"FirstOverModel", "set", "(II)I"⟩ ∈ WS := WS_mem 1690 (by decide +kernel) rfl
theorem ykw_48 : Cond.instanceMethod ⟨"FirstOverModel", "set", "(II)I"⟩ ∈ WS := WS_mem 1691 (by decide +kernel) rfl
theorem ykw_49 : Cond.selects "FirstOverModel" ⟨"FirstOverModel", "set", "(II)I"⟩ ⟨"FirstOverModel", "set", "(II)I"⟩ ∈ WS := WS_mem 1692 (by decide +kernel) rfl
theorem ycs_L_40 : CSV RL 40 RX11 yX11_set cX11_set 3 (some .int) 2 := ⟨ykw_46, ykw_47, ykw_48, ykw_49, ykw_9, ⟨rfl, by decide, by decide, by decide⟩, by decide⟩
theorem ykw_50 : Cond.code ⟨"FirstOver", "way", "(II)I"⟩ cX10_way 3 (some .int) ∈ WS := WS_mem 856 (by decide +kernel) rfl
theorem ykw_51 : Cond.methodLink "FirstOverLaw" 41 ⟨"FirstOver", "way", "(II)I"⟩ ∈ WS := WS_mem 853 (by decide +kernel) rfl
theorem ykw_52 : Cond.instanceMethod ⟨"FirstOver", "way", "(II)I"⟩ ∈ WS := WS_mem 854 (by decide +kernel) rfl
theorem ykw_53 : Cond.selects "FirstOver" ⟨"FirstOver", "way", "(II)I"⟩ ⟨"FirstOver", "way", "(II)I"⟩ ∈ WS := WS_mem 855 (by decide +kernel) rfl
theorem ycs_L_41 : CSV RL 41 RX10 yX10_way cX10_way 3 (some .int) 2 := ⟨ykw_50, ykw_51, ykw_52, ykw_53, ykw_4, ⟨rfl, by decide, by decide, by decide⟩, by decide⟩
theorem ykw_54 : Cond.code ⟨"FirstOverModel", "way", "(II)I"⟩ cX11_way 3 (some .int) ∈ WS := WS_mem 1709 (by decide +kernel) rfl
theorem ykw_55 : Cond.methodLink "FirstOverLaw" 44 ⟨"FirstOverModel", "way", "(II)I"⟩ ∈ WS := WS_mem 1706 (by decide +kernel) rfl
theorem ykw_56 : Cond.instanceMethod ⟨"FirstOverModel", "way", "(II)I"⟩ ∈ WS := WS_mem 1707 (by decide +kernel) rfl
theorem ykw_57 : Cond.selects "FirstOverModel" ⟨"FirstOverModel", "way", "(II)I"⟩ ⟨"FirstOverModel", "way", "(II)I"⟩ ∈ WS := WS_mem 1708 (by decide +kernel) rfl
theorem ycs_L_44 : CSV RL 44 RX11 yX11_way cX11_way 3 (some .int) 2 := ⟨ykw_54, ykw_55, ykw_56, ykw_57, ykw_9, ⟨rfl, by decide, by decide, by decide⟩, by decide⟩
theorem ykw_58 : Cond.code ⟨"FirstOver", "bridge", "(II)I"⟩ cX10_bridge 3 (some .int) ∈ WS := WS_mem 860 (by decide +kernel) rfl
theorem ykw_59 : Cond.methodLink "FirstOverLaw" 45 ⟨"FirstOver", "bridge", "(II)I"⟩ ∈ WS := WS_mem 857 (by decide +kernel) rfl
theorem ykw_60 : Cond.instanceMethod ⟨"FirstOver", "bridge", "(II)I"⟩ ∈ WS := WS_mem 858 (by decide +kernel) rfl
theorem ykw_61 : Cond.selects "FirstOver" ⟨"FirstOver", "bridge", "(II)I"⟩ ⟨"FirstOver", "bridge", "(II)I"⟩ ∈ WS := WS_mem 859 (by decide +kernel) rfl
theorem ycs_L_45 : CSV RL 45 RX10 yX10_bridge cX10_bridge 3 (some .int) 2 := ⟨ykw_58, ykw_59, ykw_60, ykw_61, ykw_4, ⟨rfl, by decide, by decide, by decide⟩, by decide⟩
theorem ykw_62 : Cond.code ⟨"FirstOverModel", "bridge", "(II)I"⟩ cX11_bridge 3 (some .int) ∈ WS := WS_mem 1713 (by decide +kernel) rfl
theorem ykw_63 : Cond.methodLink "FirstOverLaw" 48 ⟨"FirstOverModel", "bridge", "(II)I"⟩ ∈ WS := WS_mem 1710 (by decide +kernel) rfl
theorem ykw_64 : Cond.instanceMethod ⟨"FirstOverModel", "bridge", "(II)I"⟩ ∈ WS := WS_mem 1711 (by decide +kernel) rfl
theorem ykw_65 : Cond.selects "FirstOverModel" ⟨"FirstOverModel", "bridge", "(II)I"⟩ ⟨"FirstOverModel", "bridge", "(II)I"⟩ ∈ WS := WS_mem 1712 (by decide +kernel) rfl
theorem ycs_L_48 : CSV RL 48 RX11 yX11_bridge cX11_bridge 3 (some .int) 2 := ⟨ykw_62, ykw_63, ykw_64, ykw_65, ykw_9, ⟨rfl, by decide, by decide, by decide⟩, by decide⟩
theorem ykw_66 : Cond.code ⟨"FirstOver", "asks", "(II)I"⟩ cX10_asks 3 (some .int) ∈ WS := WS_mem 940 (by decide +kernel) rfl
theorem ykw_67 : Cond.methodLink "FirstOverLaw" 49 ⟨"FirstOver", "asks", "(II)I"⟩ ∈ WS := WS_mem 937 (by decide +kernel) rfl
theorem ykw_68 : Cond.instanceMethod ⟨"FirstOver", "asks", "(II)I"⟩ ∈ WS := WS_mem 938 (by decide +kernel) rfl
theorem ykw_69 : Cond.selects "FirstOver" ⟨"FirstOver", "asks", "(II)I"⟩ ⟨"FirstOver", "asks", "(II)I"⟩ ∈ WS := WS_mem 939 (by decide +kernel) rfl
theorem ycs_L_49 : CSV RL 49 RX10 yX10_asks cX10_asks 3 (some .int) 2 := ⟨ykw_66, ykw_67, ykw_68, ykw_69, ykw_4, ⟨rfl, by decide, by decide, by decide⟩, by decide⟩
theorem ykw_70 : Cond.code ⟨"FirstOverModel", "asks", "(II)I"⟩ cX11_asks 3 (some .int) ∈ WS := WS_mem 1763 (by decide +kernel) rfl
theorem ykw_71 : Cond.methodLink "FirstOverLaw" 52 ⟨"FirstOverModel", "asks", "(II)I"⟩ ∈ WS := WS_mem 1760 (by decide +kernel) rfl
theorem ykw_72 : Cond.instanceMethod ⟨"FirstOverModel", "asks", "(II)I"⟩ ∈ WS := WS_mem 1761 (by decide +kernel) rfl
theorem ykw_73 : Cond.selects "FirstOverModel" ⟨"FirstOverModel", "asks", "(II)I"⟩ ⟨"FirstOverModel", "asks", "(II)I"⟩ ∈ WS := WS_mem 1762 (by decide +kernel) rfl
theorem ycs_L_52 : CSV RL 52 RX11 yX11_asks cX11_asks 3 (some .int) 2 := ⟨ykw_70, ykw_71, ykw_72, ykw_73, ykw_9, ⟨rfl, by decide, by decide, by decide⟩, by decide⟩
theorem ykw_74 : Cond.code ⟨"FirstOver", "holds", "(II)I"⟩ cX10_holds 3 (some .int) ∈ WS := WS_mem 949 (by decide +kernel) rfl
theorem ykw_75 : Cond.methodLink "FirstOverLaw" 53 ⟨"FirstOver", "holds", "(II)I"⟩ ∈ WS := WS_mem 946 (by decide +kernel) rfl
theorem ykw_76 : Cond.instanceMethod ⟨"FirstOver", "holds", "(II)I"⟩ ∈ WS := WS_mem 947 (by decide +kernel) rfl
theorem ykw_77 : Cond.selects "FirstOver" ⟨"FirstOver", "holds", "(II)I"⟩ ⟨"FirstOver", "holds", "(II)I"⟩ ∈ WS := WS_mem 948 (by decide +kernel) rfl
theorem ycs_L_53 : CSV RL 53 RX10 yX10_holds cX10_holds 3 (some .int) 2 := ⟨ykw_74, ykw_75, ykw_76, ykw_77, ykw_4, ⟨rfl, by decide, by decide, by decide⟩, by decide⟩
theorem ykw_78 : Cond.code ⟨"FirstOverModel", "holds", "(II)I"⟩ cX11_holds 3 (some .int) ∈ WS := WS_mem 1767 (by decide +kernel) rfl
theorem ykw_79 : Cond.methodLink "FirstOverLaw" 56 ⟨"FirstOverModel", "holds", "(II)I"⟩ ∈ WS := WS_mem 1764 (by decide +kernel) rfl
theorem ykw_80 : Cond.instanceMethod ⟨"FirstOverModel", "holds", "(II)I"⟩ ∈ WS := WS_mem 1765 (by decide +kernel) rfl
theorem ykw_81 : Cond.selects "FirstOverModel" ⟨"FirstOverModel", "holds", "(II)I"⟩ ⟨"FirstOverModel", "holds", "(II)I"⟩ ∈ WS := WS_mem 1766 (by decide +kernel) rfl
theorem ycs_L_56 : CSV RL 56 RX11 yX11_holds cX11_holds 3 (some .int) 2 := ⟨ykw_78, ykw_79, ykw_80, ykw_81, ykw_9, ⟨rfl, by decide, by decide, by decide⟩, by decide⟩
theorem ykw_82 : Cond.code ⟨"FirstOver", "taken", "(III)I"⟩ cX10_taken 5 (some .int) ∈ WS := WS_mem 958 (by decide +kernel) rfl
theorem ykw_83 : Cond.methodLink "FirstOverLaw" 57 ⟨"FirstOver", "taken", "(III)I"⟩ ∈ WS := WS_mem 955 (by decide +kernel) rfl
theorem ykw_84 : Cond.instanceMethod ⟨"FirstOver", "taken", "(III)I"⟩ ∈ WS := WS_mem 956 (by decide +kernel) rfl
theorem ykw_85 : Cond.selects "FirstOver" ⟨"FirstOver", "taken", "(III)I"⟩ ⟨"FirstOver", "taken", "(III)I"⟩ ∈ WS := WS_mem 957 (by decide +kernel) rfl
theorem ycs_L_57 : CSV RL 57 RX10 yX10_taken cX10_taken 5 (some .int) 3 := ⟨ykw_82, ykw_83, ykw_84, ykw_85, ykw_4, ⟨rfl, by decide, by decide, by decide⟩, by decide⟩
theorem ykw_86 : Cond.code ⟨"FirstOverModel", "taken", "(III)I"⟩ cX11_taken 5 (some .int) ∈ WS := WS_mem 1771 (by decide +kernel) rfl
theorem ykw_87 : Cond.methodLink "FirstOverLaw" 61 ⟨"FirstOverModel", "taken", "(III)I"⟩ ∈ WS := WS_mem 1768 (by decide +kernel) rfl
theorem ykw_88 : Cond.instanceMethod ⟨"FirstOverModel", "taken", "(III)I"⟩ ∈ WS := WS_mem 1769 (by decide +kernel) rfl
theorem ykw_89 : Cond.selects "FirstOverModel" ⟨"FirstOverModel", "taken", "(III)I"⟩ ⟨"FirstOverModel", "taken", "(III)I"⟩ ∈ WS := WS_mem 1770 (by decide +kernel) rfl
theorem ycs_L_61 : CSV RL 61 RX11 yX11_taken cX11_taken 5 (some .int) 3 := ⟨ykw_86, ykw_87, ykw_88, ykw_89, ykw_9, ⟨rfl, by decide, by decide, by decide⟩, by decide⟩
theorem ykw_90 : Cond.code ⟨"FirstOver", "send", "(III)I"⟩ cX10_send 5 (some .int) ∈ WS := WS_mem 970 (by decide +kernel) rfl
theorem ykw_91 : Cond.methodLink "FirstOverLaw" 62 ⟨"FirstOver", "send", "(III)I"⟩ ∈ WS := WS_mem 967 (by decide +kernel) rfl
theorem ykw_92 : Cond.instanceMethod ⟨"FirstOver", "send", "(III)I"⟩ ∈ WS := WS_mem 968 (by decide +kernel) rfl
theorem ykw_93 : Cond.selects "FirstOver" ⟨"FirstOver", "send", "(III)I"⟩ ⟨"FirstOver", "send", "(III)I"⟩ ∈ WS := WS_mem 969 (by decide +kernel) rfl
theorem ycs_L_62 : CSV RL 62 RX10 yX10_send cX10_send 5 (some .int) 3 := ⟨ykw_90, ykw_91, ykw_92, ykw_93, ykw_4, ⟨rfl, by decide, by decide, by decide⟩, by decide⟩
theorem ykw_94 : Cond.code ⟨"FirstOverModel", "send", "(III)I"⟩ cX11_send 6 (some .int) ∈ WS := WS_mem 1779 (by decide +kernel) rfl
theorem ykw_95 : Cond.methodLink "FirstOverLaw" 65 ⟨"FirstOverModel", "send", "(III)I"⟩ ∈ WS := WS_mem 1776 (by decide +kernel) rfl
theorem ykw_96 : Cond.instanceMethod ⟨"FirstOverModel", "send", "(III)I"⟩ ∈ WS := WS_mem 1777 (by decide +kernel) rfl
theorem ykw_97 : Cond.selects "FirstOverModel" ⟨"FirstOverModel", "send", "(III)I"⟩ ⟨"FirstOverModel", "send", "(III)I"⟩ ∈ WS := WS_mem 1778 (by decide +kernel) rfl
theorem ycs_L_65 : CSV RL 65 RX11 yX11_send cX11_send 6 (some .int) 3 := ⟨ykw_94, ykw_95, ykw_96, ykw_97, ykw_9, ⟨rfl, by decide, by decide, by decide⟩, by decide⟩
theorem ykw_98 : Cond.code ⟨"FirstOver", "mend", "(I)I"⟩ cX10_mend 2 (some .int) ∈ WS := WS_mem 1014 (by decide +kernel) rfl
theorem ykw_99 : Cond.methodLink "FirstOverLaw" 66 ⟨"FirstOver", "mend", "(I)I"⟩ ∈ WS := WS_mem 1011 (by decide +kernel) rfl
theorem ykw_100 : Cond.instanceMethod ⟨"FirstOver", "mend", "(I)I"⟩ ∈ WS := WS_mem 1012 (by decide +kernel) rfl
theorem ykw_101 : Cond.selects "FirstOver" ⟨"FirstOver", "mend", "(I)I"⟩ ⟨"FirstOver", "mend", "(I)I"⟩ ∈ WS := WS_mem 1013 (by decide +kernel) rfl
theorem ycs_L_66 : CSV RL 66 RX10 yX10_mend cX10_mend 2 (some .int) 1 := ⟨ykw_98, ykw_99, ykw_100, ykw_101, ykw_4, ⟨rfl, by decide, by decide, by decide⟩, by decide⟩
theorem ykw_102 : Cond.code ⟨"FirstOverModel", "mend", "(I)I"⟩ cX11_mend 2 (some .int) ∈ WS := WS_mem 1806 (by decide +kernel) rfl
theorem ykw_103 : Cond.methodLink "FirstOverLaw" 69 ⟨"FirstOverModel", "mend", "(I)I"⟩ ∈ WS := WS_mem 1803 (by decide +kernel) rfl
theorem ykw_104 : Cond.instanceMethod ⟨"FirstOverModel", "mend", "(I)I"⟩ ∈ WS := WS_mem 1804 (by decide +kernel) rfl
theorem ykw_105 : Cond.selects "FirstOverModel" ⟨"FirstOverModel", "mend", "(I)I"⟩ ⟨"FirstOverModel", "mend", "(I)I"⟩ ∈ WS := WS_mem 1805 (by decide +kernel) rfl
theorem ycs_L_69 : CSV RL 69 RX11 yX11_mend cX11_mend 2 (some .int) 1 := ⟨ykw_102, ykw_103, ykw_104, ykw_105, ykw_9, ⟨rfl, by decide, by decide, by decide⟩, by decide⟩
theorem ykw_106 : Cond.code ⟨"FirstOver", "years", "(I)I"⟩ cX10_years 2 (some .int) ∈ WS := WS_mem 1022 (by decide +kernel) rfl
theorem ykw_107 : Cond.methodLink "FirstOverLaw" 70 ⟨"FirstOver", "years", "(I)I"⟩ ∈ WS := WS_mem 1019 (by decide +kernel) rfl
theorem ykw_108 : Cond.instanceMethod ⟨"FirstOver", "years", "(I)I"⟩ ∈ WS := WS_mem 1020 (by decide +kernel) rfl
theorem ykw_109 : Cond.selects "FirstOver" ⟨"FirstOver", "years", "(I)I"⟩ ⟨"FirstOver", "years", "(I)I"⟩ ∈ WS := WS_mem 1021 (by decide +kernel) rfl
theorem ycs_L_70 : CSV RL 70 RX10 yX10_years cX10_years 2 (some .int) 1 := ⟨ykw_106, ykw_107, ykw_108, ykw_109, ykw_4, ⟨rfl, by decide, by decide, by decide⟩, by decide⟩
theorem ykw_110 : Cond.code ⟨"FirstOverModel", "years", "(I)I"⟩ cX11_years 2 (some .int) ∈ WS := WS_mem 1810 (by decide +kernel) rfl
theorem ykw_111 : Cond.methodLink "FirstOverLaw" 73 ⟨"FirstOverModel", "years", "(I)I"⟩ ∈ WS := WS_mem 1807 (by decide +kernel) rfl
theorem ykw_112 : Cond.instanceMethod ⟨"FirstOverModel", "years", "(I)I"⟩ ∈ WS := WS_mem 1808 (by decide +kernel) rfl
theorem ykw_113 : Cond.selects "FirstOverModel" ⟨"FirstOverModel", "years", "(I)I"⟩ ⟨"FirstOverModel", "years", "(I)I"⟩ ∈ WS := WS_mem 1809 (by decide +kernel) rfl
theorem ycs_L_73 : CSV RL 73 RX11 yX11_years cX11_years 2 (some .int) 1 := ⟨ykw_110, ykw_111, ykw_112, ykw_113, ykw_9, ⟨rfl, by decide, by decide, by decide⟩, by decide⟩
theorem ykw_114 : Cond.code ⟨"FirstOver", "undo", "()Z"⟩ cX10_undo 1 (some .boolean) ∈ WS := WS_mem 1046 (by decide +kernel) rfl
theorem ykw_115 : Cond.methodLink "FirstOverLaw" 74 ⟨"FirstOver", "undo", "()Z"⟩ ∈ WS := WS_mem 1043 (by decide +kernel) rfl
theorem ykw_116 : Cond.instanceMethod ⟨"FirstOver", "undo", "()Z"⟩ ∈ WS := WS_mem 1044 (by decide +kernel) rfl
theorem ykw_117 : Cond.selects "FirstOver" ⟨"FirstOver", "undo", "()Z"⟩ ⟨"FirstOver", "undo", "()Z"⟩ ∈ WS := WS_mem 1045 (by decide +kernel) rfl
theorem ycs_L_74 : CSV RL 74 RX10 yX10_undo cX10_undo 1 (some .boolean) 0 := ⟨ykw_114, ykw_115, ykw_116, ykw_117, ykw_4, ⟨rfl, by decide, by decide, by decide⟩, by decide⟩
theorem ykw_118 : Cond.code ⟨"FirstOverModel", "undo", "()Z"⟩ cX11_undo 2 (some .boolean) ∈ WS := WS_mem 1830 (by decide +kernel) rfl
theorem ykw_119 : Cond.methodLink "FirstOverLaw" 78 ⟨"FirstOverModel", "undo", "()Z"⟩ ∈ WS := WS_mem 1827 (by decide +kernel) rfl
theorem ykw_120 : Cond.instanceMethod ⟨"FirstOverModel", "undo", "()Z"⟩ ∈ WS := WS_mem 1828 (by decide +kernel) rfl
theorem ykw_121 : Cond.selects "FirstOverModel" ⟨"FirstOverModel", "undo", "()Z"⟩ ⟨"FirstOverModel", "undo", "()Z"⟩ ∈ WS := WS_mem 1829 (by decide +kernel) rfl
theorem ycs_L_78 : CSV RL 78 RX11 yX11_undo cX11_undo 2 (some .boolean) 0 := ⟨ykw_118, ykw_119, ykw_120, ykw_121, ykw_9, ⟨rfl, by decide, by decide, by decide⟩, by decide⟩
theorem ykw_122 : Cond.code ⟨"FirstOver", "cheap", "(II)I"⟩ cX10_cheap 3 (some .int) ∈ WS := WS_mem 1054 (by decide +kernel) rfl
theorem ykw_123 : Cond.methodLink "FirstOverLaw" 79 ⟨"FirstOver", "cheap", "(II)I"⟩ ∈ WS := WS_mem 1051 (by decide +kernel) rfl
theorem ykw_124 : Cond.instanceMethod ⟨"FirstOver", "cheap", "(II)I"⟩ ∈ WS := WS_mem 1052 (by decide +kernel) rfl
theorem ykw_125 : Cond.selects "FirstOver" ⟨"FirstOver", "cheap", "(II)I"⟩ ⟨"FirstOver", "cheap", "(II)I"⟩ ∈ WS := WS_mem 1053 (by decide +kernel) rfl
theorem ycs_L_79 : CSV RL 79 RX10 yX10_cheap cX10_cheap 3 (some .int) 2 := ⟨ykw_122, ykw_123, ykw_124, ykw_125, ykw_4, ⟨rfl, by decide, by decide, by decide⟩, by decide⟩
theorem ykw_126 : Cond.code ⟨"FirstOverModel", "cheap", "(II)I"⟩ cX11_cheap 9 (some .int) ∈ WS := WS_mem 1834 (by decide +kernel) rfl
theorem ykw_127 : Cond.methodLink "FirstOverLaw" 82 ⟨"FirstOverModel", "cheap", "(II)I"⟩ ∈ WS := WS_mem 1831 (by decide +kernel) rfl
theorem ykw_128 : Cond.instanceMethod ⟨"FirstOverModel", "cheap", "(II)I"⟩ ∈ WS := WS_mem 1832 (by decide +kernel) rfl
theorem ykw_129 : Cond.selects "FirstOverModel" ⟨"FirstOverModel", "cheap", "(II)I"⟩ ⟨"FirstOverModel", "cheap", "(II)I"⟩ ∈ WS := WS_mem 1833 (by decide +kernel) rfl
theorem ycs_L_82 : CSV RL 82 RX11 yX11_cheap cX11_cheap 9 (some .int) 2 := ⟨ykw_126, ykw_127, ykw_128, ykw_129, ykw_9, ⟨rfl, by decide, by decide, by decide⟩, by decide⟩
theorem ykw_130 : Cond.code ⟨"FirstOver", "cheats", "(I)I"⟩ cX10_cheats 2 (some .int) ∈ WS := WS_mem 1073 (by decide +kernel) rfl
theorem ykw_131 : Cond.methodLink "FirstOverLaw" 83 ⟨"FirstOver", "cheats", "(I)I"⟩ ∈ WS := WS_mem 1070 (by decide +kernel) rfl
theorem ykw_132 : Cond.instanceMethod ⟨"FirstOver", "cheats", "(I)I"⟩ ∈ WS := WS_mem 1071 (by decide +kernel) rfl
theorem ykw_133 : Cond.selects "FirstOver" ⟨"FirstOver", "cheats", "(I)I"⟩ ⟨"FirstOver", "cheats", "(I)I"⟩ ∈ WS := WS_mem 1072 (by decide +kernel) rfl
theorem ycs_L_83 : CSV RL 83 RX10 yX10_cheats cX10_cheats 2 (some .int) 1 := ⟨ykw_130, ykw_131, ykw_132, ykw_133, ykw_4, ⟨rfl, by decide, by decide, by decide⟩, by decide⟩
theorem ykw_134 : Cond.code ⟨"FirstOverModel", "cheats", "(I)I"⟩ cX11_cheats 2 (some .int) ∈ WS := WS_mem 1842 (by decide +kernel) rfl
theorem ykw_135 : Cond.methodLink "FirstOverLaw" 86 ⟨"FirstOverModel", "cheats", "(I)I"⟩ ∈ WS := WS_mem 1839 (by decide +kernel) rfl
theorem ykw_136 : Cond.instanceMethod ⟨"FirstOverModel", "cheats", "(I)I"⟩ ∈ WS := WS_mem 1840 (by decide +kernel) rfl
theorem ykw_137 : Cond.selects "FirstOverModel" ⟨"FirstOverModel", "cheats", "(I)I"⟩ ⟨"FirstOverModel", "cheats", "(I)I"⟩ ∈ WS := WS_mem 1841 (by decide +kernel) rfl
theorem ycs_L_86 : CSV RL 86 RX11 yX11_cheats cX11_cheats 2 (some .int) 1 := ⟨ykw_134, ykw_135, ykw_136, ykw_137, ykw_9, ⟨rfl, by decide, by decide, by decide⟩, by decide⟩
theorem ykw_138 : Cond.code ⟨"FirstOver", "all", "(II)I"⟩ cX10_all 3 (some .int) ∈ WS := WS_mem 1084 (by decide +kernel) rfl
theorem ykw_139 : Cond.methodLink "FirstOverLaw" 87 ⟨"FirstOver", "all", "(II)I"⟩ ∈ WS := WS_mem 1081 (by decide +kernel) rfl
theorem ykw_140 : Cond.instanceMethod ⟨"FirstOver", "all", "(II)I"⟩ ∈ WS := WS_mem 1082 (by decide +kernel) rfl
theorem ykw_141 : Cond.selects "FirstOver" ⟨"FirstOver", "all", "(II)I"⟩ ⟨"FirstOver", "all", "(II)I"⟩ ∈ WS := WS_mem 1083 (by decide +kernel) rfl
theorem ycs_L_87 : CSV RL 87 RX10 yX10_all cX10_all 3 (some .int) 2 := ⟨ykw_138, ykw_139, ykw_140, ykw_141, ykw_4, ⟨rfl, by decide, by decide, by decide⟩, by decide⟩
theorem ykw_142 : Cond.code ⟨"FirstOverModel", "all", "(II)I"⟩ cX11_all 5 (some .int) ∈ WS := WS_mem 1870 (by decide +kernel) rfl
theorem ykw_143 : Cond.methodLink "FirstOverLaw" 90 ⟨"FirstOverModel", "all", "(II)I"⟩ ∈ WS := WS_mem 1867 (by decide +kernel) rfl
theorem ykw_144 : Cond.instanceMethod ⟨"FirstOverModel", "all", "(II)I"⟩ ∈ WS := WS_mem 1868 (by decide +kernel) rfl
theorem ykw_145 : Cond.selects "FirstOverModel" ⟨"FirstOverModel", "all", "(II)I"⟩ ⟨"FirstOverModel", "all", "(II)I"⟩ ∈ WS := WS_mem 1869 (by decide +kernel) rfl
theorem ycs_L_90 : CSV RL 90 RX11 yX11_all cX11_all 5 (some .int) 2 := ⟨ykw_142, ykw_143, ykw_144, ykw_145, ykw_9, ⟨rfl, by decide, by decide, by decide⟩, by decide⟩
theorem ykw_146 : Cond.code ⟨"FirstOver", "bar", "(II)I"⟩ cX10_bar 4 (some .int) ∈ WS := WS_mem 1129 (by decide +kernel) rfl
theorem ykw_147 : Cond.methodLink "FirstOverLaw" 91 ⟨"FirstOver", "bar", "(II)I"⟩ ∈ WS := WS_mem 1126 (by decide +kernel) rfl
theorem ykw_148 : Cond.instanceMethod ⟨"FirstOver", "bar", "(II)I"⟩ ∈ WS := WS_mem 1127 (by decide +kernel) rfl
theorem ykw_149 : Cond.selects "FirstOver" ⟨"FirstOver", "bar", "(II)I"⟩ ⟨"FirstOver", "bar", "(II)I"⟩ ∈ WS := WS_mem 1128 (by decide +kernel) rfl
theorem ycs_L_91 : CSV RL 91 RX10 yX10_bar cX10_bar 4 (some .int) 2 := ⟨ykw_146, ykw_147, ykw_148, ykw_149, ykw_4, ⟨rfl, by decide, by decide, by decide⟩, by decide⟩
theorem ykw_150 : Cond.code ⟨"FirstOverModel", "bar", "(II)I"⟩ cX11_bar 6 (some .int) ∈ WS := WS_mem 1850 (by decide +kernel) rfl
theorem ykw_151 : Cond.methodLink "FirstOverLaw" 94 ⟨"FirstOverModel", "bar", "(II)I"⟩ ∈ WS := WS_mem 1847 (by decide +kernel) rfl
theorem ykw_152 : Cond.instanceMethod ⟨"FirstOverModel", "bar", "(II)I"⟩ ∈ WS := WS_mem 1848 (by decide +kernel) rfl
theorem ykw_153 : Cond.selects "FirstOverModel" ⟨"FirstOverModel", "bar", "(II)I"⟩ ⟨"FirstOverModel", "bar", "(II)I"⟩ ∈ WS := WS_mem 1849 (by decide +kernel) rfl
theorem ycs_L_94 : CSV RL 94 RX11 yX11_bar cX11_bar 6 (some .int) 2 := ⟨ykw_150, ykw_151, ykw_152, ykw_153, ykw_9, ⟨rfl, by decide, by decide, by decide⟩, by decide⟩
theorem ykw_154 : Cond.code ⟨"FirstOver", "shuts", "(II)I"⟩ cX10_shuts 4 (some .int) ∈ WS := WS_mem 1142 (by decide +kernel) rfl
theorem ykw_155 : Cond.methodLink "FirstOverLaw" 95 ⟨"FirstOver", "shuts", "(II)I"⟩ ∈ WS := WS_mem 1139 (by decide +kernel) rfl
theorem ykw_156 : Cond.instanceMethod ⟨"FirstOver", "shuts", "(II)I"⟩ ∈ WS := WS_mem 1140 (by decide +kernel) rfl
theorem ykw_157 : Cond.selects "FirstOver" ⟨"FirstOver", "shuts", "(II)I"⟩ ⟨"FirstOver", "shuts", "(II)I"⟩ ∈ WS := WS_mem 1141 (by decide +kernel) rfl
theorem ycs_L_95 : CSV RL 95 RX10 yX10_shuts cX10_shuts 4 (some .int) 2 := ⟨ykw_154, ykw_155, ykw_156, ykw_157, ykw_4, ⟨rfl, by decide, by decide, by decide⟩, by decide⟩
theorem ykw_158 : Cond.code ⟨"FirstOverModel", "shuts", "(II)I"⟩ cX11_shuts 5 (some .int) ∈ WS := WS_mem 1858 (by decide +kernel) rfl
theorem ykw_159 : Cond.methodLink "FirstOverLaw" 98 ⟨"FirstOverModel", "shuts", "(II)I"⟩ ∈ WS := WS_mem 1855 (by decide +kernel) rfl
theorem ykw_160 : Cond.instanceMethod ⟨"FirstOverModel", "shuts", "(II)I"⟩ ∈ WS := WS_mem 1856 (by decide +kernel) rfl
theorem ykw_161 : Cond.selects "FirstOverModel" ⟨"FirstOverModel", "shuts", "(II)I"⟩ ⟨"FirstOverModel", "shuts", "(II)I"⟩ ∈ WS := WS_mem 1857 (by decide +kernel) rfl
theorem ycs_L_98 : CSV RL 98 RX11 yX11_shuts cX11_shuts 5 (some .int) 2 := ⟨ykw_158, ykw_159, ykw_160, ykw_161, ykw_9, ⟨rfl, by decide, by decide, by decide⟩, by decide⟩
theorem ykw_162 : Cond.code ⟨"FirstOver", "stands", "(I)I"⟩ cX10_stands 3 (some .int) ∈ WS := WS_mem 1158 (by decide +kernel) rfl
theorem ykw_163 : Cond.methodLink "FirstOverLaw" 99 ⟨"FirstOver", "stands", "(I)I"⟩ ∈ WS := WS_mem 1155 (by decide +kernel) rfl
theorem ykw_164 : Cond.instanceMethod ⟨"FirstOver", "stands", "(I)I"⟩ ∈ WS := WS_mem 1156 (by decide +kernel) rfl
theorem ykw_165 : Cond.selects "FirstOver" ⟨"FirstOver", "stands", "(I)I"⟩ ⟨"FirstOver", "stands", "(I)I"⟩ ∈ WS := WS_mem 1157 (by decide +kernel) rfl
theorem ycs_L_99 : CSV RL 99 RX10 yX10_stands cX10_stands 3 (some .int) 1 := ⟨ykw_162, ykw_163, ykw_164, ykw_165, ykw_4, ⟨rfl, by decide, by decide, by decide⟩, by decide⟩
theorem ykw_166 : Cond.code ⟨"FirstOverModel", "stands", "(I)I"⟩ cX11_stands 3 (some .int) ∈ WS := WS_mem 1898 (by decide +kernel) rfl
theorem ykw_167 : Cond.methodLink "FirstOverLaw" 102 ⟨"FirstOverModel", "stands", "(I)I"⟩ ∈ WS := WS_mem 1895 (by decide +kernel) rfl
theorem ykw_168 : Cond.instanceMethod ⟨"FirstOverModel", "stands", "(I)I"⟩ ∈ WS := WS_mem 1896 (by decide +kernel) rfl
theorem ykw_169 : Cond.selects "FirstOverModel" ⟨"FirstOverModel", "stands", "(I)I"⟩ ⟨"FirstOverModel", "stands", "(I)I"⟩ ∈ WS := WS_mem 1897 (by decide +kernel) rfl
theorem ycs_L_102 : CSV RL 102 RX11 yX11_stands cX11_stands 3 (some .int) 1 := ⟨ykw_166, ykw_167, ykw_168, ykw_169, ykw_9, ⟨rfl, by decide, by decide, by decide⟩, by decide⟩
theorem ykw_170 : Cond.code ⟨"FirstOver", "mendFirst", "(I)I"⟩ cX10_mendFirst 6 (some .int) ∈ WS := WS_mem 1167 (by decide +kernel) rfl
theorem ykw_171 : Cond.methodLink "FirstOverLaw" 103 ⟨"FirstOver", "mendFirst", "(I)I"⟩ ∈ WS := WS_mem 1164 (by decide +kernel) rfl
theorem ykw_172 : Cond.instanceMethod ⟨"FirstOver", "mendFirst", "(I)I"⟩ ∈ WS := WS_mem 1165 (by decide +kernel) rfl
theorem ykw_173 : Cond.selects "FirstOver" ⟨"FirstOver", "mendFirst", "(I)I"⟩ ⟨"FirstOver", "mendFirst", "(I)I"⟩ ∈ WS := WS_mem 1166 (by decide +kernel) rfl
theorem ycs_L_103 : CSV RL 103 RX10 yX10_mendFirst cX10_mendFirst 6 (some .int) 1 := ⟨ykw_170, ykw_171, ykw_172, ykw_173, ykw_4, ⟨rfl, by decide, by decide, by decide⟩, by decide⟩
theorem ykw_174 : Cond.code ⟨"FirstOverModel", "mendFirst", "(I)I"⟩ cX11_mendFirst 8 (some .int) ∈ WS := WS_mem 1906 (by decide +kernel) rfl
theorem ykw_175 : Cond.methodLink "FirstOverLaw" 106 ⟨"FirstOverModel", "mendFirst", "(I)I"⟩ ∈ WS := WS_mem 1903 (by decide +kernel) rfl
theorem ykw_176 : Cond.instanceMethod ⟨"FirstOverModel", "mendFirst", "(I)I"⟩ ∈ WS := WS_mem 1904 (by decide +kernel) rfl
theorem ykw_177 : Cond.selects "FirstOverModel" ⟨"FirstOverModel", "mendFirst", "(I)I"⟩ ⟨"FirstOverModel", "mendFirst", "(I)I"⟩ ∈ WS := WS_mem 1905 (by decide +kernel) rfl
theorem ycs_L_106 : CSV RL 106 RX11 yX11_mendFirst cX11_mendFirst 8 (some .int) 1 := ⟨ykw_174, ykw_175, ykw_176, ykw_177, ykw_9, ⟨rfl, by decide, by decide, by decide⟩, by decide⟩
theorem ykw_178 : Cond.code ⟨"FirstOver", "alike", "(III)I"⟩ cX10_alike 6 (some .int) ∈ WS := WS_mem 1175 (by decide +kernel) rfl
theorem ykw_179 : Cond.methodLink "FirstOverLaw" 107 ⟨"FirstOver", "alike", "(III)I"⟩ ∈ WS := WS_mem 1172 (by decide +kernel) rfl
theorem ykw_180 : Cond.instanceMethod ⟨"FirstOver", "alike", "(III)I"⟩ ∈ WS := WS_mem 1173 (by decide +kernel) rfl
theorem ykw_181 : Cond.selects "FirstOver" ⟨"FirstOver", "alike", "(III)I"⟩ ⟨"FirstOver", "alike", "(III)I"⟩ ∈ WS := WS_mem 1174 (by decide +kernel) rfl
theorem ycs_L_107 : CSV RL 107 RX10 yX10_alike cX10_alike 6 (some .int) 3 := ⟨ykw_178, ykw_179, ykw_180, ykw_181, ykw_4, ⟨rfl, by decide, by decide, by decide⟩, by decide⟩
theorem ykw_182 : Cond.code ⟨"FirstOverModel", "alike", "(III)I"⟩ cX11_alike 5 (some .int) ∈ WS := WS_mem 1910 (by decide +kernel) rfl
theorem ykw_183 : Cond.methodLink "FirstOverLaw" 110 ⟨"FirstOverModel", "alike", "(III)I"⟩ ∈ WS := WS_mem 1907 (by decide +kernel) rfl
theorem ykw_184 : Cond.instanceMethod ⟨"FirstOverModel", "alike", "(III)I"⟩ ∈ WS := WS_mem 1908 (by decide +kernel) rfl
theorem ykw_185 : Cond.selects "FirstOverModel" ⟨"FirstOverModel", "alike", "(III)I"⟩ ⟨"FirstOverModel", "alike", "(III)I"⟩ ∈ WS := WS_mem 1909 (by decide +kernel) rfl
theorem ycs_L_110 : CSV RL 110 RX11 yX11_alike cX11_alike 5 (some .int) 3 := ⟨ykw_182, ykw_183, ykw_184, ykw_185, ykw_9, ⟨rfl, by decide, by decide, by decide⟩, by decide⟩
theorem ykw_186 : Cond.code ⟨"FirstOver", "stonesIn", "(II)I"⟩ cX10_stonesIn 3 (some .int) ∈ WS := WS_mem 1179 (by decide +kernel) rfl
theorem ykw_187 : Cond.methodLink "FirstOverLaw" 111 ⟨"FirstOver", "stonesIn", "(II)I"⟩ ∈ WS := WS_mem 1176 (by decide +kernel) rfl
theorem ykw_188 : Cond.instanceMethod ⟨"FirstOver", "stonesIn", "(II)I"⟩ ∈ WS := WS_mem 1177 (by decide +kernel) rfl
theorem ykw_189 : Cond.selects "FirstOver" ⟨"FirstOver", "stonesIn", "(II)I"⟩ ⟨"FirstOver", "stonesIn", "(II)I"⟩ ∈ WS := WS_mem 1178 (by decide +kernel) rfl
theorem ycs_L_111 : CSV RL 111 RX10 yX10_stonesIn cX10_stonesIn 3 (some .int) 2 := ⟨ykw_186, ykw_187, ykw_188, ykw_189, ykw_4, ⟨rfl, by decide, by decide, by decide⟩, by decide⟩
theorem ykw_190 : Cond.code ⟨"FirstOverModel", "stonesIn", "(II)I"⟩ cX11_stonesIn 3 (some .int) ∈ WS := WS_mem 1914 (by decide +kernel) rfl
theorem ykw_191 : Cond.methodLink "FirstOverLaw" 114 ⟨"FirstOverModel", "stonesIn", "(II)I"⟩ ∈ WS := WS_mem 1911 (by decide +kernel) rfl
theorem ykw_192 : Cond.instanceMethod ⟨"FirstOverModel", "stonesIn", "(II)I"⟩ ∈ WS := WS_mem 1912 (by decide +kernel) rfl
theorem ykw_193 : Cond.selects "FirstOverModel" ⟨"FirstOverModel", "stonesIn", "(II)I"⟩ ⟨"FirstOverModel", "stonesIn", "(II)I"⟩ ∈ WS := WS_mem 1913 (by decide +kernel) rfl
theorem ycs_L_114 : CSV RL 114 RX11 yX11_stonesIn cX11_stonesIn 3 (some .int) 2 := ⟨ykw_190, ykw_191, ykw_192, ykw_193, ykw_9, ⟨rfl, by decide, by decide, by decide⟩, by decide⟩
theorem ykw_194 : Cond.code ⟨"FirstOver", "openIn", "(I)I"⟩ cX10_openIn 2 (some .int) ∈ WS := WS_mem 1188 (by decide +kernel) rfl
theorem ykw_195 : Cond.methodLink "FirstOverLaw" 115 ⟨"FirstOver", "openIn", "(I)I"⟩ ∈ WS := WS_mem 1185 (by decide +kernel) rfl
theorem ykw_196 : Cond.instanceMethod ⟨"FirstOver", "openIn", "(I)I"⟩ ∈ WS := WS_mem 1186 (by decide +kernel) rfl
theorem ykw_197 : Cond.selects "FirstOver" ⟨"FirstOver", "openIn", "(I)I"⟩ ⟨"FirstOver", "openIn", "(I)I"⟩ ∈ WS := WS_mem 1187 (by decide +kernel) rfl
theorem ycs_L_115 : CSV RL 115 RX10 yX10_openIn cX10_openIn 2 (some .int) 1 := ⟨ykw_194, ykw_195, ykw_196, ykw_197, ykw_4, ⟨rfl, by decide, by decide, by decide⟩, by decide⟩
theorem ykw_198 : Cond.code ⟨"FirstOverModel", "openIn", "(I)I"⟩ cX11_openIn 2 (some .int) ∈ WS := WS_mem 1921 (by decide +kernel) rfl
theorem ykw_199 : Cond.methodLink "FirstOverLaw" 118 ⟨"FirstOverModel", "openIn", "(I)I"⟩ ∈ WS := WS_mem 1918 (by decide +kernel) rfl
theorem ykw_200 : Cond.instanceMethod ⟨"FirstOverModel", "openIn", "(I)I"⟩ ∈ WS := WS_mem 1919 (by decide +kernel) rfl
theorem ykw_201 : Cond.selects "FirstOverModel" ⟨"FirstOverModel", "openIn", "(I)I"⟩ ⟨"FirstOverModel", "openIn", "(I)I"⟩ ∈ WS := WS_mem 1920 (by decide +kernel) rfl
theorem ycs_L_118 : CSV RL 118 RX11 yX11_openIn cX11_openIn 2 (some .int) 1 := ⟨ykw_198, ykw_199, ykw_200, ykw_201, ykw_9, ⟨rfl, by decide, by decide, by decide⟩, by decide⟩
theorem ykw_202 : Cond.code ⟨"FirstOver", "year", "(III)I"⟩ cX10_year 7 (some .int) ∈ WS := WS_mem 1193 (by decide +kernel) rfl
theorem ykw_203 : Cond.methodLink "FirstOverLaw" 119 ⟨"FirstOver", "year", "(III)I"⟩ ∈ WS := WS_mem 1190 (by decide +kernel) rfl
theorem ykw_204 : Cond.instanceMethod ⟨"FirstOver", "year", "(III)I"⟩ ∈ WS := WS_mem 1191 (by decide +kernel) rfl
theorem ykw_205 : Cond.selects "FirstOver" ⟨"FirstOver", "year", "(III)I"⟩ ⟨"FirstOver", "year", "(III)I"⟩ ∈ WS := WS_mem 1192 (by decide +kernel) rfl
theorem ycs_L_119 : CSV RL 119 RX10 yX10_year cX10_year 7 (some .int) 3 := ⟨ykw_202, ykw_203, ykw_204, ykw_205, ykw_4, ⟨rfl, by decide, by decide, by decide⟩, by decide⟩
theorem ykw_206 : Cond.code ⟨"FirstOverModel", "year", "(III)I"⟩ cX11_year 6 (some .int) ∈ WS := WS_mem 1925 (by decide +kernel) rfl
theorem ykw_207 : Cond.methodLink "FirstOverLaw" 122 ⟨"FirstOverModel", "year", "(III)I"⟩ ∈ WS := WS_mem 1922 (by decide +kernel) rfl
theorem ykw_208 : Cond.instanceMethod ⟨"FirstOverModel", "year", "(III)I"⟩ ∈ WS := WS_mem 1923 (by decide +kernel) rfl
theorem ykw_209 : Cond.selects "FirstOverModel" ⟨"FirstOverModel", "year", "(III)I"⟩ ⟨"FirstOverModel", "year", "(III)I"⟩ ∈ WS := WS_mem 1924 (by decide +kernel) rfl
theorem ycs_L_122 : CSV RL 122 RX11 yX11_year cX11_year 6 (some .int) 3 := ⟨ykw_206, ykw_207, ykw_208, ykw_209, ykw_9, ⟨rfl, by decide, by decide, by decide⟩, by decide⟩
theorem ykw_210 : Cond.code ⟨"FirstOver", "tell", "(IZ)I"⟩ cX10_tell 3 (some .int) ∈ WS := WS_mem 1197 (by decide +kernel) rfl
theorem ykw_211 : Cond.methodLink "FirstOverLaw" 123 ⟨"FirstOver", "tell", "(IZ)I"⟩ ∈ WS := WS_mem 1194 (by decide +kernel) rfl
theorem ykw_212 : Cond.instanceMethod ⟨"FirstOver", "tell", "(IZ)I"⟩ ∈ WS := WS_mem 1195 (by decide +kernel) rfl
theorem ykw_213 : Cond.selects "FirstOver" ⟨"FirstOver", "tell", "(IZ)I"⟩ ⟨"FirstOver", "tell", "(IZ)I"⟩ ∈ WS := WS_mem 1196 (by decide +kernel) rfl
theorem ycs_L_123 : CSV RL 123 RX10 yX10_tell cX10_tell 3 (some .int) 2 := ⟨ykw_210, ykw_211, ykw_212, ykw_213, ykw_4, ⟨rfl, by decide, by decide, by decide⟩, by decide⟩
theorem ykw_214 : Cond.code ⟨"FirstOverModel", "tell", "(IZ)I"⟩ cX11_tell 3 (some .int) ∈ WS := WS_mem 1929 (by decide +kernel) rfl
theorem ykw_215 : Cond.methodLink "FirstOverLaw" 127 ⟨"FirstOverModel", "tell", "(IZ)I"⟩ ∈ WS := WS_mem 1926 (by decide +kernel) rfl
theorem ykw_216 : Cond.instanceMethod ⟨"FirstOverModel", "tell", "(IZ)I"⟩ ∈ WS := WS_mem 1927 (by decide +kernel) rfl
theorem ykw_217 : Cond.selects "FirstOverModel" ⟨"FirstOverModel", "tell", "(IZ)I"⟩ ⟨"FirstOverModel", "tell", "(IZ)I"⟩ ∈ WS := WS_mem 1928 (by decide +kernel) rfl
theorem ycs_L_127 : CSV RL 127 RX11 yX11_tell cX11_tell 3 (some .int) 2 := ⟨ykw_214, ykw_215, ykw_216, ykw_217, ykw_9, ⟨rfl, by decide, by decide, by decide⟩, by decide⟩
theorem ykw_218 : Cond.code ⟨"FirstOver", "forget", "()I"⟩ cX10_forget 2 (some .int) ∈ WS := WS_mem 1205 (by decide +kernel) rfl
theorem ykw_219 : Cond.methodLink "FirstOverLaw" 128 ⟨"FirstOver", "forget", "()I"⟩ ∈ WS := WS_mem 1202 (by decide +kernel) rfl
theorem ykw_220 : Cond.instanceMethod ⟨"FirstOver", "forget", "()I"⟩ ∈ WS := WS_mem 1203 (by decide +kernel) rfl
theorem ykw_221 : Cond.selects "FirstOver" ⟨"FirstOver", "forget", "()I"⟩ ⟨"FirstOver", "forget", "()I"⟩ ∈ WS := WS_mem 1204 (by decide +kernel) rfl
theorem ycs_L_128 : CSV RL 128 RX10 yX10_forget cX10_forget 2 (some .int) 0 := ⟨ykw_218, ykw_219, ykw_220, ykw_221, ykw_4, ⟨rfl, by decide, by decide, by decide⟩, by decide⟩
theorem ykw_222 : Cond.code ⟨"FirstOverModel", "forget", "()I"⟩ cX11_forget 2 (some .int) ∈ WS := WS_mem 1933 (by decide +kernel) rfl
theorem ykw_223 : Cond.methodLink "FirstOverLaw" 131 ⟨"FirstOverModel", "forget", "()I"⟩ ∈ WS := WS_mem 1930 (by decide +kernel) rfl
theorem ykw_224 : Cond.instanceMethod ⟨"FirstOverModel", "forget", "()I"⟩ ∈ WS := WS_mem 1931 (by decide +kernel) rfl
theorem ykw_225 : Cond.selects "FirstOverModel" ⟨"FirstOverModel", "forget", "()I"⟩ ⟨"FirstOverModel", "forget", "()I"⟩ ∈ WS := WS_mem 1932 (by decide +kernel) rfl
theorem ycs_L_131 : CSV RL 131 RX11 yX11_forget cX11_forget 2 (some .int) 0 := ⟨ykw_222, ykw_223, ykw_224, ykw_225, ykw_9, ⟨rfl, by decide, by decide, by decide⟩, by decide⟩
theorem ykw_226 : Cond.code ⟨"FirstOver", "went", "(II)I"⟩ cX10_went 3 (some .int) ∈ WS := WS_mem 1209 (by decide +kernel) rfl
theorem ykw_227 : Cond.methodLink "FirstOverLaw" 132 ⟨"FirstOver", "went", "(II)I"⟩ ∈ WS := WS_mem 1206 (by decide +kernel) rfl
theorem ykw_228 : Cond.instanceMethod ⟨"FirstOver", "went", "(II)I"⟩ ∈ WS := WS_mem 1207 (by decide +kernel) rfl
theorem ykw_229 : Cond.selects "FirstOver" ⟨"FirstOver", "went", "(II)I"⟩ ⟨"FirstOver", "went", "(II)I"⟩ ∈ WS := WS_mem 1208 (by decide +kernel) rfl
theorem ycs_L_132 : CSV RL 132 RX10 yX10_went cX10_went 3 (some .int) 2 := ⟨ykw_226, ykw_227, ykw_228, ykw_229, ykw_4, ⟨rfl, by decide, by decide, by decide⟩, by decide⟩
theorem ykw_230 : Cond.code ⟨"FirstOverModel", "went", "(II)I"⟩ cX11_went 5 (some .int) ∈ WS := WS_mem 1937 (by decide +kernel) rfl
theorem ykw_231 : Cond.methodLink "FirstOverLaw" 135 ⟨"FirstOverModel", "went", "(II)I"⟩ ∈ WS := WS_mem 1934 (by decide +kernel) rfl
theorem ykw_232 : Cond.instanceMethod ⟨"FirstOverModel", "went", "(II)I"⟩ ∈ WS := WS_mem 1935 (by decide +kernel) rfl
theorem ykw_233 : Cond.selects "FirstOverModel" ⟨"FirstOverModel", "went", "(II)I"⟩ ⟨"FirstOverModel", "went", "(II)I"⟩ ∈ WS := WS_mem 1936 (by decide +kernel) rfl
theorem ycs_L_135 : CSV RL 135 RX11 yX11_went cX11_went 5 (some .int) 2 := ⟨ykw_230, ykw_231, ykw_232, ykw_233, ykw_9, ⟨rfl, by decide, by decide, by decide⟩, by decide⟩
theorem ykw_234 : Cond.code ⟨"FirstOver", "sure", "(II)I"⟩ cX10_sure 3 (some .int) ∈ WS := WS_mem 1235 (by decide +kernel) rfl
theorem ykw_235 : Cond.methodLink "FirstOverLaw" 136 ⟨"FirstOver", "sure", "(II)I"⟩ ∈ WS := WS_mem 1232 (by decide +kernel) rfl
theorem ykw_236 : Cond.instanceMethod ⟨"FirstOver", "sure", "(II)I"⟩ ∈ WS := WS_mem 1233 (by decide +kernel) rfl
theorem ykw_237 : Cond.selects "FirstOver" ⟨"FirstOver", "sure", "(II)I"⟩ ⟨"FirstOver", "sure", "(II)I"⟩ ∈ WS := WS_mem 1234 (by decide +kernel) rfl
theorem ycs_L_136 : CSV RL 136 RX10 yX10_sure cX10_sure 3 (some .int) 2 := ⟨ykw_234, ykw_235, ykw_236, ykw_237, ykw_4, ⟨rfl, by decide, by decide, by decide⟩, by decide⟩
theorem ykw_238 : Cond.code ⟨"FirstOverModel", "sure", "(II)I"⟩ cX11_sure 5 (some .int) ∈ WS := WS_mem 1953 (by decide +kernel) rfl
theorem ykw_239 : Cond.methodLink "FirstOverLaw" 139 ⟨"FirstOverModel", "sure", "(II)I"⟩ ∈ WS := WS_mem 1950 (by decide +kernel) rfl
theorem ykw_240 : Cond.instanceMethod ⟨"FirstOverModel", "sure", "(II)I"⟩ ∈ WS := WS_mem 1951 (by decide +kernel) rfl
theorem ykw_241 : Cond.selects "FirstOverModel" ⟨"FirstOverModel", "sure", "(II)I"⟩ ⟨"FirstOverModel", "sure", "(II)I"⟩ ∈ WS := WS_mem 1952 (by decide +kernel) rfl
theorem ycs_L_139 : CSV RL 139 RX11 yX11_sure cX11_sure 5 (some .int) 2 := ⟨ykw_238, ykw_239, ykw_240, ykw_241, ykw_9, ⟨rfl, by decide, by decide, by decide⟩, by decide⟩
theorem ykw_242 : Cond.code ⟨"FirstOver", "ask", "(II)I"⟩ cX10_ask 3 (some .int) ∈ WS := WS_mem 1243 (by decide +kernel) rfl
theorem ykw_243 : Cond.methodLink "FirstOverLaw" 140 ⟨"FirstOver", "ask", "(II)I"⟩ ∈ WS := WS_mem 1240 (by decide +kernel) rfl
theorem ykw_244 : Cond.instanceMethod ⟨"FirstOver", "ask", "(II)I"⟩ ∈ WS := WS_mem 1241 (by decide +kernel) rfl
theorem ykw_245 : Cond.selects "FirstOver" ⟨"FirstOver", "ask", "(II)I"⟩ ⟨"FirstOver", "ask", "(II)I"⟩ ∈ WS := WS_mem 1242 (by decide +kernel) rfl
theorem ycs_L_140 : CSV RL 140 RX10 yX10_ask cX10_ask 3 (some .int) 2 := ⟨ykw_242, ykw_243, ykw_244, ykw_245, ykw_4, ⟨rfl, by decide, by decide, by decide⟩, by decide⟩
theorem ykw_246 : Cond.code ⟨"FirstOverModel", "ask", "(II)I"⟩ cX11_ask 9 (some .int) ∈ WS := WS_mem 1957 (by decide +kernel) rfl
theorem ykw_247 : Cond.methodLink "FirstOverLaw" 143 ⟨"FirstOverModel", "ask", "(II)I"⟩ ∈ WS := WS_mem 1954 (by decide +kernel) rfl
theorem ykw_248 : Cond.instanceMethod ⟨"FirstOverModel", "ask", "(II)I"⟩ ∈ WS := WS_mem 1955 (by decide +kernel) rfl
theorem ykw_249 : Cond.selects "FirstOverModel" ⟨"FirstOverModel", "ask", "(II)I"⟩ ⟨"FirstOverModel", "ask", "(II)I"⟩ ∈ WS := WS_mem 1956 (by decide +kernel) rfl
theorem ycs_L_143 : CSV RL 143 RX11 yX11_ask cX11_ask 9 (some .int) 2 := ⟨ykw_246, ykw_247, ykw_248, ykw_249, ykw_9, ⟨rfl, by decide, by decide, by decide⟩, by decide⟩
theorem ykw_250 : Cond.code ⟨"FirstOver", "hold", "(I)Z"⟩ cX10_hold 2 (some .boolean) ∈ WS := WS_mem 1252 (by decide +kernel) rfl
theorem ykw_251 : Cond.methodLink "FirstOverLaw" 144 ⟨"FirstOver", "hold", "(I)Z"⟩ ∈ WS := WS_mem 1249 (by decide +kernel) rfl
theorem ykw_252 : Cond.instanceMethod ⟨"FirstOver", "hold", "(I)Z"⟩ ∈ WS := WS_mem 1250 (by decide +kernel) rfl
theorem ykw_253 : Cond.selects "FirstOver" ⟨"FirstOver", "hold", "(I)Z"⟩ ⟨"FirstOver", "hold", "(I)Z"⟩ ∈ WS := WS_mem 1251 (by decide +kernel) rfl
theorem ycs_L_144 : CSV RL 144 RX10 yX10_hold cX10_hold 2 (some .boolean) 1 := ⟨ykw_250, ykw_251, ykw_252, ykw_253, ykw_4, ⟨rfl, by decide, by decide, by decide⟩, by decide⟩
theorem ykw_254 : Cond.code ⟨"FirstOverModel", "hold", "(I)Z"⟩ cX11_hold 3 (some .boolean) ∈ WS := WS_mem 1966 (by decide +kernel) rfl
theorem ykw_255 : Cond.methodLink "FirstOverLaw" 148 ⟨"FirstOverModel", "hold", "(I)Z"⟩ ∈ WS := WS_mem 1963 (by decide +kernel) rfl
theorem ykw_256 : Cond.instanceMethod ⟨"FirstOverModel", "hold", "(I)Z"⟩ ∈ WS := WS_mem 1964 (by decide +kernel) rfl
theorem ykw_257 : Cond.selects "FirstOverModel" ⟨"FirstOverModel", "hold", "(I)Z"⟩ ⟨"FirstOverModel", "hold", "(I)Z"⟩ ∈ WS := WS_mem 1965 (by decide +kernel) rfl
theorem ycs_L_148 : CSV RL 148 RX11 yX11_hold cX11_hold 3 (some .boolean) 1 := ⟨ykw_254, ykw_255, ykw_256, ykw_257, ykw_9, ⟨rfl, by decide, by decide, by decide⟩, by decide⟩
theorem ykw_258 : Cond.code ⟨"FirstOver", "restore", "(I)Z"⟩ cX10_restore 2 (some .boolean) ∈ WS := WS_mem 1257 (by decide +kernel) rfl
theorem ykw_259 : Cond.methodLink "FirstOverLaw" 149 ⟨"FirstOver", "restore", "(I)Z"⟩ ∈ WS := WS_mem 1254 (by decide +kernel) rfl
theorem ykw_260 : Cond.instanceMethod ⟨"FirstOver", "restore", "(I)Z"⟩ ∈ WS := WS_mem 1255 (by decide +kernel) rfl
theorem ykw_261 : Cond.selects "FirstOver" ⟨"FirstOver", "restore", "(I)Z"⟩ ⟨"FirstOver", "restore", "(I)Z"⟩ ∈ WS := WS_mem 1256 (by decide +kernel) rfl
theorem ycs_L_149 : CSV RL 149 RX10 yX10_restore cX10_restore 2 (some .boolean) 1 := ⟨ykw_258, ykw_259, ykw_260, ykw_261, ykw_4, ⟨rfl, by decide, by decide, by decide⟩, by decide⟩
theorem ykw_262 : Cond.code ⟨"FirstOverModel", "restore", "(I)Z"⟩ cX11_restore 3 (some .boolean) ∈ WS := WS_mem 1970 (by decide +kernel) rfl
theorem ykw_263 : Cond.methodLink "FirstOverLaw" 152 ⟨"FirstOverModel", "restore", "(I)Z"⟩ ∈ WS := WS_mem 1967 (by decide +kernel) rfl
theorem ykw_264 : Cond.instanceMethod ⟨"FirstOverModel", "restore", "(I)Z"⟩ ∈ WS := WS_mem 1968 (by decide +kernel) rfl
theorem ykw_265 : Cond.selects "FirstOverModel" ⟨"FirstOverModel", "restore", "(I)Z"⟩ ⟨"FirstOverModel", "restore", "(I)Z"⟩ ∈ WS := WS_mem 1969 (by decide +kernel) rfl
theorem ycs_L_152 : CSV RL 152 RX11 yX11_restore cX11_restore 3 (some .boolean) 1 := ⟨ykw_262, ykw_263, ykw_264, ykw_265, ykw_9, ⟨rfl, by decide, by decide, by decide⟩, by decide⟩
theorem ykw_266 : Cond.code ⟨"FirstOver", "count", "(I)I"⟩ cX10_count 2 (some .int) ∈ WS := WS_mem 1261 (by decide +kernel) rfl
theorem ykw_267 : Cond.methodLink "FirstOverLaw" 153 ⟨"FirstOver", "count", "(I)I"⟩ ∈ WS := WS_mem 1258 (by decide +kernel) rfl
theorem ykw_268 : Cond.instanceMethod ⟨"FirstOver", "count", "(I)I"⟩ ∈ WS := WS_mem 1259 (by decide +kernel) rfl
theorem ykw_269 : Cond.selects "FirstOver" ⟨"FirstOver", "count", "(I)I"⟩ ⟨"FirstOver", "count", "(I)I"⟩ ∈ WS := WS_mem 1260 (by decide +kernel) rfl
theorem ycs_L_153 : CSV RL 153 RX10 yX10_count cX10_count 2 (some .int) 1 := ⟨ykw_266, ykw_267, ykw_268, ykw_269, ykw_4, ⟨rfl, by decide, by decide, by decide⟩, by decide⟩
theorem ykw_270 : Cond.code ⟨"FirstOverModel", "count", "(I)I"⟩ cX11_count 2 (some .int) ∈ WS := WS_mem 1974 (by decide +kernel) rfl
theorem ykw_271 : Cond.methodLink "FirstOverLaw" 156 ⟨"FirstOverModel", "count", "(I)I"⟩ ∈ WS := WS_mem 1971 (by decide +kernel) rfl
theorem ykw_272 : Cond.instanceMethod ⟨"FirstOverModel", "count", "(I)I"⟩ ∈ WS := WS_mem 1972 (by decide +kernel) rfl
theorem ykw_273 : Cond.selects "FirstOverModel" ⟨"FirstOverModel", "count", "(I)I"⟩ ⟨"FirstOverModel", "count", "(I)I"⟩ ∈ WS := WS_mem 1973 (by decide +kernel) rfl
theorem ycs_L_156 : CSV RL 156 RX11 yX11_count cX11_count 2 (some .int) 1 := ⟨ykw_270, ykw_271, ykw_272, ykw_273, ykw_9, ⟨rfl, by decide, by decide, by decide⟩, by decide⟩
def Step0 (shx shm : Sh) (Inv : Hp → Hp → Prop) (Gx Gm : Hp) (y0 : Int32) (y1 : Int32) (y2 : Int32) (y3 : Int32) (y4 : Int32) : Prop := ∃ (r : Int32) (gx : Hp) (gm : Hp), fX10_feed shx Gx 0 y0 y1 y2 y3 y4 = some (r, gx) ∧ fX11_feed shm Gm 0 y0 y1 y2 y3 y4 = some (r, gm) ∧ Inv gx gm
set_option maxHeartbeats 4000000 in
theorem law_case_0 {E : EX} {b L : Nat} {xs0 : Nat → Int32} {shx shm : Sh} {adx adm : Nat → Nat} {Gx Gm : Hp} {cw sw : Nat} {x3 : Int32} {Inv : Hp → Hp → Prop} (C : Cx E RL cL_law 4 (some .boolean) 1000 600000 7302250) (hX : va_X b L xs0 (xs E) (xs E).heap) (hbl : b < (xs E).heap.size) (hbA : ¬ xA E b) (hx0 : shx[0]? = some (0, 10)) (hm0 : shm[0]? = some (0, 11)) (hCx : Cl shx Gx) (hCm : Cl shm Gm) (hcw : cw ≤ 600000 ∧ sw ≤ 7302250) (hi1 : vp_in (x3 + 1) L) (hi2 : vp_in (x3 + 2) L) (hi3 : vp_in (x3 + 3) L) (hi4 : vp_in (x3 + 4) L) (hi5 : vp_in (x3 + 5) L) (hst : Step0 shx shm Inv Gx Gm (xs0 (x3 + 1).toNatClampNeg) (xs0 (x3 + 2).toNatClampNeg) (xs0 (x3 + 3).toNatClampNeg) (xs0 (x3 + 4).toNatClampNeg) (xs0 (x3 + 5).toNatClampNeg)) (kn : ∀ gx gm, Inv gx gm → Cl shx gx → Cl shm gm → VV E cw sw (wq (xT E) adx gx shx ++ wq (xT E) adm gm shm) 1212 [(3, .int x3), (2, .ref (adm 0)), (1, .ref (adx 0)), (0, .ref b)] []) : VV E cw sw (wq (xT E) adx Gx shx ++ wq (xT E) adm Gm shm) 184 [(3, .int x3), (2, .ref (adm 0)), (1, .ref (adx 0)), (0, .ref b)] [] := by
  obtain ⟨r, gx, gm, hx, hm, hI⟩ := hst
  refine v_aload_n C 2 dL_law_184 rfl rfl ?_
  refine v_aload_n C 3 dL_law_185 rfl rfl ?_
  refine v_iload_n C 0 dL_law_186 rfl rfl ?_
  refine v_iconst (v := 1) C dL_law_187 (by decide) ?_
  refine v_iadd C dL_law_188 ?_
  refine v_scr C hX hbl hbA hi1 dL_law_189 ?_
  refine v_aload_n C 3 dL_law_190 rfl rfl ?_
  refine v_iload_n C 0 dL_law_191 rfl rfl ?_
  refine v_iconst (v := 2) C dL_law_192 (by decide) ?_
  refine v_iadd C dL_law_193 ?_
  refine v_scr C hX hbl hbA hi2 dL_law_194 ?_
  refine v_aload_n C 3 dL_law_195 rfl rfl ?_
  refine v_iload_n C 0 dL_law_196 rfl rfl ?_
  refine v_iconst (v := 3) C dL_law_197 (by decide) ?_
  refine v_iadd C dL_law_198 ?_
  refine v_scr C hX hbl hbA hi3 dL_law_199 ?_
  refine v_aload_n C 3 dL_law_200 rfl rfl ?_
  refine v_iload_n C 0 dL_law_201 rfl rfl ?_
  refine v_iconst (v := 4) C dL_law_202 (by decide) ?_
  refine v_iadd C dL_law_203 ?_
  refine v_scr C hX hbl hbA hi4 dL_law_204 ?_
  refine v_aload_n C 3 dL_law_205 rfl rfl ?_
  refine v_iload_n C 0 dL_law_206 rfl rfl ?_
  refine v_iconst (v := 5) C dL_law_207 (by decide) ?_
  refine v_iadd C dL_law_208 ?_
  refine v_scr C hX hbl hbA hi5 dL_law_209 ?_
  refine f_callV_l (As := [.int (xs0 (x3 + 1).toNatClampNeg), .int (xs0 (x3 + 2).toNatClampNeg), .int (xs0 (x3 + 3).toNatClampNeg), .int (xs0 (x3 + 4).toNatClampNeg), .int (xs0 (x3 + 5).toNatClampNeg)]) (rest := []) C (sX10_feed hx0 hx) ycs_L_13 (by decide) hx0 rfl hCx rfl rfl rfl (Nat.le_of_ble_eq_true rfl) hcw dL_law_210 (fun hCx => ?_)
  refine v_aload_n C 1 dL_law_213 rfl rfl ?_
  refine v_aload_n C 3 dL_law_214 rfl rfl ?_
  refine v_iload_n C 0 dL_law_215 rfl rfl ?_
  refine v_iconst (v := 1) C dL_law_216 (by decide) ?_
  refine v_iadd C dL_law_217 ?_
  refine v_scr C hX hbl hbA hi1 dL_law_218 ?_
  refine v_aload_n C 3 dL_law_219 rfl rfl ?_
  refine v_iload_n C 0 dL_law_220 rfl rfl ?_
  refine v_iconst (v := 2) C dL_law_221 (by decide) ?_
  refine v_iadd C dL_law_222 ?_
  refine v_scr C hX hbl hbA hi2 dL_law_223 ?_
  refine v_aload_n C 3 dL_law_224 rfl rfl ?_
  refine v_iload_n C 0 dL_law_225 rfl rfl ?_
  refine v_iconst (v := 3) C dL_law_226 (by decide) ?_
  refine v_iadd C dL_law_227 ?_
  refine v_scr C hX hbl hbA hi3 dL_law_228 ?_
  refine v_aload_n C 3 dL_law_229 rfl rfl ?_
  refine v_iload_n C 0 dL_law_230 rfl rfl ?_
  refine v_iconst (v := 4) C dL_law_231 (by decide) ?_
  refine v_iadd C dL_law_232 ?_
  refine v_scr C hX hbl hbA hi4 dL_law_233 ?_
  refine v_aload_n C 3 dL_law_234 rfl rfl ?_
  refine v_iload_n C 0 dL_law_235 rfl rfl ?_
  refine v_iconst (v := 5) C dL_law_236 (by decide) ?_
  refine v_iadd C dL_law_237 ?_
  refine v_scr C hX hbl hbA hi5 dL_law_238 ?_
  refine f_callV_r (As := [.int (xs0 (x3 + 1).toNatClampNeg), .int (xs0 (x3 + 2).toNatClampNeg), .int (xs0 (x3 + 3).toNatClampNeg), .int (xs0 (x3 + 4).toNatClampNeg), .int (xs0 (x3 + 5).toNatClampNeg)]) (rest := [.int r]) C (sX11_feed hm0 hm) ycs_L_17 (by decide) hm0 rfl hCm rfl rfl rfl (Nat.le_of_ble_eq_true rfl) hcw dL_law_239 (fun hCm => ?_)
  refine v_icmp_eq (tgt := 1212) C dL_law_242 (by decide) (fun _ => ?_) (fun c => absurd rfl c)
  exact kn _ _ hI hCx hCm
def Step1 (shx shm : Sh) (Inv : Hp → Hp → Prop) (Gx Gm : Hp) (y0 : Int32) : Prop := ∃ (r : Int32) (gx : Hp) (gm : Hp), fX10_back shx Gx 0 y0 = some (r, gx) ∧ fX11_back shm Gm 0 y0 = some (r, gm) ∧ Inv gx gm
set_option maxHeartbeats 4000000 in
theorem law_case_1 {E : EX} {b L : Nat} {xs0 : Nat → Int32} {shx shm : Sh} {adx adm : Nat → Nat} {Gx Gm : Hp} {cw sw : Nat} {x3 : Int32} {Inv : Hp → Hp → Prop} (C : Cx E RL cL_law 4 (some .boolean) 1000 600000 7302250) (hX : va_X b L xs0 (xs E) (xs E).heap) (hbl : b < (xs E).heap.size) (hbA : ¬ xA E b) (hx0 : shx[0]? = some (0, 10)) (hm0 : shm[0]? = some (0, 11)) (hCx : Cl shx Gx) (hCm : Cl shm Gm) (hcw : cw ≤ 600000 ∧ sw ≤ 7302250) (hi1 : vp_in (x3 + 1) L) (hst : Step1 shx shm Inv Gx Gm (xs0 (x3 + 1).toNatClampNeg)) (kn : ∀ gx gm, Inv gx gm → Cl shx gx → Cl shm gm → VV E cw sw (wq (xT E) adx gx shx ++ wq (xT E) adm gm shm) 1212 [(3, .int x3), (2, .ref (adm 0)), (1, .ref (adx 0)), (0, .ref b)] []) : VV E cw sw (wq (xT E) adx Gx shx ++ wq (xT E) adm Gm shm) 247 [(3, .int x3), (2, .ref (adm 0)), (1, .ref (adx 0)), (0, .ref b)] [] := by
  obtain ⟨r, gx, gm, hx, hm, hI⟩ := hst
  refine v_aload_n C 2 dL_law_247 rfl rfl ?_
  refine v_aload_n C 3 dL_law_248 rfl rfl ?_
  refine v_iload_n C 0 dL_law_249 rfl rfl ?_
  refine v_iconst (v := 1) C dL_law_250 (by decide) ?_
  refine v_iadd C dL_law_251 ?_
  refine v_scr C hX hbl hbA hi1 dL_law_252 ?_
  refine f_callV_l (As := [.int (xs0 (x3 + 1).toNatClampNeg)]) (rest := []) C (sX10_back hx0 hx) ycs_L_18 (by decide) hx0 rfl hCx rfl rfl rfl (Nat.le_of_ble_eq_true rfl) hcw dL_law_253 (fun hCx => ?_)
  refine v_aload_n C 1 dL_law_256 rfl rfl ?_
  refine v_aload_n C 3 dL_law_257 rfl rfl ?_
  refine v_iload_n C 0 dL_law_258 rfl rfl ?_
  refine v_iconst (v := 1) C dL_law_259 (by decide) ?_
  refine v_iadd C dL_law_260 ?_
  refine v_scr C hX hbl hbA hi1 dL_law_261 ?_
  refine f_callV_r (As := [.int (xs0 (x3 + 1).toNatClampNeg)]) (rest := [.int r]) C (sX11_back hm0 hm) ycs_L_22 (by decide) hm0 rfl hCm rfl rfl rfl (Nat.le_of_ble_eq_true rfl) hcw dL_law_262 (fun hCm => ?_)
  refine v_icmp_eq (tgt := 1212) C dL_law_265 (by decide) (fun _ => ?_) (fun c => absurd rfl c)
  exact kn _ _ hI hCx hCm
def Step2 (shx shm : Sh) (Inv : Hp → Hp → Prop) (Gx Gm : Hp)  : Prop := ∃ (r : Int32) (gx : Hp) (gm : Hp), fX10_read shx Gx 0 = some (r, gx) ∧ fX11_read shm Gm 0 = some (r, gm) ∧ Inv gx gm
set_option maxHeartbeats 4000000 in
theorem law_case_2 {E : EX} {b L : Nat} {xs0 : Nat → Int32} {shx shm : Sh} {adx adm : Nat → Nat} {Gx Gm : Hp} {cw sw : Nat} {x3 : Int32} {Inv : Hp → Hp → Prop} (C : Cx E RL cL_law 4 (some .boolean) 1000 600000 7302250) (hX : va_X b L xs0 (xs E) (xs E).heap) (hbl : b < (xs E).heap.size) (hbA : ¬ xA E b) (hx0 : shx[0]? = some (0, 10)) (hm0 : shm[0]? = some (0, 11)) (hCx : Cl shx Gx) (hCm : Cl shm Gm) (hcw : cw ≤ 600000 ∧ sw ≤ 7302250)  (hst : Step2 shx shm Inv Gx Gm ) (kn : ∀ gx gm, Inv gx gm → Cl shx gx → Cl shm gm → VV E cw sw (wq (xT E) adx gx shx ++ wq (xT E) adm gm shm) 1212 [(3, .int x3), (2, .ref (adm 0)), (1, .ref (adx 0)), (0, .ref b)] []) : VV E cw sw (wq (xT E) adx Gx shx ++ wq (xT E) adm Gm shm) 270 [(3, .int x3), (2, .ref (adm 0)), (1, .ref (adx 0)), (0, .ref b)] [] := by
  obtain ⟨r, gx, gm, hx, hm, hI⟩ := hst
  refine v_aload_n C 2 dL_law_270 rfl rfl ?_
  refine f_callV_l (As := []) (rest := []) C (sX10_read hx0 hx) ycs_L_23 (by decide) hx0 rfl hCx rfl rfl rfl (Nat.le_of_ble_eq_true rfl) hcw dL_law_271 (fun hCx => ?_)
  refine v_aload_n C 1 dL_law_274 rfl rfl ?_
  refine f_callV_r (As := []) (rest := [.int r]) C (sX11_read hm0 hm) ycs_L_27 (by decide) hm0 rfl hCm rfl rfl rfl (Nat.le_of_ble_eq_true rfl) hcw dL_law_275 (fun hCm => ?_)
  refine v_icmp_eq (tgt := 1212) C dL_law_278 (by decide) (fun _ => ?_) (fun c => absurd rfl c)
  exact kn _ _ hI hCx hCm
def Step3 (shx shm : Sh) (Inv : Hp → Hp → Prop) (Gx Gm : Hp)  : Prop := ∃ (r : Int32), fX10_place shx Gx 0 = some r ∧ fX11_place shm Gm 0 = some r ∧ Inv Gx Gm
set_option maxHeartbeats 4000000 in
theorem law_case_3 {E : EX} {b L : Nat} {xs0 : Nat → Int32} {shx shm : Sh} {adx adm : Nat → Nat} {Gx Gm : Hp} {cw sw : Nat} {x3 : Int32} {Inv : Hp → Hp → Prop} (C : Cx E RL cL_law 4 (some .boolean) 1000 600000 7302250) (hX : va_X b L xs0 (xs E) (xs E).heap) (hbl : b < (xs E).heap.size) (hbA : ¬ xA E b) (hx0 : shx[0]? = some (0, 10)) (hm0 : shm[0]? = some (0, 11)) (hCx : Cl shx Gx) (hCm : Cl shm Gm) (hcw : cw ≤ 600000 ∧ sw ≤ 7302250)  (hst : Step3 shx shm Inv Gx Gm ) (kn : ∀ gx gm, Inv gx gm → Cl shx gx → Cl shm gm → VV E cw sw (wq (xT E) adx gx shx ++ wq (xT E) adm gm shm) 1212 [(3, .int x3), (2, .ref (adm 0)), (1, .ref (adx 0)), (0, .ref b)] []) : VV E cw sw (wq (xT E) adx Gx shx ++ wq (xT E) adm Gm shm) 283 [(3, .int x3), (2, .ref (adm 0)), (1, .ref (adx 0)), (0, .ref b)] [] := by
  obtain ⟨r, hx, hm, hI⟩ := hst
  refine v_aload_n C 2 dL_law_283 rfl rfl ?_
  refine f_callV_l (As := []) (rest := []) C (sX10_place hx0 hx) ycs_L_28 (by decide) hx0 rfl hCx rfl rfl rfl (Nat.le_of_ble_eq_true rfl) hcw dL_law_284 (fun hCx => ?_)
  refine v_aload_n C 1 dL_law_287 rfl rfl ?_
  refine f_callV_r (As := []) (rest := [.int r]) C (sX11_place hm0 hm) ycs_L_31 (by decide) hm0 rfl hCm rfl rfl rfl (Nat.le_of_ble_eq_true rfl) hcw dL_law_288 (fun hCm => ?_)
  refine v_icmp_eq (tgt := 1212) C dL_law_291 (by decide) (fun _ => ?_) (fun c => absurd rfl c)
  exact kn _ _ hI hCx hCm
def Step4 (shx shm : Sh) (Inv : Hp → Hp → Prop) (Gx Gm : Hp) (y0 : Int32) (y1 : Int32) : Prop := ∃ (r : Int32), fX10_being shx Gx 0 y0 y1 = some r ∧ fX11_being shm Gm 0 y0 y1 = some r ∧ Inv Gx Gm
set_option maxHeartbeats 4000000 in
theorem law_case_4 {E : EX} {b L : Nat} {xs0 : Nat → Int32} {shx shm : Sh} {adx adm : Nat → Nat} {Gx Gm : Hp} {cw sw : Nat} {x3 : Int32} {Inv : Hp → Hp → Prop} (C : Cx E RL cL_law 4 (some .boolean) 1000 600000 7302250) (hX : va_X b L xs0 (xs E) (xs E).heap) (hbl : b < (xs E).heap.size) (hbA : ¬ xA E b) (hx0 : shx[0]? = some (0, 10)) (hm0 : shm[0]? = some (0, 11)) (hCx : Cl shx Gx) (hCm : Cl shm Gm) (hcw : cw ≤ 600000 ∧ sw ≤ 7302250) (hi1 : vp_in (x3 + 1) L) (hi2 : vp_in (x3 + 2) L) (hst : Step4 shx shm Inv Gx Gm (xs0 (x3 + 1).toNatClampNeg) (xs0 (x3 + 2).toNatClampNeg)) (kn : ∀ gx gm, Inv gx gm → Cl shx gx → Cl shm gm → VV E cw sw (wq (xT E) adx gx shx ++ wq (xT E) adm gm shm) 1212 [(3, .int x3), (2, .ref (adm 0)), (1, .ref (adx 0)), (0, .ref b)] []) : VV E cw sw (wq (xT E) adx Gx shx ++ wq (xT E) adm Gm shm) 296 [(3, .int x3), (2, .ref (adm 0)), (1, .ref (adx 0)), (0, .ref b)] [] := by
  obtain ⟨r, hx, hm, hI⟩ := hst
  refine v_aload_n C 2 dL_law_296 rfl rfl ?_
  refine v_aload_n C 3 dL_law_297 rfl rfl ?_
  refine v_iload_n C 0 dL_law_298 rfl rfl ?_
  refine v_iconst (v := 1) C dL_law_299 (by decide) ?_
  refine v_iadd C dL_law_300 ?_
  refine v_scr C hX hbl hbA hi1 dL_law_301 ?_
  refine v_aload_n C 3 dL_law_302 rfl rfl ?_
  refine v_iload_n C 0 dL_law_303 rfl rfl ?_
  refine v_iconst (v := 2) C dL_law_304 (by decide) ?_
  refine v_iadd C dL_law_305 ?_
  refine v_scr C hX hbl hbA hi2 dL_law_306 ?_
  refine f_callV_l (As := [.int (xs0 (x3 + 1).toNatClampNeg), .int (xs0 (x3 + 2).toNatClampNeg)]) (rest := []) C (sX10_being hx0 hx) ycs_L_32 (by decide) hx0 rfl hCx rfl rfl rfl (Nat.le_of_ble_eq_true rfl) hcw dL_law_307 (fun hCx => ?_)
  refine v_aload_n C 1 dL_law_310 rfl rfl ?_
  refine v_aload_n C 3 dL_law_311 rfl rfl ?_
  refine v_iload_n C 0 dL_law_312 rfl rfl ?_
  refine v_iconst (v := 1) C dL_law_313 (by decide) ?_
  refine v_iadd C dL_law_314 ?_
  refine v_scr C hX hbl hbA hi1 dL_law_315 ?_
  refine v_aload_n C 3 dL_law_316 rfl rfl ?_
  refine v_iload_n C 0 dL_law_317 rfl rfl ?_
  refine v_iconst (v := 2) C dL_law_318 (by decide) ?_
  refine v_iadd C dL_law_319 ?_
  refine v_scr C hX hbl hbA hi2 dL_law_320 ?_
  refine f_callV_r (As := [.int (xs0 (x3 + 1).toNatClampNeg), .int (xs0 (x3 + 2).toNatClampNeg)]) (rest := [.int r]) C (sX11_being hm0 hm) ycs_L_36 (by decide) hm0 rfl hCm rfl rfl rfl (Nat.le_of_ble_eq_true rfl) hcw dL_law_321 (fun hCm => ?_)
  refine v_icmp_eq (tgt := 1212) C dL_law_324 (by decide) (fun _ => ?_) (fun c => absurd rfl c)
  exact kn _ _ hI hCx hCm
def Step5 (shx shm : Sh) (Inv : Hp → Hp → Prop) (Gx Gm : Hp) (y0 : Int32) (y1 : Int32) : Prop := ∃ (r : Int32), fX10_set shx Gx 0 y0 y1 = some r ∧ fX11_set shm Gm 0 y0 y1 = some r ∧ Inv Gx Gm
set_option maxHeartbeats 4000000 in
theorem law_case_5 {E : EX} {b L : Nat} {xs0 : Nat → Int32} {shx shm : Sh} {adx adm : Nat → Nat} {Gx Gm : Hp} {cw sw : Nat} {x3 : Int32} {Inv : Hp → Hp → Prop} (C : Cx E RL cL_law 4 (some .boolean) 1000 600000 7302250) (hX : va_X b L xs0 (xs E) (xs E).heap) (hbl : b < (xs E).heap.size) (hbA : ¬ xA E b) (hx0 : shx[0]? = some (0, 10)) (hm0 : shm[0]? = some (0, 11)) (hCx : Cl shx Gx) (hCm : Cl shm Gm) (hcw : cw ≤ 600000 ∧ sw ≤ 7302250) (hi1 : vp_in (x3 + 1) L) (hi2 : vp_in (x3 + 2) L) (hst : Step5 shx shm Inv Gx Gm (xs0 (x3 + 1).toNatClampNeg) (xs0 (x3 + 2).toNatClampNeg)) (kn : ∀ gx gm, Inv gx gm → Cl shx gx → Cl shm gm → VV E cw sw (wq (xT E) adx gx shx ++ wq (xT E) adm gm shm) 1212 [(3, .int x3), (2, .ref (adm 0)), (1, .ref (adx 0)), (0, .ref b)] []) : VV E cw sw (wq (xT E) adx Gx shx ++ wq (xT E) adm Gm shm) 329 [(3, .int x3), (2, .ref (adm 0)), (1, .ref (adx 0)), (0, .ref b)] [] := by
  obtain ⟨r, hx, hm, hI⟩ := hst
  refine v_aload_n C 2 dL_law_329 rfl rfl ?_
  refine v_aload_n C 3 dL_law_330 rfl rfl ?_
  refine v_iload_n C 0 dL_law_331 rfl rfl ?_
  refine v_iconst (v := 1) C dL_law_332 (by decide) ?_
  refine v_iadd C dL_law_333 ?_
  refine v_scr C hX hbl hbA hi1 dL_law_334 ?_
  refine v_aload_n C 3 dL_law_335 rfl rfl ?_
  refine v_iload_n C 0 dL_law_336 rfl rfl ?_
  refine v_iconst (v := 2) C dL_law_337 (by decide) ?_
  refine v_iadd C dL_law_338 ?_
  refine v_scr C hX hbl hbA hi2 dL_law_339 ?_
  refine f_callV_l (As := [.int (xs0 (x3 + 1).toNatClampNeg), .int (xs0 (x3 + 2).toNatClampNeg)]) (rest := []) C (sX10_set hx0 hx) ycs_L_37 (by decide) hx0 rfl hCx rfl rfl rfl (Nat.le_of_ble_eq_true rfl) hcw dL_law_340 (fun hCx => ?_)
  refine v_aload_n C 1 dL_law_343 rfl rfl ?_
  refine v_aload_n C 3 dL_law_344 rfl rfl ?_
  refine v_iload_n C 0 dL_law_345 rfl rfl ?_
  refine v_iconst (v := 1) C dL_law_346 (by decide) ?_
  refine v_iadd C dL_law_347 ?_
  refine v_scr C hX hbl hbA hi1 dL_law_348 ?_
  refine v_aload_n C 3 dL_law_349 rfl rfl ?_
  refine v_iload_n C 0 dL_law_350 rfl rfl ?_
  refine v_iconst (v := 2) C dL_law_351 (by decide) ?_
  refine v_iadd C dL_law_352 ?_
  refine v_scr C hX hbl hbA hi2 dL_law_353 ?_
  refine f_callV_r (As := [.int (xs0 (x3 + 1).toNatClampNeg), .int (xs0 (x3 + 2).toNatClampNeg)]) (rest := [.int r]) C (sX11_set hm0 hm) ycs_L_40 (by decide) hm0 rfl hCm rfl rfl rfl (Nat.le_of_ble_eq_true rfl) hcw dL_law_354 (fun hCm => ?_)
  refine v_icmp_eq (tgt := 1212) C dL_law_357 (by decide) (fun _ => ?_) (fun c => absurd rfl c)
  exact kn _ _ hI hCx hCm
def Step6 (shx shm : Sh) (Inv : Hp → Hp → Prop) (Gx Gm : Hp) (y0 : Int32) (y1 : Int32) : Prop := ∃ (r : Int32), fX10_way shx Gx 0 y0 y1 = some r ∧ fX11_way shm Gm 0 y0 y1 = some r ∧ Inv Gx Gm
set_option maxHeartbeats 4000000 in
theorem law_case_6 {E : EX} {b L : Nat} {xs0 : Nat → Int32} {shx shm : Sh} {adx adm : Nat → Nat} {Gx Gm : Hp} {cw sw : Nat} {x3 : Int32} {Inv : Hp → Hp → Prop} (C : Cx E RL cL_law 4 (some .boolean) 1000 600000 7302250) (hX : va_X b L xs0 (xs E) (xs E).heap) (hbl : b < (xs E).heap.size) (hbA : ¬ xA E b) (hx0 : shx[0]? = some (0, 10)) (hm0 : shm[0]? = some (0, 11)) (hCx : Cl shx Gx) (hCm : Cl shm Gm) (hcw : cw ≤ 600000 ∧ sw ≤ 7302250) (hi1 : vp_in (x3 + 1) L) (hi2 : vp_in (x3 + 2) L) (hst : Step6 shx shm Inv Gx Gm (xs0 (x3 + 1).toNatClampNeg) (xs0 (x3 + 2).toNatClampNeg)) (kn : ∀ gx gm, Inv gx gm → Cl shx gx → Cl shm gm → VV E cw sw (wq (xT E) adx gx shx ++ wq (xT E) adm gm shm) 1212 [(3, .int x3), (2, .ref (adm 0)), (1, .ref (adx 0)), (0, .ref b)] []) : VV E cw sw (wq (xT E) adx Gx shx ++ wq (xT E) adm Gm shm) 362 [(3, .int x3), (2, .ref (adm 0)), (1, .ref (adx 0)), (0, .ref b)] [] := by
  obtain ⟨r, hx, hm, hI⟩ := hst
  refine v_aload_n C 2 dL_law_362 rfl rfl ?_
  refine v_aload_n C 3 dL_law_363 rfl rfl ?_
  refine v_iload_n C 0 dL_law_364 rfl rfl ?_
  refine v_iconst (v := 1) C dL_law_365 (by decide) ?_
  refine v_iadd C dL_law_366 ?_
  refine v_scr C hX hbl hbA hi1 dL_law_367 ?_
  refine v_aload_n C 3 dL_law_368 rfl rfl ?_
  refine v_iload_n C 0 dL_law_369 rfl rfl ?_
  refine v_iconst (v := 2) C dL_law_370 (by decide) ?_
  refine v_iadd C dL_law_371 ?_
  refine v_scr C hX hbl hbA hi2 dL_law_372 ?_
  refine f_callV_l (As := [.int (xs0 (x3 + 1).toNatClampNeg), .int (xs0 (x3 + 2).toNatClampNeg)]) (rest := []) C (sX10_way hx0 hx) ycs_L_41 (by decide) hx0 rfl hCx rfl rfl rfl (Nat.le_of_ble_eq_true rfl) hcw dL_law_373 (fun hCx => ?_)
  refine v_aload_n C 1 dL_law_376 rfl rfl ?_
  refine v_aload_n C 3 dL_law_377 rfl rfl ?_
  refine v_iload_n C 0 dL_law_378 rfl rfl ?_
  refine v_iconst (v := 1) C dL_law_379 (by decide) ?_
  refine v_iadd C dL_law_380 ?_
  refine v_scr C hX hbl hbA hi1 dL_law_381 ?_
  refine v_aload_n C 3 dL_law_382 rfl rfl ?_
  refine v_iload_n C 0 dL_law_383 rfl rfl ?_
  refine v_iconst (v := 2) C dL_law_384 (by decide) ?_
  refine v_iadd C dL_law_385 ?_
  refine v_scr C hX hbl hbA hi2 dL_law_386 ?_
  refine f_callV_r (As := [.int (xs0 (x3 + 1).toNatClampNeg), .int (xs0 (x3 + 2).toNatClampNeg)]) (rest := [.int r]) C (sX11_way hm0 hm) ycs_L_44 (by decide) hm0 rfl hCm rfl rfl rfl (Nat.le_of_ble_eq_true rfl) hcw dL_law_387 (fun hCm => ?_)
  refine v_icmp_eq (tgt := 1212) C dL_law_390 (by decide) (fun _ => ?_) (fun c => absurd rfl c)
  exact kn _ _ hI hCx hCm
def Step7 (shx shm : Sh) (Inv : Hp → Hp → Prop) (Gx Gm : Hp) (y0 : Int32) (y1 : Int32) : Prop := ∃ (r : Int32) (gx : Hp) (gm : Hp), fX10_bridge shx Gx 0 y0 y1 = some (r, gx) ∧ fX11_bridge shm Gm 0 y0 y1 = some (r, gm) ∧ Inv gx gm
set_option maxHeartbeats 4000000 in
theorem law_case_7 {E : EX} {b L : Nat} {xs0 : Nat → Int32} {shx shm : Sh} {adx adm : Nat → Nat} {Gx Gm : Hp} {cw sw : Nat} {x3 : Int32} {Inv : Hp → Hp → Prop} (C : Cx E RL cL_law 4 (some .boolean) 1000 600000 7302250) (hX : va_X b L xs0 (xs E) (xs E).heap) (hbl : b < (xs E).heap.size) (hbA : ¬ xA E b) (hx0 : shx[0]? = some (0, 10)) (hm0 : shm[0]? = some (0, 11)) (hCx : Cl shx Gx) (hCm : Cl shm Gm) (hcw : cw ≤ 600000 ∧ sw ≤ 7302250) (hi1 : vp_in (x3 + 1) L) (hi2 : vp_in (x3 + 2) L) (hst : Step7 shx shm Inv Gx Gm (xs0 (x3 + 1).toNatClampNeg) (xs0 (x3 + 2).toNatClampNeg)) (kn : ∀ gx gm, Inv gx gm → Cl shx gx → Cl shm gm → VV E cw sw (wq (xT E) adx gx shx ++ wq (xT E) adm gm shm) 1212 [(3, .int x3), (2, .ref (adm 0)), (1, .ref (adx 0)), (0, .ref b)] []) : VV E cw sw (wq (xT E) adx Gx shx ++ wq (xT E) adm Gm shm) 395 [(3, .int x3), (2, .ref (adm 0)), (1, .ref (adx 0)), (0, .ref b)] [] := by
  obtain ⟨r, gx, gm, hx, hm, hI⟩ := hst
  refine v_aload_n C 2 dL_law_395 rfl rfl ?_
  refine v_aload_n C 3 dL_law_396 rfl rfl ?_
  refine v_iload_n C 0 dL_law_397 rfl rfl ?_
  refine v_iconst (v := 1) C dL_law_398 (by decide) ?_
  refine v_iadd C dL_law_399 ?_
  refine v_scr C hX hbl hbA hi1 dL_law_400 ?_
  refine v_aload_n C 3 dL_law_401 rfl rfl ?_
  refine v_iload_n C 0 dL_law_402 rfl rfl ?_
  refine v_iconst (v := 2) C dL_law_403 (by decide) ?_
  refine v_iadd C dL_law_404 ?_
  refine v_scr C hX hbl hbA hi2 dL_law_405 ?_
  refine f_callV_l (As := [.int (xs0 (x3 + 1).toNatClampNeg), .int (xs0 (x3 + 2).toNatClampNeg)]) (rest := []) C (sX10_bridge hx0 hx) ycs_L_45 (by decide) hx0 rfl hCx rfl rfl rfl (Nat.le_of_ble_eq_true rfl) hcw dL_law_406 (fun hCx => ?_)
  refine v_aload_n C 1 dL_law_409 rfl rfl ?_
  refine v_aload_n C 3 dL_law_410 rfl rfl ?_
  refine v_iload_n C 0 dL_law_411 rfl rfl ?_
  refine v_iconst (v := 1) C dL_law_412 (by decide) ?_
  refine v_iadd C dL_law_413 ?_
  refine v_scr C hX hbl hbA hi1 dL_law_414 ?_
  refine v_aload_n C 3 dL_law_415 rfl rfl ?_
  refine v_iload_n C 0 dL_law_416 rfl rfl ?_
  refine v_iconst (v := 2) C dL_law_417 (by decide) ?_
  refine v_iadd C dL_law_418 ?_
  refine v_scr C hX hbl hbA hi2 dL_law_419 ?_
  refine f_callV_r (As := [.int (xs0 (x3 + 1).toNatClampNeg), .int (xs0 (x3 + 2).toNatClampNeg)]) (rest := [.int r]) C (sX11_bridge hm0 hm) ycs_L_48 (by decide) hm0 rfl hCm rfl rfl rfl (Nat.le_of_ble_eq_true rfl) hcw dL_law_420 (fun hCm => ?_)
  refine v_icmp_eq (tgt := 1212) C dL_law_423 (by decide) (fun _ => ?_) (fun c => absurd rfl c)
  exact kn _ _ hI hCx hCm
def Step8 (shx shm : Sh) (Inv : Hp → Hp → Prop) (Gx Gm : Hp) (y0 : Int32) (y1 : Int32) : Prop := ∃ (r : Int32) (gx : Hp) (gm : Hp), fX10_asks shx Gx 0 y0 y1 = some (r, gx) ∧ fX11_asks shm Gm 0 y0 y1 = some (r, gm) ∧ Inv gx gm
set_option maxHeartbeats 4000000 in
theorem law_case_8 {E : EX} {b L : Nat} {xs0 : Nat → Int32} {shx shm : Sh} {adx adm : Nat → Nat} {Gx Gm : Hp} {cw sw : Nat} {x3 : Int32} {Inv : Hp → Hp → Prop} (C : Cx E RL cL_law 4 (some .boolean) 1000 600000 7302250) (hX : va_X b L xs0 (xs E) (xs E).heap) (hbl : b < (xs E).heap.size) (hbA : ¬ xA E b) (hx0 : shx[0]? = some (0, 10)) (hm0 : shm[0]? = some (0, 11)) (hCx : Cl shx Gx) (hCm : Cl shm Gm) (hcw : cw ≤ 600000 ∧ sw ≤ 7302250) (hi1 : vp_in (x3 + 1) L) (hi2 : vp_in (x3 + 2) L) (hst : Step8 shx shm Inv Gx Gm (xs0 (x3 + 1).toNatClampNeg) (xs0 (x3 + 2).toNatClampNeg)) (kn : ∀ gx gm, Inv gx gm → Cl shx gx → Cl shm gm → VV E cw sw (wq (xT E) adx gx shx ++ wq (xT E) adm gm shm) 1212 [(3, .int x3), (2, .ref (adm 0)), (1, .ref (adx 0)), (0, .ref b)] []) : VV E cw sw (wq (xT E) adx Gx shx ++ wq (xT E) adm Gm shm) 428 [(3, .int x3), (2, .ref (adm 0)), (1, .ref (adx 0)), (0, .ref b)] [] := by
  obtain ⟨r, gx, gm, hx, hm, hI⟩ := hst
  refine v_aload_n C 2 dL_law_428 rfl rfl ?_
  refine v_aload_n C 3 dL_law_429 rfl rfl ?_
  refine v_iload_n C 0 dL_law_430 rfl rfl ?_
  refine v_iconst (v := 1) C dL_law_431 (by decide) ?_
  refine v_iadd C dL_law_432 ?_
  refine v_scr C hX hbl hbA hi1 dL_law_433 ?_
  refine v_aload_n C 3 dL_law_434 rfl rfl ?_
  refine v_iload_n C 0 dL_law_435 rfl rfl ?_
  refine v_iconst (v := 2) C dL_law_436 (by decide) ?_
  refine v_iadd C dL_law_437 ?_
  refine v_scr C hX hbl hbA hi2 dL_law_438 ?_
  refine f_callV_l (As := [.int (xs0 (x3 + 1).toNatClampNeg), .int (xs0 (x3 + 2).toNatClampNeg)]) (rest := []) C (sX10_asks hx0 hx) ycs_L_49 (by decide) hx0 rfl hCx rfl rfl rfl (Nat.le_of_ble_eq_true rfl) hcw dL_law_439 (fun hCx => ?_)
  refine v_aload_n C 1 dL_law_442 rfl rfl ?_
  refine v_aload_n C 3 dL_law_443 rfl rfl ?_
  refine v_iload_n C 0 dL_law_444 rfl rfl ?_
  refine v_iconst (v := 1) C dL_law_445 (by decide) ?_
  refine v_iadd C dL_law_446 ?_
  refine v_scr C hX hbl hbA hi1 dL_law_447 ?_
  refine v_aload_n C 3 dL_law_448 rfl rfl ?_
  refine v_iload_n C 0 dL_law_449 rfl rfl ?_
  refine v_iconst (v := 2) C dL_law_450 (by decide) ?_
  refine v_iadd C dL_law_451 ?_
  refine v_scr C hX hbl hbA hi2 dL_law_452 ?_
  refine f_callV_r (As := [.int (xs0 (x3 + 1).toNatClampNeg), .int (xs0 (x3 + 2).toNatClampNeg)]) (rest := [.int r]) C (sX11_asks hm0 hm) ycs_L_52 (by decide) hm0 rfl hCm rfl rfl rfl (Nat.le_of_ble_eq_true rfl) hcw dL_law_453 (fun hCm => ?_)
  refine v_icmp_eq (tgt := 1212) C dL_law_456 (by decide) (fun _ => ?_) (fun c => absurd rfl c)
  exact kn _ _ hI hCx hCm
def Step9 (shx shm : Sh) (Inv : Hp → Hp → Prop) (Gx Gm : Hp) (y0 : Int32) (y1 : Int32) : Prop := ∃ (r : Int32) (gm : Hp), fX10_holds shx Gx 0 y0 y1 = some r ∧ fX11_holds shm Gm 0 y0 y1 = some (r, gm) ∧ Inv Gx gm
set_option maxHeartbeats 4000000 in
theorem law_case_9 {E : EX} {b L : Nat} {xs0 : Nat → Int32} {shx shm : Sh} {adx adm : Nat → Nat} {Gx Gm : Hp} {cw sw : Nat} {x3 : Int32} {Inv : Hp → Hp → Prop} (C : Cx E RL cL_law 4 (some .boolean) 1000 600000 7302250) (hX : va_X b L xs0 (xs E) (xs E).heap) (hbl : b < (xs E).heap.size) (hbA : ¬ xA E b) (hx0 : shx[0]? = some (0, 10)) (hm0 : shm[0]? = some (0, 11)) (hCx : Cl shx Gx) (hCm : Cl shm Gm) (hcw : cw ≤ 600000 ∧ sw ≤ 7302250) (hi1 : vp_in (x3 + 1) L) (hi2 : vp_in (x3 + 2) L) (hst : Step9 shx shm Inv Gx Gm (xs0 (x3 + 1).toNatClampNeg) (xs0 (x3 + 2).toNatClampNeg)) (kn : ∀ gx gm, Inv gx gm → Cl shx gx → Cl shm gm → VV E cw sw (wq (xT E) adx gx shx ++ wq (xT E) adm gm shm) 1212 [(3, .int x3), (2, .ref (adm 0)), (1, .ref (adx 0)), (0, .ref b)] []) : VV E cw sw (wq (xT E) adx Gx shx ++ wq (xT E) adm Gm shm) 461 [(3, .int x3), (2, .ref (adm 0)), (1, .ref (adx 0)), (0, .ref b)] [] := by
  obtain ⟨r, gm, hx, hm, hI⟩ := hst
  refine v_aload_n C 2 dL_law_461 rfl rfl ?_
  refine v_aload_n C 3 dL_law_462 rfl rfl ?_
  refine v_iload_n C 0 dL_law_463 rfl rfl ?_
  refine v_iconst (v := 1) C dL_law_464 (by decide) ?_
  refine v_iadd C dL_law_465 ?_
  refine v_scr C hX hbl hbA hi1 dL_law_466 ?_
  refine v_aload_n C 3 dL_law_467 rfl rfl ?_
  refine v_iload_n C 0 dL_law_468 rfl rfl ?_
  refine v_iconst (v := 2) C dL_law_469 (by decide) ?_
  refine v_iadd C dL_law_470 ?_
  refine v_scr C hX hbl hbA hi2 dL_law_471 ?_
  refine f_callV_l (As := [.int (xs0 (x3 + 1).toNatClampNeg), .int (xs0 (x3 + 2).toNatClampNeg)]) (rest := []) C (sX10_holds hx0 hx) ycs_L_53 (by decide) hx0 rfl hCx rfl rfl rfl (Nat.le_of_ble_eq_true rfl) hcw dL_law_472 (fun hCx => ?_)
  refine v_aload_n C 1 dL_law_475 rfl rfl ?_
  refine v_aload_n C 3 dL_law_476 rfl rfl ?_
  refine v_iload_n C 0 dL_law_477 rfl rfl ?_
  refine v_iconst (v := 1) C dL_law_478 (by decide) ?_
  refine v_iadd C dL_law_479 ?_
  refine v_scr C hX hbl hbA hi1 dL_law_480 ?_
  refine v_aload_n C 3 dL_law_481 rfl rfl ?_
  refine v_iload_n C 0 dL_law_482 rfl rfl ?_
  refine v_iconst (v := 2) C dL_law_483 (by decide) ?_
  refine v_iadd C dL_law_484 ?_
  refine v_scr C hX hbl hbA hi2 dL_law_485 ?_
  refine f_callV_r (As := [.int (xs0 (x3 + 1).toNatClampNeg), .int (xs0 (x3 + 2).toNatClampNeg)]) (rest := [.int r]) C (sX11_holds hm0 hm) ycs_L_56 (by decide) hm0 rfl hCm rfl rfl rfl (Nat.le_of_ble_eq_true rfl) hcw dL_law_486 (fun hCm => ?_)
  refine v_icmp_eq (tgt := 1212) C dL_law_489 (by decide) (fun _ => ?_) (fun c => absurd rfl c)
  exact kn _ _ hI hCx hCm
def Step10 (shx shm : Sh) (Inv : Hp → Hp → Prop) (Gx Gm : Hp) (y0 : Int32) (y1 : Int32) (y2 : Int32) : Prop := ∃ (r : Int32) (gm : Hp), fX10_taken shx Gx 0 y0 y1 y2 = some r ∧ fX11_taken shm Gm 0 y0 y1 y2 = some (r, gm) ∧ Inv Gx gm
set_option maxHeartbeats 4000000 in
theorem law_case_10 {E : EX} {b L : Nat} {xs0 : Nat → Int32} {shx shm : Sh} {adx adm : Nat → Nat} {Gx Gm : Hp} {cw sw : Nat} {x3 : Int32} {Inv : Hp → Hp → Prop} (C : Cx E RL cL_law 4 (some .boolean) 1000 600000 7302250) (hX : va_X b L xs0 (xs E) (xs E).heap) (hbl : b < (xs E).heap.size) (hbA : ¬ xA E b) (hx0 : shx[0]? = some (0, 10)) (hm0 : shm[0]? = some (0, 11)) (hCx : Cl shx Gx) (hCm : Cl shm Gm) (hcw : cw ≤ 600000 ∧ sw ≤ 7302250) (hi1 : vp_in (x3 + 1) L) (hi2 : vp_in (x3 + 2) L) (hi3 : vp_in (x3 + 3) L) (hst : Step10 shx shm Inv Gx Gm (xs0 (x3 + 1).toNatClampNeg) (xs0 (x3 + 2).toNatClampNeg) (xs0 (x3 + 3).toNatClampNeg)) (kn : ∀ gx gm, Inv gx gm → Cl shx gx → Cl shm gm → VV E cw sw (wq (xT E) adx gx shx ++ wq (xT E) adm gm shm) 1212 [(3, .int x3), (2, .ref (adm 0)), (1, .ref (adx 0)), (0, .ref b)] []) : VV E cw sw (wq (xT E) adx Gx shx ++ wq (xT E) adm Gm shm) 494 [(3, .int x3), (2, .ref (adm 0)), (1, .ref (adx 0)), (0, .ref b)] [] := by
  obtain ⟨r, gm, hx, hm, hI⟩ := hst
  refine v_aload_n C 2 dL_law_494 rfl rfl ?_
  refine v_aload_n C 3 dL_law_495 rfl rfl ?_
  refine v_iload_n C 0 dL_law_496 rfl rfl ?_
  refine v_iconst (v := 1) C dL_law_497 (by decide) ?_
  refine v_iadd C dL_law_498 ?_
  refine v_scr C hX hbl hbA hi1 dL_law_499 ?_
  refine v_aload_n C 3 dL_law_500 rfl rfl ?_
  refine v_iload_n C 0 dL_law_501 rfl rfl ?_
  refine v_iconst (v := 2) C dL_law_502 (by decide) ?_
  refine v_iadd C dL_law_503 ?_
  refine v_scr C hX hbl hbA hi2 dL_law_504 ?_
  refine v_aload_n C 3 dL_law_505 rfl rfl ?_
  refine v_iload_n C 0 dL_law_506 rfl rfl ?_
  refine v_iconst (v := 3) C dL_law_507 (by decide) ?_
  refine v_iadd C dL_law_508 ?_
  refine v_scr C hX hbl hbA hi3 dL_law_509 ?_
  refine f_callV_l (As := [.int (xs0 (x3 + 1).toNatClampNeg), .int (xs0 (x3 + 2).toNatClampNeg), .int (xs0 (x3 + 3).toNatClampNeg)]) (rest := []) C (sX10_taken hx0 hx) ycs_L_57 (by decide) hx0 rfl hCx rfl rfl rfl (Nat.le_of_ble_eq_true rfl) hcw dL_law_510 (fun hCx => ?_)
  refine v_aload_n C 1 dL_law_513 rfl rfl ?_
  refine v_aload_n C 3 dL_law_514 rfl rfl ?_
  refine v_iload_n C 0 dL_law_515 rfl rfl ?_
  refine v_iconst (v := 1) C dL_law_516 (by decide) ?_
  refine v_iadd C dL_law_517 ?_
  refine v_scr C hX hbl hbA hi1 dL_law_518 ?_
  refine v_aload_n C 3 dL_law_519 rfl rfl ?_
  refine v_iload_n C 0 dL_law_520 rfl rfl ?_
  refine v_iconst (v := 2) C dL_law_521 (by decide) ?_
  refine v_iadd C dL_law_522 ?_
  refine v_scr C hX hbl hbA hi2 dL_law_523 ?_
  refine v_aload_n C 3 dL_law_524 rfl rfl ?_
  refine v_iload_n C 0 dL_law_525 rfl rfl ?_
  refine v_iconst (v := 3) C dL_law_526 (by decide) ?_
  refine v_iadd C dL_law_527 ?_
  refine v_scr C hX hbl hbA hi3 dL_law_528 ?_
  refine f_callV_r (As := [.int (xs0 (x3 + 1).toNatClampNeg), .int (xs0 (x3 + 2).toNatClampNeg), .int (xs0 (x3 + 3).toNatClampNeg)]) (rest := [.int r]) C (sX11_taken hm0 hm) ycs_L_61 (by decide) hm0 rfl hCm rfl rfl rfl (Nat.le_of_ble_eq_true rfl) hcw dL_law_529 (fun hCm => ?_)
  refine v_icmp_eq (tgt := 1212) C dL_law_532 (by decide) (fun _ => ?_) (fun c => absurd rfl c)
  exact kn _ _ hI hCx hCm
def Step11 (shx shm : Sh) (Inv : Hp → Hp → Prop) (Gx Gm : Hp) (y0 : Int32) (y1 : Int32) (y2 : Int32) : Prop := ∃ (r : Int32) (gx : Hp) (gm : Hp), fX10_send shx Gx 0 y0 y1 y2 = some (r, gx) ∧ fX11_send shm Gm 0 y0 y1 y2 = some (r, gm) ∧ Inv gx gm
set_option maxHeartbeats 4000000 in
theorem law_case_11 {E : EX} {b L : Nat} {xs0 : Nat → Int32} {shx shm : Sh} {adx adm : Nat → Nat} {Gx Gm : Hp} {cw sw : Nat} {x3 : Int32} {Inv : Hp → Hp → Prop} (C : Cx E RL cL_law 4 (some .boolean) 1000 600000 7302250) (hX : va_X b L xs0 (xs E) (xs E).heap) (hbl : b < (xs E).heap.size) (hbA : ¬ xA E b) (hx0 : shx[0]? = some (0, 10)) (hm0 : shm[0]? = some (0, 11)) (hCx : Cl shx Gx) (hCm : Cl shm Gm) (hcw : cw ≤ 600000 ∧ sw ≤ 7302250) (hi1 : vp_in (x3 + 1) L) (hi2 : vp_in (x3 + 2) L) (hi3 : vp_in (x3 + 3) L) (hst : Step11 shx shm Inv Gx Gm (xs0 (x3 + 1).toNatClampNeg) (xs0 (x3 + 2).toNatClampNeg) (xs0 (x3 + 3).toNatClampNeg)) (kn : ∀ gx gm, Inv gx gm → Cl shx gx → Cl shm gm → VV E cw sw (wq (xT E) adx gx shx ++ wq (xT E) adm gm shm) 1212 [(3, .int x3), (2, .ref (adm 0)), (1, .ref (adx 0)), (0, .ref b)] []) : VV E cw sw (wq (xT E) adx Gx shx ++ wq (xT E) adm Gm shm) 537 [(3, .int x3), (2, .ref (adm 0)), (1, .ref (adx 0)), (0, .ref b)] [] := by
  obtain ⟨r, gx, gm, hx, hm, hI⟩ := hst
  refine v_aload_n C 2 dL_law_537 rfl rfl ?_
  refine v_aload_n C 3 dL_law_538 rfl rfl ?_
  refine v_iload_n C 0 dL_law_539 rfl rfl ?_
  refine v_iconst (v := 1) C dL_law_540 (by decide) ?_
  refine v_iadd C dL_law_541 ?_
  refine v_scr C hX hbl hbA hi1 dL_law_542 ?_
  refine v_aload_n C 3 dL_law_543 rfl rfl ?_
  refine v_iload_n C 0 dL_law_544 rfl rfl ?_
  refine v_iconst (v := 2) C dL_law_545 (by decide) ?_
  refine v_iadd C dL_law_546 ?_
  refine v_scr C hX hbl hbA hi2 dL_law_547 ?_
  refine v_aload_n C 3 dL_law_548 rfl rfl ?_
  refine v_iload_n C 0 dL_law_549 rfl rfl ?_
  refine v_iconst (v := 3) C dL_law_550 (by decide) ?_
  refine v_iadd C dL_law_551 ?_
  refine v_scr C hX hbl hbA hi3 dL_law_552 ?_
  refine f_callV_l (As := [.int (xs0 (x3 + 1).toNatClampNeg), .int (xs0 (x3 + 2).toNatClampNeg), .int (xs0 (x3 + 3).toNatClampNeg)]) (rest := []) C (sX10_send hx0 hx) ycs_L_62 (by decide) hx0 rfl hCx rfl rfl rfl (Nat.le_of_ble_eq_true rfl) hcw dL_law_553 (fun hCx => ?_)
  refine v_aload_n C 1 dL_law_556 rfl rfl ?_
  refine v_aload_n C 3 dL_law_557 rfl rfl ?_
  refine v_iload_n C 0 dL_law_558 rfl rfl ?_
  refine v_iconst (v := 1) C dL_law_559 (by decide) ?_
  refine v_iadd C dL_law_560 ?_
  refine v_scr C hX hbl hbA hi1 dL_law_561 ?_
  refine v_aload_n C 3 dL_law_562 rfl rfl ?_
  refine v_iload_n C 0 dL_law_563 rfl rfl ?_
  refine v_iconst (v := 2) C dL_law_564 (by decide) ?_
  refine v_iadd C dL_law_565 ?_
  refine v_scr C hX hbl hbA hi2 dL_law_566 ?_
  refine v_aload_n C 3 dL_law_567 rfl rfl ?_
  refine v_iload_n C 0 dL_law_568 rfl rfl ?_
  refine v_iconst (v := 3) C dL_law_569 (by decide) ?_
  refine v_iadd C dL_law_570 ?_
  refine v_scr C hX hbl hbA hi3 dL_law_571 ?_
  refine f_callV_r (As := [.int (xs0 (x3 + 1).toNatClampNeg), .int (xs0 (x3 + 2).toNatClampNeg), .int (xs0 (x3 + 3).toNatClampNeg)]) (rest := [.int r]) C (sX11_send hm0 hm) ycs_L_65 (by decide) hm0 rfl hCm rfl rfl rfl (Nat.le_of_ble_eq_true rfl) hcw dL_law_572 (fun hCm => ?_)
  refine v_icmp_eq (tgt := 1212) C dL_law_575 (by decide) (fun _ => ?_) (fun c => absurd rfl c)
  exact kn _ _ hI hCx hCm
def Step12 (shx shm : Sh) (Inv : Hp → Hp → Prop) (Gx Gm : Hp) (y0 : Int32) : Prop := ∃ (r : Int32) (gx : Hp) (gm : Hp), fX10_mend shx Gx 0 y0 = some (r, gx) ∧ fX11_mend shm Gm 0 y0 = some (r, gm) ∧ Inv gx gm
set_option maxHeartbeats 4000000 in
theorem law_case_12 {E : EX} {b L : Nat} {xs0 : Nat → Int32} {shx shm : Sh} {adx adm : Nat → Nat} {Gx Gm : Hp} {cw sw : Nat} {x3 : Int32} {Inv : Hp → Hp → Prop} (C : Cx E RL cL_law 4 (some .boolean) 1000 600000 7302250) (hX : va_X b L xs0 (xs E) (xs E).heap) (hbl : b < (xs E).heap.size) (hbA : ¬ xA E b) (hx0 : shx[0]? = some (0, 10)) (hm0 : shm[0]? = some (0, 11)) (hCx : Cl shx Gx) (hCm : Cl shm Gm) (hcw : cw ≤ 600000 ∧ sw ≤ 7302250) (hi1 : vp_in (x3 + 1) L) (hst : Step12 shx shm Inv Gx Gm (xs0 (x3 + 1).toNatClampNeg)) (kn : ∀ gx gm, Inv gx gm → Cl shx gx → Cl shm gm → VV E cw sw (wq (xT E) adx gx shx ++ wq (xT E) adm gm shm) 1212 [(3, .int x3), (2, .ref (adm 0)), (1, .ref (adx 0)), (0, .ref b)] []) : VV E cw sw (wq (xT E) adx Gx shx ++ wq (xT E) adm Gm shm) 580 [(3, .int x3), (2, .ref (adm 0)), (1, .ref (adx 0)), (0, .ref b)] [] := by
  obtain ⟨r, gx, gm, hx, hm, hI⟩ := hst
  refine v_aload_n C 2 dL_law_580 rfl rfl ?_
  refine v_aload_n C 3 dL_law_581 rfl rfl ?_
  refine v_iload_n C 0 dL_law_582 rfl rfl ?_
  refine v_iconst (v := 1) C dL_law_583 (by decide) ?_
  refine v_iadd C dL_law_584 ?_
  refine v_scr C hX hbl hbA hi1 dL_law_585 ?_
  refine f_callV_l (As := [.int (xs0 (x3 + 1).toNatClampNeg)]) (rest := []) C (sX10_mend hx0 hx) ycs_L_66 (by decide) hx0 rfl hCx rfl rfl rfl (Nat.le_of_ble_eq_true rfl) hcw dL_law_586 (fun hCx => ?_)
  refine v_aload_n C 1 dL_law_589 rfl rfl ?_
  refine v_aload_n C 3 dL_law_590 rfl rfl ?_
  refine v_iload_n C 0 dL_law_591 rfl rfl ?_
  refine v_iconst (v := 1) C dL_law_592 (by decide) ?_
  refine v_iadd C dL_law_593 ?_
  refine v_scr C hX hbl hbA hi1 dL_law_594 ?_
  refine f_callV_r (As := [.int (xs0 (x3 + 1).toNatClampNeg)]) (rest := [.int r]) C (sX11_mend hm0 hm) ycs_L_69 (by decide) hm0 rfl hCm rfl rfl rfl (Nat.le_of_ble_eq_true rfl) hcw dL_law_595 (fun hCm => ?_)
  refine v_icmp_eq (tgt := 1212) C dL_law_598 (by decide) (fun _ => ?_) (fun c => absurd rfl c)
  exact kn _ _ hI hCx hCm
def Step13 (shx shm : Sh) (Inv : Hp → Hp → Prop) (Gx Gm : Hp) (y0 : Int32) : Prop := ∃ (r : Int32) (gx : Hp) (gm : Hp), fX10_years shx Gx 0 y0 = some (r, gx) ∧ fX11_years shm Gm 0 y0 = some (r, gm) ∧ Inv gx gm
set_option maxHeartbeats 4000000 in
theorem law_case_13 {E : EX} {b L : Nat} {xs0 : Nat → Int32} {shx shm : Sh} {adx adm : Nat → Nat} {Gx Gm : Hp} {cw sw : Nat} {x3 : Int32} {Inv : Hp → Hp → Prop} (C : Cx E RL cL_law 4 (some .boolean) 1000 600000 7302250) (hX : va_X b L xs0 (xs E) (xs E).heap) (hbl : b < (xs E).heap.size) (hbA : ¬ xA E b) (hx0 : shx[0]? = some (0, 10)) (hm0 : shm[0]? = some (0, 11)) (hCx : Cl shx Gx) (hCm : Cl shm Gm) (hcw : cw ≤ 600000 ∧ sw ≤ 7302250) (hi1 : vp_in (x3 + 1) L) (hst : Step13 shx shm Inv Gx Gm (xs0 (x3 + 1).toNatClampNeg)) (kn : ∀ gx gm, Inv gx gm → Cl shx gx → Cl shm gm → VV E cw sw (wq (xT E) adx gx shx ++ wq (xT E) adm gm shm) 1212 [(3, .int x3), (2, .ref (adm 0)), (1, .ref (adx 0)), (0, .ref b)] []) : VV E cw sw (wq (xT E) adx Gx shx ++ wq (xT E) adm Gm shm) 603 [(3, .int x3), (2, .ref (adm 0)), (1, .ref (adx 0)), (0, .ref b)] [] := by
  obtain ⟨r, gx, gm, hx, hm, hI⟩ := hst
  refine v_aload_n C 2 dL_law_603 rfl rfl ?_
  refine v_aload_n C 3 dL_law_604 rfl rfl ?_
  refine v_iload_n C 0 dL_law_605 rfl rfl ?_
  refine v_iconst (v := 1) C dL_law_606 (by decide) ?_
  refine v_iadd C dL_law_607 ?_
  refine v_scr C hX hbl hbA hi1 dL_law_608 ?_
  refine f_callV_l (As := [.int (xs0 (x3 + 1).toNatClampNeg)]) (rest := []) C (sX10_years hx0 hx) ycs_L_70 (by decide) hx0 rfl hCx rfl rfl rfl (Nat.le_of_ble_eq_true rfl) hcw dL_law_609 (fun hCx => ?_)
  refine v_aload_n C 1 dL_law_612 rfl rfl ?_
  refine v_aload_n C 3 dL_law_613 rfl rfl ?_
  refine v_iload_n C 0 dL_law_614 rfl rfl ?_
  refine v_iconst (v := 1) C dL_law_615 (by decide) ?_
  refine v_iadd C dL_law_616 ?_
  refine v_scr C hX hbl hbA hi1 dL_law_617 ?_
  refine f_callV_r (As := [.int (xs0 (x3 + 1).toNatClampNeg)]) (rest := [.int r]) C (sX11_years hm0 hm) ycs_L_73 (by decide) hm0 rfl hCm rfl rfl rfl (Nat.le_of_ble_eq_true rfl) hcw dL_law_618 (fun hCm => ?_)
  refine v_icmp_eq (tgt := 1212) C dL_law_621 (by decide) (fun _ => ?_) (fun c => absurd rfl c)
  exact kn _ _ hI hCx hCm
def Step14 (shx shm : Sh) (Inv : Hp → Hp → Prop) (Gx Gm : Hp)  : Prop := ∃ (r : Int32) (gx : Hp) (gm : Hp), fX10_undo shx Gx 0 = some (r, gx) ∧ fX11_undo shm Gm 0 = some (r, gm) ∧ Inv gx gm
set_option maxHeartbeats 4000000 in
theorem law_case_14 {E : EX} {b L : Nat} {xs0 : Nat → Int32} {shx shm : Sh} {adx adm : Nat → Nat} {Gx Gm : Hp} {cw sw : Nat} {x3 : Int32} {Inv : Hp → Hp → Prop} (C : Cx E RL cL_law 4 (some .boolean) 1000 600000 7302250) (hX : va_X b L xs0 (xs E) (xs E).heap) (hbl : b < (xs E).heap.size) (hbA : ¬ xA E b) (hx0 : shx[0]? = some (0, 10)) (hm0 : shm[0]? = some (0, 11)) (hCx : Cl shx Gx) (hCm : Cl shm Gm) (hcw : cw ≤ 600000 ∧ sw ≤ 7302250)  (hst : Step14 shx shm Inv Gx Gm ) (kn : ∀ gx gm, Inv gx gm → Cl shx gx → Cl shm gm → VV E cw sw (wq (xT E) adx gx shx ++ wq (xT E) adm gm shm) 1212 [(3, .int x3), (2, .ref (adm 0)), (1, .ref (adx 0)), (0, .ref b)] []) : VV E cw sw (wq (xT E) adx Gx shx ++ wq (xT E) adm Gm shm) 626 [(3, .int x3), (2, .ref (adm 0)), (1, .ref (adx 0)), (0, .ref b)] [] := by
  obtain ⟨r, gx, gm, hx, hm, hI⟩ := hst
  refine v_aload_n C 2 dL_law_626 rfl rfl ?_
  refine f_callV_l (As := []) (rest := []) C (sX10_undo hx0 hx) ycs_L_74 (by decide) hx0 rfl hCx rfl rfl rfl (Nat.le_of_ble_eq_true rfl) hcw dL_law_627 (fun hCx => ?_)
  refine v_aload_n C 1 dL_law_630 rfl rfl ?_
  refine f_callV_r (As := []) (rest := [.int r]) C (sX11_undo hm0 hm) ycs_L_78 (by decide) hm0 rfl hCm rfl rfl rfl (Nat.le_of_ble_eq_true rfl) hcw dL_law_631 (fun hCm => ?_)
  refine v_icmp_eq (tgt := 1212) C dL_law_634 (by decide) (fun _ => ?_) (fun c => absurd rfl c)
  exact kn _ _ hI hCx hCm
def Step15 (shx shm : Sh) (Inv : Hp → Hp → Prop) (Gx Gm : Hp) (y0 : Int32) (y1 : Int32) : Prop := ∃ (r : Int32) (gx : Hp) (gm : Hp), fX10_cheap shx Gx 0 y0 y1 = some (r, gx) ∧ fX11_cheap shm Gm 0 y0 y1 = some (r, gm) ∧ Inv gx gm
set_option maxHeartbeats 4000000 in
theorem law_case_15 {E : EX} {b L : Nat} {xs0 : Nat → Int32} {shx shm : Sh} {adx adm : Nat → Nat} {Gx Gm : Hp} {cw sw : Nat} {x3 : Int32} {Inv : Hp → Hp → Prop} (C : Cx E RL cL_law 4 (some .boolean) 1000 600000 7302250) (hX : va_X b L xs0 (xs E) (xs E).heap) (hbl : b < (xs E).heap.size) (hbA : ¬ xA E b) (hx0 : shx[0]? = some (0, 10)) (hm0 : shm[0]? = some (0, 11)) (hCx : Cl shx Gx) (hCm : Cl shm Gm) (hcw : cw ≤ 600000 ∧ sw ≤ 7302250) (hi1 : vp_in (x3 + 1) L) (hi2 : vp_in (x3 + 2) L) (hst : Step15 shx shm Inv Gx Gm (xs0 (x3 + 1).toNatClampNeg) (xs0 (x3 + 2).toNatClampNeg)) (kn : ∀ gx gm, Inv gx gm → Cl shx gx → Cl shm gm → VV E cw sw (wq (xT E) adx gx shx ++ wq (xT E) adm gm shm) 1212 [(3, .int x3), (2, .ref (adm 0)), (1, .ref (adx 0)), (0, .ref b)] []) : VV E cw sw (wq (xT E) adx Gx shx ++ wq (xT E) adm Gm shm) 639 [(3, .int x3), (2, .ref (adm 0)), (1, .ref (adx 0)), (0, .ref b)] [] := by
  obtain ⟨r, gx, gm, hx, hm, hI⟩ := hst
  refine v_aload_n C 2 dL_law_639 rfl rfl ?_
  refine v_aload_n C 3 dL_law_640 rfl rfl ?_
  refine v_iload_n C 0 dL_law_641 rfl rfl ?_
  refine v_iconst (v := 1) C dL_law_642 (by decide) ?_
  refine v_iadd C dL_law_643 ?_
  refine v_scr C hX hbl hbA hi1 dL_law_644 ?_
  refine v_aload_n C 3 dL_law_645 rfl rfl ?_
  refine v_iload_n C 0 dL_law_646 rfl rfl ?_
  refine v_iconst (v := 2) C dL_law_647 (by decide) ?_
  refine v_iadd C dL_law_648 ?_
  refine v_scr C hX hbl hbA hi2 dL_law_649 ?_
  refine f_callV_l (As := [.int (xs0 (x3 + 1).toNatClampNeg), .int (xs0 (x3 + 2).toNatClampNeg)]) (rest := []) C (sX10_cheap hx0 hx) ycs_L_79 (by decide) hx0 rfl hCx rfl rfl rfl (Nat.le_of_ble_eq_true rfl) hcw dL_law_650 (fun hCx => ?_)
  refine v_aload_n C 1 dL_law_653 rfl rfl ?_
  refine v_aload_n C 3 dL_law_654 rfl rfl ?_
  refine v_iload_n C 0 dL_law_655 rfl rfl ?_
  refine v_iconst (v := 1) C dL_law_656 (by decide) ?_
  refine v_iadd C dL_law_657 ?_
  refine v_scr C hX hbl hbA hi1 dL_law_658 ?_
  refine v_aload_n C 3 dL_law_659 rfl rfl ?_
  refine v_iload_n C 0 dL_law_660 rfl rfl ?_
  refine v_iconst (v := 2) C dL_law_661 (by decide) ?_
  refine v_iadd C dL_law_662 ?_
  refine v_scr C hX hbl hbA hi2 dL_law_663 ?_
  refine f_callV_r (As := [.int (xs0 (x3 + 1).toNatClampNeg), .int (xs0 (x3 + 2).toNatClampNeg)]) (rest := [.int r]) C (sX11_cheap hm0 hm) ycs_L_82 (by decide) hm0 rfl hCm rfl rfl rfl (Nat.le_of_ble_eq_true rfl) hcw dL_law_664 (fun hCm => ?_)
  refine v_icmp_eq (tgt := 1212) C dL_law_667 (by decide) (fun _ => ?_) (fun c => absurd rfl c)
  exact kn _ _ hI hCx hCm
def Step16 (shx shm : Sh) (Inv : Hp → Hp → Prop) (Gx Gm : Hp) (y0 : Int32) : Prop := ∃ (r : Int32) (gx : Hp) (gm : Hp), fX10_cheats shx Gx 0 y0 = some (r, gx) ∧ fX11_cheats shm Gm 0 y0 = some (r, gm) ∧ Inv gx gm
set_option maxHeartbeats 4000000 in
theorem law_case_16 {E : EX} {b L : Nat} {xs0 : Nat → Int32} {shx shm : Sh} {adx adm : Nat → Nat} {Gx Gm : Hp} {cw sw : Nat} {x3 : Int32} {Inv : Hp → Hp → Prop} (C : Cx E RL cL_law 4 (some .boolean) 1000 600000 7302250) (hX : va_X b L xs0 (xs E) (xs E).heap) (hbl : b < (xs E).heap.size) (hbA : ¬ xA E b) (hx0 : shx[0]? = some (0, 10)) (hm0 : shm[0]? = some (0, 11)) (hCx : Cl shx Gx) (hCm : Cl shm Gm) (hcw : cw ≤ 600000 ∧ sw ≤ 7302250) (hi1 : vp_in (x3 + 1) L) (hst : Step16 shx shm Inv Gx Gm (xs0 (x3 + 1).toNatClampNeg)) (kn : ∀ gx gm, Inv gx gm → Cl shx gx → Cl shm gm → VV E cw sw (wq (xT E) adx gx shx ++ wq (xT E) adm gm shm) 1212 [(3, .int x3), (2, .ref (adm 0)), (1, .ref (adx 0)), (0, .ref b)] []) : VV E cw sw (wq (xT E) adx Gx shx ++ wq (xT E) adm Gm shm) 672 [(3, .int x3), (2, .ref (adm 0)), (1, .ref (adx 0)), (0, .ref b)] [] := by
  obtain ⟨r, gx, gm, hx, hm, hI⟩ := hst
  refine v_aload_n C 2 dL_law_672 rfl rfl ?_
  refine v_aload_n C 3 dL_law_673 rfl rfl ?_
  refine v_iload_n C 0 dL_law_674 rfl rfl ?_
  refine v_iconst (v := 1) C dL_law_675 (by decide) ?_
  refine v_iadd C dL_law_676 ?_
  refine v_scr C hX hbl hbA hi1 dL_law_677 ?_
  refine f_callV_l (As := [.int (xs0 (x3 + 1).toNatClampNeg)]) (rest := []) C (sX10_cheats hx0 hx) ycs_L_83 (by decide) hx0 rfl hCx rfl rfl rfl (Nat.le_of_ble_eq_true rfl) hcw dL_law_678 (fun hCx => ?_)
  refine v_aload_n C 1 dL_law_681 rfl rfl ?_
  refine v_aload_n C 3 dL_law_682 rfl rfl ?_
  refine v_iload_n C 0 dL_law_683 rfl rfl ?_
  refine v_iconst (v := 1) C dL_law_684 (by decide) ?_
  refine v_iadd C dL_law_685 ?_
  refine v_scr C hX hbl hbA hi1 dL_law_686 ?_
  refine f_callV_r (As := [.int (xs0 (x3 + 1).toNatClampNeg)]) (rest := [.int r]) C (sX11_cheats hm0 hm) ycs_L_86 (by decide) hm0 rfl hCm rfl rfl rfl (Nat.le_of_ble_eq_true rfl) hcw dL_law_687 (fun hCm => ?_)
  refine v_icmp_eq (tgt := 1212) C dL_law_690 (by decide) (fun _ => ?_) (fun c => absurd rfl c)
  exact kn _ _ hI hCx hCm
def Step17 (shx shm : Sh) (Inv : Hp → Hp → Prop) (Gx Gm : Hp) (y0 : Int32) (y1 : Int32) : Prop := ∃ (r : Int32) (gx : Hp) (gm : Hp), fX10_all shx Gx 0 y0 y1 = some (r, gx) ∧ fX11_all shm Gm 0 y0 y1 = some (r, gm) ∧ Inv gx gm
set_option maxHeartbeats 4000000 in
theorem law_case_17 {E : EX} {b L : Nat} {xs0 : Nat → Int32} {shx shm : Sh} {adx adm : Nat → Nat} {Gx Gm : Hp} {cw sw : Nat} {x3 : Int32} {Inv : Hp → Hp → Prop} (C : Cx E RL cL_law 4 (some .boolean) 1000 600000 7302250) (hX : va_X b L xs0 (xs E) (xs E).heap) (hbl : b < (xs E).heap.size) (hbA : ¬ xA E b) (hx0 : shx[0]? = some (0, 10)) (hm0 : shm[0]? = some (0, 11)) (hCx : Cl shx Gx) (hCm : Cl shm Gm) (hcw : cw ≤ 600000 ∧ sw ≤ 7302250) (hi1 : vp_in (x3 + 1) L) (hi2 : vp_in (x3 + 2) L) (hst : Step17 shx shm Inv Gx Gm (xs0 (x3 + 1).toNatClampNeg) (xs0 (x3 + 2).toNatClampNeg)) (kn : ∀ gx gm, Inv gx gm → Cl shx gx → Cl shm gm → VV E cw sw (wq (xT E) adx gx shx ++ wq (xT E) adm gm shm) 1212 [(3, .int x3), (2, .ref (adm 0)), (1, .ref (adx 0)), (0, .ref b)] []) : VV E cw sw (wq (xT E) adx Gx shx ++ wq (xT E) adm Gm shm) 695 [(3, .int x3), (2, .ref (adm 0)), (1, .ref (adx 0)), (0, .ref b)] [] := by
  obtain ⟨r, gx, gm, hx, hm, hI⟩ := hst
  refine v_aload_n C 2 dL_law_695 rfl rfl ?_
  refine v_aload_n C 3 dL_law_696 rfl rfl ?_
  refine v_iload_n C 0 dL_law_697 rfl rfl ?_
  refine v_iconst (v := 1) C dL_law_698 (by decide) ?_
  refine v_iadd C dL_law_699 ?_
  refine v_scr C hX hbl hbA hi1 dL_law_700 ?_
  refine v_aload_n C 3 dL_law_701 rfl rfl ?_
  refine v_iload_n C 0 dL_law_702 rfl rfl ?_
  refine v_iconst (v := 2) C dL_law_703 (by decide) ?_
  refine v_iadd C dL_law_704 ?_
  refine v_scr C hX hbl hbA hi2 dL_law_705 ?_
  refine f_callV_l (As := [.int (xs0 (x3 + 1).toNatClampNeg), .int (xs0 (x3 + 2).toNatClampNeg)]) (rest := []) C (sX10_all hx0 hx) ycs_L_87 (by decide) hx0 rfl hCx rfl rfl rfl (Nat.le_of_ble_eq_true rfl) hcw dL_law_706 (fun hCx => ?_)
  refine v_aload_n C 1 dL_law_709 rfl rfl ?_
  refine v_aload_n C 3 dL_law_710 rfl rfl ?_
  refine v_iload_n C 0 dL_law_711 rfl rfl ?_
  refine v_iconst (v := 1) C dL_law_712 (by decide) ?_
  refine v_iadd C dL_law_713 ?_
  refine v_scr C hX hbl hbA hi1 dL_law_714 ?_
  refine v_aload_n C 3 dL_law_715 rfl rfl ?_
  refine v_iload_n C 0 dL_law_716 rfl rfl ?_
  refine v_iconst (v := 2) C dL_law_717 (by decide) ?_
  refine v_iadd C dL_law_718 ?_
  refine v_scr C hX hbl hbA hi2 dL_law_719 ?_
  refine f_callV_r (As := [.int (xs0 (x3 + 1).toNatClampNeg), .int (xs0 (x3 + 2).toNatClampNeg)]) (rest := [.int r]) C (sX11_all hm0 hm) ycs_L_90 (by decide) hm0 rfl hCm rfl rfl rfl (Nat.le_of_ble_eq_true rfl) hcw dL_law_720 (fun hCm => ?_)
  refine v_icmp_eq (tgt := 1212) C dL_law_723 (by decide) (fun _ => ?_) (fun c => absurd rfl c)
  exact kn _ _ hI hCx hCm
def Step18 (shx shm : Sh) (Inv : Hp → Hp → Prop) (Gx Gm : Hp) (y0 : Int32) (y1 : Int32) : Prop := ∃ (r : Int32) (gx : Hp) (gm : Hp), fX10_bar shx Gx 0 y0 y1 = some (r, gx) ∧ fX11_bar shm Gm 0 y0 y1 = some (r, gm) ∧ Inv gx gm
set_option maxHeartbeats 4000000 in
theorem law_case_18 {E : EX} {b L : Nat} {xs0 : Nat → Int32} {shx shm : Sh} {adx adm : Nat → Nat} {Gx Gm : Hp} {cw sw : Nat} {x3 : Int32} {Inv : Hp → Hp → Prop} (C : Cx E RL cL_law 4 (some .boolean) 1000 600000 7302250) (hX : va_X b L xs0 (xs E) (xs E).heap) (hbl : b < (xs E).heap.size) (hbA : ¬ xA E b) (hx0 : shx[0]? = some (0, 10)) (hm0 : shm[0]? = some (0, 11)) (hCx : Cl shx Gx) (hCm : Cl shm Gm) (hcw : cw ≤ 600000 ∧ sw ≤ 7302250) (hi1 : vp_in (x3 + 1) L) (hi2 : vp_in (x3 + 2) L) (hst : Step18 shx shm Inv Gx Gm (xs0 (x3 + 1).toNatClampNeg) (xs0 (x3 + 2).toNatClampNeg)) (kn : ∀ gx gm, Inv gx gm → Cl shx gx → Cl shm gm → VV E cw sw (wq (xT E) adx gx shx ++ wq (xT E) adm gm shm) 1212 [(3, .int x3), (2, .ref (adm 0)), (1, .ref (adx 0)), (0, .ref b)] []) : VV E cw sw (wq (xT E) adx Gx shx ++ wq (xT E) adm Gm shm) 728 [(3, .int x3), (2, .ref (adm 0)), (1, .ref (adx 0)), (0, .ref b)] [] := by
  obtain ⟨r, gx, gm, hx, hm, hI⟩ := hst
  refine v_aload_n C 2 dL_law_728 rfl rfl ?_
  refine v_aload_n C 3 dL_law_729 rfl rfl ?_
  refine v_iload_n C 0 dL_law_730 rfl rfl ?_
  refine v_iconst (v := 1) C dL_law_731 (by decide) ?_
  refine v_iadd C dL_law_732 ?_
  refine v_scr C hX hbl hbA hi1 dL_law_733 ?_
  refine v_aload_n C 3 dL_law_734 rfl rfl ?_
  refine v_iload_n C 0 dL_law_735 rfl rfl ?_
  refine v_iconst (v := 2) C dL_law_736 (by decide) ?_
  refine v_iadd C dL_law_737 ?_
  refine v_scr C hX hbl hbA hi2 dL_law_738 ?_
  refine f_callV_l (As := [.int (xs0 (x3 + 1).toNatClampNeg), .int (xs0 (x3 + 2).toNatClampNeg)]) (rest := []) C (sX10_bar hx0 hx) ycs_L_91 (by decide) hx0 rfl hCx rfl rfl rfl (Nat.le_of_ble_eq_true rfl) hcw dL_law_739 (fun hCx => ?_)
  refine v_aload_n C 1 dL_law_742 rfl rfl ?_
  refine v_aload_n C 3 dL_law_743 rfl rfl ?_
  refine v_iload_n C 0 dL_law_744 rfl rfl ?_
  refine v_iconst (v := 1) C dL_law_745 (by decide) ?_
  refine v_iadd C dL_law_746 ?_
  refine v_scr C hX hbl hbA hi1 dL_law_747 ?_
  refine v_aload_n C 3 dL_law_748 rfl rfl ?_
  refine v_iload_n C 0 dL_law_749 rfl rfl ?_
  refine v_iconst (v := 2) C dL_law_750 (by decide) ?_
  refine v_iadd C dL_law_751 ?_
  refine v_scr C hX hbl hbA hi2 dL_law_752 ?_
  refine f_callV_r (As := [.int (xs0 (x3 + 1).toNatClampNeg), .int (xs0 (x3 + 2).toNatClampNeg)]) (rest := [.int r]) C (sX11_bar hm0 hm) ycs_L_94 (by decide) hm0 rfl hCm rfl rfl rfl (Nat.le_of_ble_eq_true rfl) hcw dL_law_753 (fun hCm => ?_)
  refine v_icmp_eq (tgt := 1212) C dL_law_756 (by decide) (fun _ => ?_) (fun c => absurd rfl c)
  exact kn _ _ hI hCx hCm
def Step19 (shx shm : Sh) (Inv : Hp → Hp → Prop) (Gx Gm : Hp) (y0 : Int32) (y1 : Int32) : Prop := ∃ (r : Int32) (gx : Hp) (gm : Hp), fX10_shuts shx Gx 0 y0 y1 = some (r, gx) ∧ fX11_shuts shm Gm 0 y0 y1 = some (r, gm) ∧ Inv gx gm
set_option maxHeartbeats 4000000 in
theorem law_case_19 {E : EX} {b L : Nat} {xs0 : Nat → Int32} {shx shm : Sh} {adx adm : Nat → Nat} {Gx Gm : Hp} {cw sw : Nat} {x3 : Int32} {Inv : Hp → Hp → Prop} (C : Cx E RL cL_law 4 (some .boolean) 1000 600000 7302250) (hX : va_X b L xs0 (xs E) (xs E).heap) (hbl : b < (xs E).heap.size) (hbA : ¬ xA E b) (hx0 : shx[0]? = some (0, 10)) (hm0 : shm[0]? = some (0, 11)) (hCx : Cl shx Gx) (hCm : Cl shm Gm) (hcw : cw ≤ 600000 ∧ sw ≤ 7302250) (hi1 : vp_in (x3 + 1) L) (hi2 : vp_in (x3 + 2) L) (hst : Step19 shx shm Inv Gx Gm (xs0 (x3 + 1).toNatClampNeg) (xs0 (x3 + 2).toNatClampNeg)) (kn : ∀ gx gm, Inv gx gm → Cl shx gx → Cl shm gm → VV E cw sw (wq (xT E) adx gx shx ++ wq (xT E) adm gm shm) 1212 [(3, .int x3), (2, .ref (adm 0)), (1, .ref (adx 0)), (0, .ref b)] []) : VV E cw sw (wq (xT E) adx Gx shx ++ wq (xT E) adm Gm shm) 761 [(3, .int x3), (2, .ref (adm 0)), (1, .ref (adx 0)), (0, .ref b)] [] := by
  obtain ⟨r, gx, gm, hx, hm, hI⟩ := hst
  refine v_aload_n C 2 dL_law_761 rfl rfl ?_
  refine v_aload_n C 3 dL_law_762 rfl rfl ?_
  refine v_iload_n C 0 dL_law_763 rfl rfl ?_
  refine v_iconst (v := 1) C dL_law_764 (by decide) ?_
  refine v_iadd C dL_law_765 ?_
  refine v_scr C hX hbl hbA hi1 dL_law_766 ?_
  refine v_aload_n C 3 dL_law_767 rfl rfl ?_
  refine v_iload_n C 0 dL_law_768 rfl rfl ?_
  refine v_iconst (v := 2) C dL_law_769 (by decide) ?_
  refine v_iadd C dL_law_770 ?_
  refine v_scr C hX hbl hbA hi2 dL_law_771 ?_
  refine f_callV_l (As := [.int (xs0 (x3 + 1).toNatClampNeg), .int (xs0 (x3 + 2).toNatClampNeg)]) (rest := []) C (sX10_shuts hx0 hx) ycs_L_95 (by decide) hx0 rfl hCx rfl rfl rfl (Nat.le_of_ble_eq_true rfl) hcw dL_law_772 (fun hCx => ?_)
  refine v_aload_n C 1 dL_law_775 rfl rfl ?_
  refine v_aload_n C 3 dL_law_776 rfl rfl ?_
  refine v_iload_n C 0 dL_law_777 rfl rfl ?_
  refine v_iconst (v := 1) C dL_law_778 (by decide) ?_
  refine v_iadd C dL_law_779 ?_
  refine v_scr C hX hbl hbA hi1 dL_law_780 ?_
  refine v_aload_n C 3 dL_law_781 rfl rfl ?_
  refine v_iload_n C 0 dL_law_782 rfl rfl ?_
  refine v_iconst (v := 2) C dL_law_783 (by decide) ?_
  refine v_iadd C dL_law_784 ?_
  refine v_scr C hX hbl hbA hi2 dL_law_785 ?_
  refine f_callV_r (As := [.int (xs0 (x3 + 1).toNatClampNeg), .int (xs0 (x3 + 2).toNatClampNeg)]) (rest := [.int r]) C (sX11_shuts hm0 hm) ycs_L_98 (by decide) hm0 rfl hCm rfl rfl rfl (Nat.le_of_ble_eq_true rfl) hcw dL_law_786 (fun hCm => ?_)
  refine v_icmp_eq (tgt := 1212) C dL_law_789 (by decide) (fun _ => ?_) (fun c => absurd rfl c)
  exact kn _ _ hI hCx hCm
def Step20 (shx shm : Sh) (Inv : Hp → Hp → Prop) (Gx Gm : Hp) (y0 : Int32) : Prop := ∃ (r : Int32) (gx : Hp) (gm : Hp), fX10_stands shx Gx 0 y0 = some (r, gx) ∧ fX11_stands shm Gm 0 y0 = some (r, gm) ∧ Inv gx gm
set_option maxHeartbeats 4000000 in
theorem law_case_20 {E : EX} {b L : Nat} {xs0 : Nat → Int32} {shx shm : Sh} {adx adm : Nat → Nat} {Gx Gm : Hp} {cw sw : Nat} {x3 : Int32} {Inv : Hp → Hp → Prop} (C : Cx E RL cL_law 4 (some .boolean) 1000 600000 7302250) (hX : va_X b L xs0 (xs E) (xs E).heap) (hbl : b < (xs E).heap.size) (hbA : ¬ xA E b) (hx0 : shx[0]? = some (0, 10)) (hm0 : shm[0]? = some (0, 11)) (hCx : Cl shx Gx) (hCm : Cl shm Gm) (hcw : cw ≤ 600000 ∧ sw ≤ 7302250) (hi1 : vp_in (x3 + 1) L) (hst : Step20 shx shm Inv Gx Gm (xs0 (x3 + 1).toNatClampNeg)) (kn : ∀ gx gm, Inv gx gm → Cl shx gx → Cl shm gm → VV E cw sw (wq (xT E) adx gx shx ++ wq (xT E) adm gm shm) 1212 [(3, .int x3), (2, .ref (adm 0)), (1, .ref (adx 0)), (0, .ref b)] []) : VV E cw sw (wq (xT E) adx Gx shx ++ wq (xT E) adm Gm shm) 794 [(3, .int x3), (2, .ref (adm 0)), (1, .ref (adx 0)), (0, .ref b)] [] := by
  obtain ⟨r, gx, gm, hx, hm, hI⟩ := hst
  refine v_aload_n C 2 dL_law_794 rfl rfl ?_
  refine v_aload_n C 3 dL_law_795 rfl rfl ?_
  refine v_iload_n C 0 dL_law_796 rfl rfl ?_
  refine v_iconst (v := 1) C dL_law_797 (by decide) ?_
  refine v_iadd C dL_law_798 ?_
  refine v_scr C hX hbl hbA hi1 dL_law_799 ?_
  refine f_callV_l (As := [.int (xs0 (x3 + 1).toNatClampNeg)]) (rest := []) C (sX10_stands hx0 hx) ycs_L_99 (by decide) hx0 rfl hCx rfl rfl rfl (Nat.le_of_ble_eq_true rfl) hcw dL_law_800 (fun hCx => ?_)
  refine v_aload_n C 1 dL_law_803 rfl rfl ?_
  refine v_aload_n C 3 dL_law_804 rfl rfl ?_
  refine v_iload_n C 0 dL_law_805 rfl rfl ?_
  refine v_iconst (v := 1) C dL_law_806 (by decide) ?_
  refine v_iadd C dL_law_807 ?_
  refine v_scr C hX hbl hbA hi1 dL_law_808 ?_
  refine f_callV_r (As := [.int (xs0 (x3 + 1).toNatClampNeg)]) (rest := [.int r]) C (sX11_stands hm0 hm) ycs_L_102 (by decide) hm0 rfl hCm rfl rfl rfl (Nat.le_of_ble_eq_true rfl) hcw dL_law_809 (fun hCm => ?_)
  refine v_icmp_eq (tgt := 1212) C dL_law_812 (by decide) (fun _ => ?_) (fun c => absurd rfl c)
  exact kn _ _ hI hCx hCm
def Step21 (shx shm : Sh) (Inv : Hp → Hp → Prop) (Gx Gm : Hp) (y0 : Int32) : Prop := ∃ (r : Int32) (gx : Hp) (gm : Hp), fX10_mendFirst shx Gx 0 y0 = some (r, gx) ∧ fX11_mendFirst shm Gm 0 y0 = some (r, gm) ∧ Inv gx gm
set_option maxHeartbeats 4000000 in
theorem law_case_21 {E : EX} {b L : Nat} {xs0 : Nat → Int32} {shx shm : Sh} {adx adm : Nat → Nat} {Gx Gm : Hp} {cw sw : Nat} {x3 : Int32} {Inv : Hp → Hp → Prop} (C : Cx E RL cL_law 4 (some .boolean) 1000 600000 7302250) (hX : va_X b L xs0 (xs E) (xs E).heap) (hbl : b < (xs E).heap.size) (hbA : ¬ xA E b) (hx0 : shx[0]? = some (0, 10)) (hm0 : shm[0]? = some (0, 11)) (hCx : Cl shx Gx) (hCm : Cl shm Gm) (hcw : cw ≤ 600000 ∧ sw ≤ 7302250) (hi1 : vp_in (x3 + 1) L) (hst : Step21 shx shm Inv Gx Gm (xs0 (x3 + 1).toNatClampNeg)) (kn : ∀ gx gm, Inv gx gm → Cl shx gx → Cl shm gm → VV E cw sw (wq (xT E) adx gx shx ++ wq (xT E) adm gm shm) 1212 [(3, .int x3), (2, .ref (adm 0)), (1, .ref (adx 0)), (0, .ref b)] []) : VV E cw sw (wq (xT E) adx Gx shx ++ wq (xT E) adm Gm shm) 817 [(3, .int x3), (2, .ref (adm 0)), (1, .ref (adx 0)), (0, .ref b)] [] := by
  obtain ⟨r, gx, gm, hx, hm, hI⟩ := hst
  refine v_aload_n C 2 dL_law_817 rfl rfl ?_
  refine v_aload_n C 3 dL_law_818 rfl rfl ?_
  refine v_iload_n C 0 dL_law_819 rfl rfl ?_
  refine v_iconst (v := 1) C dL_law_820 (by decide) ?_
  refine v_iadd C dL_law_821 ?_
  refine v_scr C hX hbl hbA hi1 dL_law_822 ?_
  refine f_callV_l (As := [.int (xs0 (x3 + 1).toNatClampNeg)]) (rest := []) C (sX10_mendFirst hx0 hx) ycs_L_103 (by decide) hx0 rfl hCx rfl rfl rfl (Nat.le_of_ble_eq_true rfl) hcw dL_law_823 (fun hCx => ?_)
  refine v_aload_n C 1 dL_law_826 rfl rfl ?_
  refine v_aload_n C 3 dL_law_827 rfl rfl ?_
  refine v_iload_n C 0 dL_law_828 rfl rfl ?_
  refine v_iconst (v := 1) C dL_law_829 (by decide) ?_
  refine v_iadd C dL_law_830 ?_
  refine v_scr C hX hbl hbA hi1 dL_law_831 ?_
  refine f_callV_r (As := [.int (xs0 (x3 + 1).toNatClampNeg)]) (rest := [.int r]) C (sX11_mendFirst hm0 hm) ycs_L_106 (by decide) hm0 rfl hCm rfl rfl rfl (Nat.le_of_ble_eq_true rfl) hcw dL_law_832 (fun hCm => ?_)
  refine v_icmp_eq (tgt := 1212) C dL_law_835 (by decide) (fun _ => ?_) (fun c => absurd rfl c)
  exact kn _ _ hI hCx hCm
def Step22 (shx shm : Sh) (Inv : Hp → Hp → Prop) (Gx Gm : Hp) (y0 : Int32) (y1 : Int32) (y2 : Int32) : Prop := ∃ (r : Int32) (gm : Hp), fX10_alike shx Gx 0 y0 y1 y2 = some r ∧ fX11_alike shm Gm 0 y0 y1 y2 = some (r, gm) ∧ Inv Gx gm
set_option maxHeartbeats 4000000 in
theorem law_case_22 {E : EX} {b L : Nat} {xs0 : Nat → Int32} {shx shm : Sh} {adx adm : Nat → Nat} {Gx Gm : Hp} {cw sw : Nat} {x3 : Int32} {Inv : Hp → Hp → Prop} (C : Cx E RL cL_law 4 (some .boolean) 1000 600000 7302250) (hX : va_X b L xs0 (xs E) (xs E).heap) (hbl : b < (xs E).heap.size) (hbA : ¬ xA E b) (hx0 : shx[0]? = some (0, 10)) (hm0 : shm[0]? = some (0, 11)) (hCx : Cl shx Gx) (hCm : Cl shm Gm) (hcw : cw ≤ 600000 ∧ sw ≤ 7302250) (hi1 : vp_in (x3 + 1) L) (hi2 : vp_in (x3 + 2) L) (hi3 : vp_in (x3 + 3) L) (hst : Step22 shx shm Inv Gx Gm (xs0 (x3 + 1).toNatClampNeg) (xs0 (x3 + 2).toNatClampNeg) (xs0 (x3 + 3).toNatClampNeg)) (kn : ∀ gx gm, Inv gx gm → Cl shx gx → Cl shm gm → VV E cw sw (wq (xT E) adx gx shx ++ wq (xT E) adm gm shm) 1212 [(3, .int x3), (2, .ref (adm 0)), (1, .ref (adx 0)), (0, .ref b)] []) : VV E cw sw (wq (xT E) adx Gx shx ++ wq (xT E) adm Gm shm) 840 [(3, .int x3), (2, .ref (adm 0)), (1, .ref (adx 0)), (0, .ref b)] [] := by
  obtain ⟨r, gm, hx, hm, hI⟩ := hst
  refine v_aload_n C 2 dL_law_840 rfl rfl ?_
  refine v_aload_n C 3 dL_law_841 rfl rfl ?_
  refine v_iload_n C 0 dL_law_842 rfl rfl ?_
  refine v_iconst (v := 1) C dL_law_843 (by decide) ?_
  refine v_iadd C dL_law_844 ?_
  refine v_scr C hX hbl hbA hi1 dL_law_845 ?_
  refine v_aload_n C 3 dL_law_846 rfl rfl ?_
  refine v_iload_n C 0 dL_law_847 rfl rfl ?_
  refine v_iconst (v := 2) C dL_law_848 (by decide) ?_
  refine v_iadd C dL_law_849 ?_
  refine v_scr C hX hbl hbA hi2 dL_law_850 ?_
  refine v_aload_n C 3 dL_law_851 rfl rfl ?_
  refine v_iload_n C 0 dL_law_852 rfl rfl ?_
  refine v_iconst (v := 3) C dL_law_853 (by decide) ?_
  refine v_iadd C dL_law_854 ?_
  refine v_scr C hX hbl hbA hi3 dL_law_855 ?_
  refine f_callV_l (As := [.int (xs0 (x3 + 1).toNatClampNeg), .int (xs0 (x3 + 2).toNatClampNeg), .int (xs0 (x3 + 3).toNatClampNeg)]) (rest := []) C (sX10_alike hx0 hx) ycs_L_107 (by decide) hx0 rfl hCx rfl rfl rfl (Nat.le_of_ble_eq_true rfl) hcw dL_law_856 (fun hCx => ?_)
  refine v_aload_n C 1 dL_law_859 rfl rfl ?_
  refine v_aload_n C 3 dL_law_860 rfl rfl ?_
  refine v_iload_n C 0 dL_law_861 rfl rfl ?_
  refine v_iconst (v := 1) C dL_law_862 (by decide) ?_
  refine v_iadd C dL_law_863 ?_
  refine v_scr C hX hbl hbA hi1 dL_law_864 ?_
  refine v_aload_n C 3 dL_law_865 rfl rfl ?_
  refine v_iload_n C 0 dL_law_866 rfl rfl ?_
  refine v_iconst (v := 2) C dL_law_867 (by decide) ?_
  refine v_iadd C dL_law_868 ?_
  refine v_scr C hX hbl hbA hi2 dL_law_869 ?_
  refine v_aload_n C 3 dL_law_870 rfl rfl ?_
  refine v_iload_n C 0 dL_law_871 rfl rfl ?_
  refine v_iconst (v := 3) C dL_law_872 (by decide) ?_
  refine v_iadd C dL_law_873 ?_
  refine v_scr C hX hbl hbA hi3 dL_law_874 ?_
  refine f_callV_r (As := [.int (xs0 (x3 + 1).toNatClampNeg), .int (xs0 (x3 + 2).toNatClampNeg), .int (xs0 (x3 + 3).toNatClampNeg)]) (rest := [.int r]) C (sX11_alike hm0 hm) ycs_L_110 (by decide) hm0 rfl hCm rfl rfl rfl (Nat.le_of_ble_eq_true rfl) hcw dL_law_875 (fun hCm => ?_)
  refine v_icmp_eq (tgt := 1212) C dL_law_878 (by decide) (fun _ => ?_) (fun c => absurd rfl c)
  exact kn _ _ hI hCx hCm
def Step23 (shx shm : Sh) (Inv : Hp → Hp → Prop) (Gx Gm : Hp) (y0 : Int32) (y1 : Int32) : Prop := ∃ (r : Int32) (gx : Hp) (gm : Hp), fX10_stonesIn shx Gx 0 y0 y1 = some (r, gx) ∧ fX11_stonesIn shm Gm 0 y0 y1 = some (r, gm) ∧ Inv gx gm
set_option maxHeartbeats 4000000 in
theorem law_case_23 {E : EX} {b L : Nat} {xs0 : Nat → Int32} {shx shm : Sh} {adx adm : Nat → Nat} {Gx Gm : Hp} {cw sw : Nat} {x3 : Int32} {Inv : Hp → Hp → Prop} (C : Cx E RL cL_law 4 (some .boolean) 1000 600000 7302250) (hX : va_X b L xs0 (xs E) (xs E).heap) (hbl : b < (xs E).heap.size) (hbA : ¬ xA E b) (hx0 : shx[0]? = some (0, 10)) (hm0 : shm[0]? = some (0, 11)) (hCx : Cl shx Gx) (hCm : Cl shm Gm) (hcw : cw ≤ 600000 ∧ sw ≤ 7302250) (hi1 : vp_in (x3 + 1) L) (hi2 : vp_in (x3 + 2) L) (hst : Step23 shx shm Inv Gx Gm (xs0 (x3 + 1).toNatClampNeg) (xs0 (x3 + 2).toNatClampNeg)) (kn : ∀ gx gm, Inv gx gm → Cl shx gx → Cl shm gm → VV E cw sw (wq (xT E) adx gx shx ++ wq (xT E) adm gm shm) 1212 [(3, .int x3), (2, .ref (adm 0)), (1, .ref (adx 0)), (0, .ref b)] []) : VV E cw sw (wq (xT E) adx Gx shx ++ wq (xT E) adm Gm shm) 883 [(3, .int x3), (2, .ref (adm 0)), (1, .ref (adx 0)), (0, .ref b)] [] := by
  obtain ⟨r, gx, gm, hx, hm, hI⟩ := hst
  refine v_aload_n C 2 dL_law_883 rfl rfl ?_
  refine v_aload_n C 3 dL_law_884 rfl rfl ?_
  refine v_iload_n C 0 dL_law_885 rfl rfl ?_
  refine v_iconst (v := 1) C dL_law_886 (by decide) ?_
  refine v_iadd C dL_law_887 ?_
  refine v_scr C hX hbl hbA hi1 dL_law_888 ?_
  refine v_aload_n C 3 dL_law_889 rfl rfl ?_
  refine v_iload_n C 0 dL_law_890 rfl rfl ?_
  refine v_iconst (v := 2) C dL_law_891 (by decide) ?_
  refine v_iadd C dL_law_892 ?_
  refine v_scr C hX hbl hbA hi2 dL_law_893 ?_
  refine f_callV_l (As := [.int (xs0 (x3 + 1).toNatClampNeg), .int (xs0 (x3 + 2).toNatClampNeg)]) (rest := []) C (sX10_stonesIn hx0 hx) ycs_L_111 (by decide) hx0 rfl hCx rfl rfl rfl (Nat.le_of_ble_eq_true rfl) hcw dL_law_894 (fun hCx => ?_)
  refine v_aload_n C 1 dL_law_897 rfl rfl ?_
  refine v_aload_n C 3 dL_law_898 rfl rfl ?_
  refine v_iload_n C 0 dL_law_899 rfl rfl ?_
  refine v_iconst (v := 1) C dL_law_900 (by decide) ?_
  refine v_iadd C dL_law_901 ?_
  refine v_scr C hX hbl hbA hi1 dL_law_902 ?_
  refine v_aload_n C 3 dL_law_903 rfl rfl ?_
  refine v_iload_n C 0 dL_law_904 rfl rfl ?_
  refine v_iconst (v := 2) C dL_law_905 (by decide) ?_
  refine v_iadd C dL_law_906 ?_
  refine v_scr C hX hbl hbA hi2 dL_law_907 ?_
  refine f_callV_r (As := [.int (xs0 (x3 + 1).toNatClampNeg), .int (xs0 (x3 + 2).toNatClampNeg)]) (rest := [.int r]) C (sX11_stonesIn hm0 hm) ycs_L_114 (by decide) hm0 rfl hCm rfl rfl rfl (Nat.le_of_ble_eq_true rfl) hcw dL_law_908 (fun hCm => ?_)
  refine v_icmp_eq (tgt := 1212) C dL_law_911 (by decide) (fun _ => ?_) (fun c => absurd rfl c)
  exact kn _ _ hI hCx hCm
def Step24 (shx shm : Sh) (Inv : Hp → Hp → Prop) (Gx Gm : Hp) (y0 : Int32) : Prop := ∃ (r : Int32) (gx : Hp) (gm : Hp), fX10_openIn shx Gx 0 y0 = some (r, gx) ∧ fX11_openIn shm Gm 0 y0 = some (r, gm) ∧ Inv gx gm
set_option maxHeartbeats 4000000 in
theorem law_case_24 {E : EX} {b L : Nat} {xs0 : Nat → Int32} {shx shm : Sh} {adx adm : Nat → Nat} {Gx Gm : Hp} {cw sw : Nat} {x3 : Int32} {Inv : Hp → Hp → Prop} (C : Cx E RL cL_law 4 (some .boolean) 1000 600000 7302250) (hX : va_X b L xs0 (xs E) (xs E).heap) (hbl : b < (xs E).heap.size) (hbA : ¬ xA E b) (hx0 : shx[0]? = some (0, 10)) (hm0 : shm[0]? = some (0, 11)) (hCx : Cl shx Gx) (hCm : Cl shm Gm) (hcw : cw ≤ 600000 ∧ sw ≤ 7302250) (hi1 : vp_in (x3 + 1) L) (hst : Step24 shx shm Inv Gx Gm (xs0 (x3 + 1).toNatClampNeg)) (kn : ∀ gx gm, Inv gx gm → Cl shx gx → Cl shm gm → VV E cw sw (wq (xT E) adx gx shx ++ wq (xT E) adm gm shm) 1212 [(3, .int x3), (2, .ref (adm 0)), (1, .ref (adx 0)), (0, .ref b)] []) : VV E cw sw (wq (xT E) adx Gx shx ++ wq (xT E) adm Gm shm) 916 [(3, .int x3), (2, .ref (adm 0)), (1, .ref (adx 0)), (0, .ref b)] [] := by
  obtain ⟨r, gx, gm, hx, hm, hI⟩ := hst
  refine v_aload_n C 2 dL_law_916 rfl rfl ?_
  refine v_aload_n C 3 dL_law_917 rfl rfl ?_
  refine v_iload_n C 0 dL_law_918 rfl rfl ?_
  refine v_iconst (v := 1) C dL_law_919 (by decide) ?_
  refine v_iadd C dL_law_920 ?_
  refine v_scr C hX hbl hbA hi1 dL_law_921 ?_
  refine f_callV_l (As := [.int (xs0 (x3 + 1).toNatClampNeg)]) (rest := []) C (sX10_openIn hx0 hx) ycs_L_115 (by decide) hx0 rfl hCx rfl rfl rfl (Nat.le_of_ble_eq_true rfl) hcw dL_law_922 (fun hCx => ?_)
  refine v_aload_n C 1 dL_law_925 rfl rfl ?_
  refine v_aload_n C 3 dL_law_926 rfl rfl ?_
  refine v_iload_n C 0 dL_law_927 rfl rfl ?_
  refine v_iconst (v := 1) C dL_law_928 (by decide) ?_
  refine v_iadd C dL_law_929 ?_
  refine v_scr C hX hbl hbA hi1 dL_law_930 ?_
  refine f_callV_r (As := [.int (xs0 (x3 + 1).toNatClampNeg)]) (rest := [.int r]) C (sX11_openIn hm0 hm) ycs_L_118 (by decide) hm0 rfl hCm rfl rfl rfl (Nat.le_of_ble_eq_true rfl) hcw dL_law_931 (fun hCm => ?_)
  refine v_icmp_eq (tgt := 1212) C dL_law_934 (by decide) (fun _ => ?_) (fun c => absurd rfl c)
  exact kn _ _ hI hCx hCm
def Step25 (shx shm : Sh) (Inv : Hp → Hp → Prop) (Gx Gm : Hp) (y0 : Int32) (y1 : Int32) (y2 : Int32) : Prop := ∃ (r : Int32) (gx : Hp) (gm : Hp), fX10_year shx Gx 0 y0 y1 y2 = some (r, gx) ∧ fX11_year shm Gm 0 y0 y1 y2 = some (r, gm) ∧ Inv gx gm
set_option maxHeartbeats 4000000 in
theorem law_case_25 {E : EX} {b L : Nat} {xs0 : Nat → Int32} {shx shm : Sh} {adx adm : Nat → Nat} {Gx Gm : Hp} {cw sw : Nat} {x3 : Int32} {Inv : Hp → Hp → Prop} (C : Cx E RL cL_law 4 (some .boolean) 1000 600000 7302250) (hX : va_X b L xs0 (xs E) (xs E).heap) (hbl : b < (xs E).heap.size) (hbA : ¬ xA E b) (hx0 : shx[0]? = some (0, 10)) (hm0 : shm[0]? = some (0, 11)) (hCx : Cl shx Gx) (hCm : Cl shm Gm) (hcw : cw ≤ 600000 ∧ sw ≤ 7302250) (hi1 : vp_in (x3 + 1) L) (hi2 : vp_in (x3 + 2) L) (hi3 : vp_in (x3 + 3) L) (hst : Step25 shx shm Inv Gx Gm (xs0 (x3 + 1).toNatClampNeg) (xs0 (x3 + 2).toNatClampNeg) (xs0 (x3 + 3).toNatClampNeg)) (kn : ∀ gx gm, Inv gx gm → Cl shx gx → Cl shm gm → VV E cw sw (wq (xT E) adx gx shx ++ wq (xT E) adm gm shm) 1212 [(3, .int x3), (2, .ref (adm 0)), (1, .ref (adx 0)), (0, .ref b)] []) : VV E cw sw (wq (xT E) adx Gx shx ++ wq (xT E) adm Gm shm) 939 [(3, .int x3), (2, .ref (adm 0)), (1, .ref (adx 0)), (0, .ref b)] [] := by
  obtain ⟨r, gx, gm, hx, hm, hI⟩ := hst
  refine v_aload_n C 2 dL_law_939 rfl rfl ?_
  refine v_aload_n C 3 dL_law_940 rfl rfl ?_
  refine v_iload_n C 0 dL_law_941 rfl rfl ?_
  refine v_iconst (v := 1) C dL_law_942 (by decide) ?_
  refine v_iadd C dL_law_943 ?_
  refine v_scr C hX hbl hbA hi1 dL_law_944 ?_
  refine v_aload_n C 3 dL_law_945 rfl rfl ?_
  refine v_iload_n C 0 dL_law_946 rfl rfl ?_
  refine v_iconst (v := 2) C dL_law_947 (by decide) ?_
  refine v_iadd C dL_law_948 ?_
  refine v_scr C hX hbl hbA hi2 dL_law_949 ?_
  refine v_aload_n C 3 dL_law_950 rfl rfl ?_
  refine v_iload_n C 0 dL_law_951 rfl rfl ?_
  refine v_iconst (v := 3) C dL_law_952 (by decide) ?_
  refine v_iadd C dL_law_953 ?_
  refine v_scr C hX hbl hbA hi3 dL_law_954 ?_
  refine f_callV_l (As := [.int (xs0 (x3 + 1).toNatClampNeg), .int (xs0 (x3 + 2).toNatClampNeg), .int (xs0 (x3 + 3).toNatClampNeg)]) (rest := []) C (sX10_year hx0 hx) ycs_L_119 (by decide) hx0 rfl hCx rfl rfl rfl (Nat.le_of_ble_eq_true rfl) hcw dL_law_955 (fun hCx => ?_)
  refine v_aload_n C 1 dL_law_958 rfl rfl ?_
  refine v_aload_n C 3 dL_law_959 rfl rfl ?_
  refine v_iload_n C 0 dL_law_960 rfl rfl ?_
  refine v_iconst (v := 1) C dL_law_961 (by decide) ?_
  refine v_iadd C dL_law_962 ?_
  refine v_scr C hX hbl hbA hi1 dL_law_963 ?_
  refine v_aload_n C 3 dL_law_964 rfl rfl ?_
  refine v_iload_n C 0 dL_law_965 rfl rfl ?_
  refine v_iconst (v := 2) C dL_law_966 (by decide) ?_
  refine v_iadd C dL_law_967 ?_
  refine v_scr C hX hbl hbA hi2 dL_law_968 ?_
  refine v_aload_n C 3 dL_law_969 rfl rfl ?_
  refine v_iload_n C 0 dL_law_970 rfl rfl ?_
  refine v_iconst (v := 3) C dL_law_971 (by decide) ?_
  refine v_iadd C dL_law_972 ?_
  refine v_scr C hX hbl hbA hi3 dL_law_973 ?_
  refine f_callV_r (As := [.int (xs0 (x3 + 1).toNatClampNeg), .int (xs0 (x3 + 2).toNatClampNeg), .int (xs0 (x3 + 3).toNatClampNeg)]) (rest := [.int r]) C (sX11_year hm0 hm) ycs_L_122 (by decide) hm0 rfl hCm rfl rfl rfl (Nat.le_of_ble_eq_true rfl) hcw dL_law_974 (fun hCm => ?_)
  refine v_icmp_eq (tgt := 1212) C dL_law_977 (by decide) (fun _ => ?_) (fun c => absurd rfl c)
  exact kn _ _ hI hCx hCm
def Step26 (shx shm : Sh) (Inv : Hp → Hp → Prop) (Gx Gm : Hp) (y0 : Int32) (y1 : Int32) : Prop := ∃ (r : Int32) (gx : Hp) (gm : Hp), fX10_tell shx Gx 0 y0 y1 = some (r, gx) ∧ fX11_tell shm Gm 0 y0 y1 = some (r, gm) ∧ Inv gx gm
set_option maxHeartbeats 4000000 in
theorem law_case_26 {E : EX} {b L : Nat} {xs0 : Nat → Int32} {shx shm : Sh} {adx adm : Nat → Nat} {Gx Gm : Hp} {cw sw : Nat} {x3 : Int32} {Inv : Hp → Hp → Prop} (C : Cx E RL cL_law 4 (some .boolean) 1000 600000 7302250) (hX : va_X b L xs0 (xs E) (xs E).heap) (hbl : b < (xs E).heap.size) (hbA : ¬ xA E b) (hx0 : shx[0]? = some (0, 10)) (hm0 : shm[0]? = some (0, 11)) (hCx : Cl shx Gx) (hCm : Cl shm Gm) (hcw : cw ≤ 600000 ∧ sw ≤ 7302250) (hi1 : vp_in (x3 + 1) L) (hi2 : vp_in (x3 + 2) L) (hst : Step26 shx shm Inv Gx Gm (xs0 (x3 + 1).toNatClampNeg) (if (xs0 (x3 + 2).toNatClampNeg) = 0 then 0 else 1)) (kn : ∀ gx gm, Inv gx gm → Cl shx gx → Cl shm gm → VV E cw sw (wq (xT E) adx gx shx ++ wq (xT E) adm gm shm) 1212 [(3, .int x3), (2, .ref (adm 0)), (1, .ref (adx 0)), (0, .ref b)] []) : VV E cw sw (wq (xT E) adx Gx shx ++ wq (xT E) adm Gm shm) 982 [(3, .int x3), (2, .ref (adm 0)), (1, .ref (adx 0)), (0, .ref b)] [] := by
  obtain ⟨r, gx, gm, hx, hm, hI⟩ := hst
  refine v_aload_n C 2 dL_law_982 rfl rfl ?_
  refine v_aload_n C 3 dL_law_983 rfl rfl ?_
  refine v_iload_n C 0 dL_law_984 rfl rfl ?_
  refine v_iconst (v := 1) C dL_law_985 (by decide) ?_
  refine v_iadd C dL_law_986 ?_
  refine v_scr C hX hbl hbA hi1 dL_law_987 ?_
  refine v_aload_n C 3 dL_law_988 rfl rfl ?_
  refine v_iload_n C 0 dL_law_989 rfl rfl ?_
  refine v_iconst (v := 2) C dL_law_990 (by decide) ?_
  refine v_iadd C dL_law_991 ?_
  refine v_scr C hX hbl hbA hi2 dL_law_992 ?_
  refine v_if_eq (tgt := 1000) C dL_law_993 (by decide) (fun c => ?_) (fun c => ?_)
  · rw [if_pos c] at hx
    refine v_iconst (v := 0) C dL_law_1000 (by decide) ?_
    refine f_callV_l (As := [.int (xs0 (x3 + 1).toNatClampNeg), .int 0]) (rest := []) C (sX10_tell hx0 hx) ycs_L_123 (by decide) hx0 rfl hCx rfl rfl rfl (Nat.le_of_ble_eq_true rfl) hcw dL_law_1001 (fun hCx => ?_)
    refine v_aload_n C 1 dL_law_1004 rfl rfl ?_
    refine v_aload_n C 3 dL_law_1005 rfl rfl ?_
    refine v_iload_n C 0 dL_law_1006 rfl rfl ?_
    refine v_iconst (v := 1) C dL_law_1007 (by decide) ?_
    refine v_iadd C dL_law_1008 ?_
    refine v_scr C hX hbl hbA hi1 dL_law_1009 ?_
    refine v_aload_n C 3 dL_law_1010 rfl rfl ?_
    refine v_iload_n C 0 dL_law_1011 rfl rfl ?_
    refine v_iconst (v := 2) C dL_law_1012 (by decide) ?_
    refine v_iadd C dL_law_1013 ?_
    refine v_scr C hX hbl hbA hi2 dL_law_1014 ?_
    refine v_if_eq (tgt := 1022) C dL_law_1015 (by decide) (fun c => ?_) (fun c => ?_)
    · rw [if_pos c] at hm
      refine v_iconst (v := 0) C dL_law_1022 (by decide) ?_
      refine f_callV_r (As := [.int (xs0 (x3 + 1).toNatClampNeg), .int 0]) (rest := [.int r]) C (sX11_tell hm0 hm) ycs_L_127 (by decide) hm0 rfl hCm rfl rfl rfl (Nat.le_of_ble_eq_true rfl) hcw dL_law_1023 (fun hCm => ?_)
      refine v_icmp_eq (tgt := 1212) C dL_law_1026 (by decide) (fun _ => ?_) (fun c => absurd rfl c)
      exact kn _ _ hI hCx hCm
    · rw [if_neg c] at hm
      refine v_iconst (v := 1) C dL_law_1018 (by decide) ?_
      refine v_goto (tgt := 1023) C dL_law_1019 (by decide) ?_
      refine f_callV_r (As := [.int (xs0 (x3 + 1).toNatClampNeg), .int 1]) (rest := [.int r]) C (sX11_tell hm0 hm) ycs_L_127 (by decide) hm0 rfl hCm rfl rfl rfl (Nat.le_of_ble_eq_true rfl) hcw dL_law_1023 (fun hCm => ?_)
      refine v_icmp_eq (tgt := 1212) C dL_law_1026 (by decide) (fun _ => ?_) (fun c => absurd rfl c)
      exact kn _ _ hI hCx hCm
  · rw [if_neg c] at hx
    refine v_iconst (v := 1) C dL_law_996 (by decide) ?_
    refine v_goto (tgt := 1001) C dL_law_997 (by decide) ?_
    refine f_callV_l (As := [.int (xs0 (x3 + 1).toNatClampNeg), .int 1]) (rest := []) C (sX10_tell hx0 hx) ycs_L_123 (by decide) hx0 rfl hCx rfl rfl rfl (Nat.le_of_ble_eq_true rfl) hcw dL_law_1001 (fun hCx => ?_)
    refine v_aload_n C 1 dL_law_1004 rfl rfl ?_
    refine v_aload_n C 3 dL_law_1005 rfl rfl ?_
    refine v_iload_n C 0 dL_law_1006 rfl rfl ?_
    refine v_iconst (v := 1) C dL_law_1007 (by decide) ?_
    refine v_iadd C dL_law_1008 ?_
    refine v_scr C hX hbl hbA hi1 dL_law_1009 ?_
    refine v_aload_n C 3 dL_law_1010 rfl rfl ?_
    refine v_iload_n C 0 dL_law_1011 rfl rfl ?_
    refine v_iconst (v := 2) C dL_law_1012 (by decide) ?_
    refine v_iadd C dL_law_1013 ?_
    refine v_scr C hX hbl hbA hi2 dL_law_1014 ?_
    refine v_if_eq (tgt := 1022) C dL_law_1015 (by decide) (fun c => ?_) (fun c => ?_)
    · rw [if_pos c] at hm
      refine v_iconst (v := 0) C dL_law_1022 (by decide) ?_
      refine f_callV_r (As := [.int (xs0 (x3 + 1).toNatClampNeg), .int 0]) (rest := [.int r]) C (sX11_tell hm0 hm) ycs_L_127 (by decide) hm0 rfl hCm rfl rfl rfl (Nat.le_of_ble_eq_true rfl) hcw dL_law_1023 (fun hCm => ?_)
      refine v_icmp_eq (tgt := 1212) C dL_law_1026 (by decide) (fun _ => ?_) (fun c => absurd rfl c)
      exact kn _ _ hI hCx hCm
    · rw [if_neg c] at hm
      refine v_iconst (v := 1) C dL_law_1018 (by decide) ?_
      refine v_goto (tgt := 1023) C dL_law_1019 (by decide) ?_
      refine f_callV_r (As := [.int (xs0 (x3 + 1).toNatClampNeg), .int 1]) (rest := [.int r]) C (sX11_tell hm0 hm) ycs_L_127 (by decide) hm0 rfl hCm rfl rfl rfl (Nat.le_of_ble_eq_true rfl) hcw dL_law_1023 (fun hCm => ?_)
      refine v_icmp_eq (tgt := 1212) C dL_law_1026 (by decide) (fun _ => ?_) (fun c => absurd rfl c)
      exact kn _ _ hI hCx hCm
def Step27 (shx shm : Sh) (Inv : Hp → Hp → Prop) (Gx Gm : Hp)  : Prop := ∃ (r : Int32) (gx : Hp) (gm : Hp), fX10_forget shx Gx 0 = some (r, gx) ∧ fX11_forget shm Gm 0 = some (r, gm) ∧ Inv gx gm
set_option maxHeartbeats 4000000 in
theorem law_case_27 {E : EX} {b L : Nat} {xs0 : Nat → Int32} {shx shm : Sh} {adx adm : Nat → Nat} {Gx Gm : Hp} {cw sw : Nat} {x3 : Int32} {Inv : Hp → Hp → Prop} (C : Cx E RL cL_law 4 (some .boolean) 1000 600000 7302250) (hX : va_X b L xs0 (xs E) (xs E).heap) (hbl : b < (xs E).heap.size) (hbA : ¬ xA E b) (hx0 : shx[0]? = some (0, 10)) (hm0 : shm[0]? = some (0, 11)) (hCx : Cl shx Gx) (hCm : Cl shm Gm) (hcw : cw ≤ 600000 ∧ sw ≤ 7302250)  (hst : Step27 shx shm Inv Gx Gm ) (kn : ∀ gx gm, Inv gx gm → Cl shx gx → Cl shm gm → VV E cw sw (wq (xT E) adx gx shx ++ wq (xT E) adm gm shm) 1212 [(3, .int x3), (2, .ref (adm 0)), (1, .ref (adx 0)), (0, .ref b)] []) : VV E cw sw (wq (xT E) adx Gx shx ++ wq (xT E) adm Gm shm) 1031 [(3, .int x3), (2, .ref (adm 0)), (1, .ref (adx 0)), (0, .ref b)] [] := by
  obtain ⟨r, gx, gm, hx, hm, hI⟩ := hst
  refine v_aload_n C 2 dL_law_1031 rfl rfl ?_
  refine f_callV_l (As := []) (rest := []) C (sX10_forget hx0 hx) ycs_L_128 (by decide) hx0 rfl hCx rfl rfl rfl (Nat.le_of_ble_eq_true rfl) hcw dL_law_1032 (fun hCx => ?_)
  refine v_aload_n C 1 dL_law_1035 rfl rfl ?_
  refine f_callV_r (As := []) (rest := [.int r]) C (sX11_forget hm0 hm) ycs_L_131 (by decide) hm0 rfl hCm rfl rfl rfl (Nat.le_of_ble_eq_true rfl) hcw dL_law_1036 (fun hCm => ?_)
  refine v_icmp_eq (tgt := 1212) C dL_law_1039 (by decide) (fun _ => ?_) (fun c => absurd rfl c)
  exact kn _ _ hI hCx hCm
def Step28 (shx shm : Sh) (Inv : Hp → Hp → Prop) (Gx Gm : Hp) (y0 : Int32) (y1 : Int32) : Prop := ∃ (r : Int32) (gx : Hp) (gm : Hp), fX10_went shx Gx 0 y0 y1 = some (r, gx) ∧ fX11_went shm Gm 0 y0 y1 = some (r, gm) ∧ Inv gx gm
set_option maxHeartbeats 4000000 in
theorem law_case_28 {E : EX} {b L : Nat} {xs0 : Nat → Int32} {shx shm : Sh} {adx adm : Nat → Nat} {Gx Gm : Hp} {cw sw : Nat} {x3 : Int32} {Inv : Hp → Hp → Prop} (C : Cx E RL cL_law 4 (some .boolean) 1000 600000 7302250) (hX : va_X b L xs0 (xs E) (xs E).heap) (hbl : b < (xs E).heap.size) (hbA : ¬ xA E b) (hx0 : shx[0]? = some (0, 10)) (hm0 : shm[0]? = some (0, 11)) (hCx : Cl shx Gx) (hCm : Cl shm Gm) (hcw : cw ≤ 600000 ∧ sw ≤ 7302250) (hi1 : vp_in (x3 + 1) L) (hi2 : vp_in (x3 + 2) L) (hst : Step28 shx shm Inv Gx Gm (xs0 (x3 + 1).toNatClampNeg) (xs0 (x3 + 2).toNatClampNeg)) (kn : ∀ gx gm, Inv gx gm → Cl shx gx → Cl shm gm → VV E cw sw (wq (xT E) adx gx shx ++ wq (xT E) adm gm shm) 1212 [(3, .int x3), (2, .ref (adm 0)), (1, .ref (adx 0)), (0, .ref b)] []) : VV E cw sw (wq (xT E) adx Gx shx ++ wq (xT E) adm Gm shm) 1044 [(3, .int x3), (2, .ref (adm 0)), (1, .ref (adx 0)), (0, .ref b)] [] := by
  obtain ⟨r, gx, gm, hx, hm, hI⟩ := hst
  refine v_aload_n C 2 dL_law_1044 rfl rfl ?_
  refine v_aload_n C 3 dL_law_1045 rfl rfl ?_
  refine v_iload_n C 0 dL_law_1046 rfl rfl ?_
  refine v_iconst (v := 1) C dL_law_1047 (by decide) ?_
  refine v_iadd C dL_law_1048 ?_
  refine v_scr C hX hbl hbA hi1 dL_law_1049 ?_
  refine v_aload_n C 3 dL_law_1050 rfl rfl ?_
  refine v_iload_n C 0 dL_law_1051 rfl rfl ?_
  refine v_iconst (v := 2) C dL_law_1052 (by decide) ?_
  refine v_iadd C dL_law_1053 ?_
  refine v_scr C hX hbl hbA hi2 dL_law_1054 ?_
  refine f_callV_l (As := [.int (xs0 (x3 + 1).toNatClampNeg), .int (xs0 (x3 + 2).toNatClampNeg)]) (rest := []) C (sX10_went hx0 hx) ycs_L_132 (by decide) hx0 rfl hCx rfl rfl rfl (Nat.le_of_ble_eq_true rfl) hcw dL_law_1055 (fun hCx => ?_)
  refine v_aload_n C 1 dL_law_1058 rfl rfl ?_
  refine v_aload_n C 3 dL_law_1059 rfl rfl ?_
  refine v_iload_n C 0 dL_law_1060 rfl rfl ?_
  refine v_iconst (v := 1) C dL_law_1061 (by decide) ?_
  refine v_iadd C dL_law_1062 ?_
  refine v_scr C hX hbl hbA hi1 dL_law_1063 ?_
  refine v_aload_n C 3 dL_law_1064 rfl rfl ?_
  refine v_iload_n C 0 dL_law_1065 rfl rfl ?_
  refine v_iconst (v := 2) C dL_law_1066 (by decide) ?_
  refine v_iadd C dL_law_1067 ?_
  refine v_scr C hX hbl hbA hi2 dL_law_1068 ?_
  refine f_callV_r (As := [.int (xs0 (x3 + 1).toNatClampNeg), .int (xs0 (x3 + 2).toNatClampNeg)]) (rest := [.int r]) C (sX11_went hm0 hm) ycs_L_135 (by decide) hm0 rfl hCm rfl rfl rfl (Nat.le_of_ble_eq_true rfl) hcw dL_law_1069 (fun hCm => ?_)
  refine v_icmp_eq (tgt := 1212) C dL_law_1072 (by decide) (fun _ => ?_) (fun c => absurd rfl c)
  exact kn _ _ hI hCx hCm
def Step29 (shx shm : Sh) (Inv : Hp → Hp → Prop) (Gx Gm : Hp) (y0 : Int32) (y1 : Int32) : Prop := ∃ (r : Int32) (gx : Hp) (gm : Hp), fX10_sure shx Gx 0 y0 y1 = some (r, gx) ∧ fX11_sure shm Gm 0 y0 y1 = some (r, gm) ∧ Inv gx gm
set_option maxHeartbeats 4000000 in
theorem law_case_29 {E : EX} {b L : Nat} {xs0 : Nat → Int32} {shx shm : Sh} {adx adm : Nat → Nat} {Gx Gm : Hp} {cw sw : Nat} {x3 : Int32} {Inv : Hp → Hp → Prop} (C : Cx E RL cL_law 4 (some .boolean) 1000 600000 7302250) (hX : va_X b L xs0 (xs E) (xs E).heap) (hbl : b < (xs E).heap.size) (hbA : ¬ xA E b) (hx0 : shx[0]? = some (0, 10)) (hm0 : shm[0]? = some (0, 11)) (hCx : Cl shx Gx) (hCm : Cl shm Gm) (hcw : cw ≤ 600000 ∧ sw ≤ 7302250) (hi1 : vp_in (x3 + 1) L) (hi2 : vp_in (x3 + 2) L) (hst : Step29 shx shm Inv Gx Gm (xs0 (x3 + 1).toNatClampNeg) (xs0 (x3 + 2).toNatClampNeg)) (kn : ∀ gx gm, Inv gx gm → Cl shx gx → Cl shm gm → VV E cw sw (wq (xT E) adx gx shx ++ wq (xT E) adm gm shm) 1212 [(3, .int x3), (2, .ref (adm 0)), (1, .ref (adx 0)), (0, .ref b)] []) : VV E cw sw (wq (xT E) adx Gx shx ++ wq (xT E) adm Gm shm) 1077 [(3, .int x3), (2, .ref (adm 0)), (1, .ref (adx 0)), (0, .ref b)] [] := by
  obtain ⟨r, gx, gm, hx, hm, hI⟩ := hst
  refine v_aload_n C 2 dL_law_1077 rfl rfl ?_
  refine v_aload_n C 3 dL_law_1078 rfl rfl ?_
  refine v_iload_n C 0 dL_law_1079 rfl rfl ?_
  refine v_iconst (v := 1) C dL_law_1080 (by decide) ?_
  refine v_iadd C dL_law_1081 ?_
  refine v_scr C hX hbl hbA hi1 dL_law_1082 ?_
  refine v_aload_n C 3 dL_law_1083 rfl rfl ?_
  refine v_iload_n C 0 dL_law_1084 rfl rfl ?_
  refine v_iconst (v := 2) C dL_law_1085 (by decide) ?_
  refine v_iadd C dL_law_1086 ?_
  refine v_scr C hX hbl hbA hi2 dL_law_1087 ?_
  refine f_callV_l (As := [.int (xs0 (x3 + 1).toNatClampNeg), .int (xs0 (x3 + 2).toNatClampNeg)]) (rest := []) C (sX10_sure hx0 hx) ycs_L_136 (by decide) hx0 rfl hCx rfl rfl rfl (Nat.le_of_ble_eq_true rfl) hcw dL_law_1088 (fun hCx => ?_)
  refine v_aload_n C 1 dL_law_1091 rfl rfl ?_
  refine v_aload_n C 3 dL_law_1092 rfl rfl ?_
  refine v_iload_n C 0 dL_law_1093 rfl rfl ?_
  refine v_iconst (v := 1) C dL_law_1094 (by decide) ?_
  refine v_iadd C dL_law_1095 ?_
  refine v_scr C hX hbl hbA hi1 dL_law_1096 ?_
  refine v_aload_n C 3 dL_law_1097 rfl rfl ?_
  refine v_iload_n C 0 dL_law_1098 rfl rfl ?_
  refine v_iconst (v := 2) C dL_law_1099 (by decide) ?_
  refine v_iadd C dL_law_1100 ?_
  refine v_scr C hX hbl hbA hi2 dL_law_1101 ?_
  refine f_callV_r (As := [.int (xs0 (x3 + 1).toNatClampNeg), .int (xs0 (x3 + 2).toNatClampNeg)]) (rest := [.int r]) C (sX11_sure hm0 hm) ycs_L_139 (by decide) hm0 rfl hCm rfl rfl rfl (Nat.le_of_ble_eq_true rfl) hcw dL_law_1102 (fun hCm => ?_)
  refine v_icmp_eq (tgt := 1212) C dL_law_1105 (by decide) (fun _ => ?_) (fun c => absurd rfl c)
  exact kn _ _ hI hCx hCm
def Step30 (shx shm : Sh) (Inv : Hp → Hp → Prop) (Gx Gm : Hp) (y0 : Int32) (y1 : Int32) : Prop := ∃ (r : Int32) (gx : Hp) (gm : Hp), fX10_ask shx Gx 0 y0 y1 = some (r, gx) ∧ fX11_ask shm Gm 0 y0 y1 = some (r, gm) ∧ Inv gx gm
set_option maxHeartbeats 4000000 in
theorem law_case_30 {E : EX} {b L : Nat} {xs0 : Nat → Int32} {shx shm : Sh} {adx adm : Nat → Nat} {Gx Gm : Hp} {cw sw : Nat} {x3 : Int32} {Inv : Hp → Hp → Prop} (C : Cx E RL cL_law 4 (some .boolean) 1000 600000 7302250) (hX : va_X b L xs0 (xs E) (xs E).heap) (hbl : b < (xs E).heap.size) (hbA : ¬ xA E b) (hx0 : shx[0]? = some (0, 10)) (hm0 : shm[0]? = some (0, 11)) (hCx : Cl shx Gx) (hCm : Cl shm Gm) (hcw : cw ≤ 600000 ∧ sw ≤ 7302250) (hi1 : vp_in (x3 + 1) L) (hi2 : vp_in (x3 + 2) L) (hst : Step30 shx shm Inv Gx Gm (xs0 (x3 + 1).toNatClampNeg) (xs0 (x3 + 2).toNatClampNeg)) (kn : ∀ gx gm, Inv gx gm → Cl shx gx → Cl shm gm → VV E cw sw (wq (xT E) adx gx shx ++ wq (xT E) adm gm shm) 1212 [(3, .int x3), (2, .ref (adm 0)), (1, .ref (adx 0)), (0, .ref b)] []) : VV E cw sw (wq (xT E) adx Gx shx ++ wq (xT E) adm Gm shm) 1110 [(3, .int x3), (2, .ref (adm 0)), (1, .ref (adx 0)), (0, .ref b)] [] := by
  obtain ⟨r, gx, gm, hx, hm, hI⟩ := hst
  refine v_aload_n C 2 dL_law_1110 rfl rfl ?_
  refine v_aload_n C 3 dL_law_1111 rfl rfl ?_
  refine v_iload_n C 0 dL_law_1112 rfl rfl ?_
  refine v_iconst (v := 1) C dL_law_1113 (by decide) ?_
  refine v_iadd C dL_law_1114 ?_
  refine v_scr C hX hbl hbA hi1 dL_law_1115 ?_
  refine v_aload_n C 3 dL_law_1116 rfl rfl ?_
  refine v_iload_n C 0 dL_law_1117 rfl rfl ?_
  refine v_iconst (v := 2) C dL_law_1118 (by decide) ?_
  refine v_iadd C dL_law_1119 ?_
  refine v_scr C hX hbl hbA hi2 dL_law_1120 ?_
  refine f_callV_l (As := [.int (xs0 (x3 + 1).toNatClampNeg), .int (xs0 (x3 + 2).toNatClampNeg)]) (rest := []) C (sX10_ask hx0 hx) ycs_L_140 (by decide) hx0 rfl hCx rfl rfl rfl (Nat.le_of_ble_eq_true rfl) hcw dL_law_1121 (fun hCx => ?_)
  refine v_aload_n C 1 dL_law_1124 rfl rfl ?_
  refine v_aload_n C 3 dL_law_1125 rfl rfl ?_
  refine v_iload_n C 0 dL_law_1126 rfl rfl ?_
  refine v_iconst (v := 1) C dL_law_1127 (by decide) ?_
  refine v_iadd C dL_law_1128 ?_
  refine v_scr C hX hbl hbA hi1 dL_law_1129 ?_
  refine v_aload_n C 3 dL_law_1130 rfl rfl ?_
  refine v_iload_n C 0 dL_law_1131 rfl rfl ?_
  refine v_iconst (v := 2) C dL_law_1132 (by decide) ?_
  refine v_iadd C dL_law_1133 ?_
  refine v_scr C hX hbl hbA hi2 dL_law_1134 ?_
  refine f_callV_r (As := [.int (xs0 (x3 + 1).toNatClampNeg), .int (xs0 (x3 + 2).toNatClampNeg)]) (rest := [.int r]) C (sX11_ask hm0 hm) ycs_L_143 (by decide) hm0 rfl hCm rfl rfl rfl (Nat.le_of_ble_eq_true rfl) hcw dL_law_1135 (fun hCm => ?_)
  refine v_icmp_eq (tgt := 1212) C dL_law_1138 (by decide) (fun _ => ?_) (fun c => absurd rfl c)
  exact kn _ _ hI hCx hCm
def Step31 (shx shm : Sh) (Inv : Hp → Hp → Prop) (Gx Gm : Hp) (y0 : Int32) : Prop := ∃ (r : Int32) (gx : Hp) (gm : Hp), fX10_hold shx Gx 0 y0 = some (r, gx) ∧ fX11_hold shm Gm 0 y0 = some (r, gm) ∧ Inv gx gm
set_option maxHeartbeats 4000000 in
theorem law_case_31 {E : EX} {b L : Nat} {xs0 : Nat → Int32} {shx shm : Sh} {adx adm : Nat → Nat} {Gx Gm : Hp} {cw sw : Nat} {x3 : Int32} {Inv : Hp → Hp → Prop} (C : Cx E RL cL_law 4 (some .boolean) 1000 600000 7302250) (hX : va_X b L xs0 (xs E) (xs E).heap) (hbl : b < (xs E).heap.size) (hbA : ¬ xA E b) (hx0 : shx[0]? = some (0, 10)) (hm0 : shm[0]? = some (0, 11)) (hCx : Cl shx Gx) (hCm : Cl shm Gm) (hcw : cw ≤ 600000 ∧ sw ≤ 7302250) (hi1 : vp_in (x3 + 1) L) (hst : Step31 shx shm Inv Gx Gm (xs0 (x3 + 1).toNatClampNeg)) (kn : ∀ gx gm, Inv gx gm → Cl shx gx → Cl shm gm → VV E cw sw (wq (xT E) adx gx shx ++ wq (xT E) adm gm shm) 1212 [(3, .int x3), (2, .ref (adm 0)), (1, .ref (adx 0)), (0, .ref b)] []) : VV E cw sw (wq (xT E) adx Gx shx ++ wq (xT E) adm Gm shm) 1143 [(3, .int x3), (2, .ref (adm 0)), (1, .ref (adx 0)), (0, .ref b)] [] := by
  obtain ⟨r, gx, gm, hx, hm, hI⟩ := hst
  refine v_aload_n C 2 dL_law_1143 rfl rfl ?_
  refine v_aload_n C 3 dL_law_1144 rfl rfl ?_
  refine v_iload_n C 0 dL_law_1145 rfl rfl ?_
  refine v_iconst (v := 1) C dL_law_1146 (by decide) ?_
  refine v_iadd C dL_law_1147 ?_
  refine v_scr C hX hbl hbA hi1 dL_law_1148 ?_
  refine f_callV_l (As := [.int (xs0 (x3 + 1).toNatClampNeg)]) (rest := []) C (sX10_hold hx0 hx) ycs_L_144 (by decide) hx0 rfl hCx rfl rfl rfl (Nat.le_of_ble_eq_true rfl) hcw dL_law_1149 (fun hCx => ?_)
  refine v_aload_n C 1 dL_law_1152 rfl rfl ?_
  refine v_aload_n C 3 dL_law_1153 rfl rfl ?_
  refine v_iload_n C 0 dL_law_1154 rfl rfl ?_
  refine v_iconst (v := 1) C dL_law_1155 (by decide) ?_
  refine v_iadd C dL_law_1156 ?_
  refine v_scr C hX hbl hbA hi1 dL_law_1157 ?_
  refine f_callV_r (As := [.int (xs0 (x3 + 1).toNatClampNeg)]) (rest := [.int r]) C (sX11_hold hm0 hm) ycs_L_148 (by decide) hm0 rfl hCm rfl rfl rfl (Nat.le_of_ble_eq_true rfl) hcw dL_law_1158 (fun hCm => ?_)
  refine v_icmp_eq (tgt := 1212) C dL_law_1161 (by decide) (fun _ => ?_) (fun c => absurd rfl c)
  exact kn _ _ hI hCx hCm
def Step32 (shx shm : Sh) (Inv : Hp → Hp → Prop) (Gx Gm : Hp) (y0 : Int32) : Prop := ∃ (r : Int32) (gx : Hp) (gm : Hp), fX10_restore shx Gx 0 y0 = some (r, gx) ∧ fX11_restore shm Gm 0 y0 = some (r, gm) ∧ Inv gx gm
set_option maxHeartbeats 4000000 in
theorem law_case_32 {E : EX} {b L : Nat} {xs0 : Nat → Int32} {shx shm : Sh} {adx adm : Nat → Nat} {Gx Gm : Hp} {cw sw : Nat} {x3 : Int32} {Inv : Hp → Hp → Prop} (C : Cx E RL cL_law 4 (some .boolean) 1000 600000 7302250) (hX : va_X b L xs0 (xs E) (xs E).heap) (hbl : b < (xs E).heap.size) (hbA : ¬ xA E b) (hx0 : shx[0]? = some (0, 10)) (hm0 : shm[0]? = some (0, 11)) (hCx : Cl shx Gx) (hCm : Cl shm Gm) (hcw : cw ≤ 600000 ∧ sw ≤ 7302250) (hi1 : vp_in (x3 + 1) L) (hst : Step32 shx shm Inv Gx Gm (xs0 (x3 + 1).toNatClampNeg)) (kn : ∀ gx gm, Inv gx gm → Cl shx gx → Cl shm gm → VV E cw sw (wq (xT E) adx gx shx ++ wq (xT E) adm gm shm) 1212 [(3, .int x3), (2, .ref (adm 0)), (1, .ref (adx 0)), (0, .ref b)] []) : VV E cw sw (wq (xT E) adx Gx shx ++ wq (xT E) adm Gm shm) 1166 [(3, .int x3), (2, .ref (adm 0)), (1, .ref (adx 0)), (0, .ref b)] [] := by
  obtain ⟨r, gx, gm, hx, hm, hI⟩ := hst
  refine v_aload_n C 2 dL_law_1166 rfl rfl ?_
  refine v_aload_n C 3 dL_law_1167 rfl rfl ?_
  refine v_iload_n C 0 dL_law_1168 rfl rfl ?_
  refine v_iconst (v := 1) C dL_law_1169 (by decide) ?_
  refine v_iadd C dL_law_1170 ?_
  refine v_scr C hX hbl hbA hi1 dL_law_1171 ?_
  refine f_callV_l (As := [.int (xs0 (x3 + 1).toNatClampNeg)]) (rest := []) C (sX10_restore hx0 hx) ycs_L_149 (by decide) hx0 rfl hCx rfl rfl rfl (Nat.le_of_ble_eq_true rfl) hcw dL_law_1172 (fun hCx => ?_)
  refine v_aload_n C 1 dL_law_1175 rfl rfl ?_
  refine v_aload_n C 3 dL_law_1176 rfl rfl ?_
  refine v_iload_n C 0 dL_law_1177 rfl rfl ?_
  refine v_iconst (v := 1) C dL_law_1178 (by decide) ?_
  refine v_iadd C dL_law_1179 ?_
  refine v_scr C hX hbl hbA hi1 dL_law_1180 ?_
  refine f_callV_r (As := [.int (xs0 (x3 + 1).toNatClampNeg)]) (rest := [.int r]) C (sX11_restore hm0 hm) ycs_L_152 (by decide) hm0 rfl hCm rfl rfl rfl (Nat.le_of_ble_eq_true rfl) hcw dL_law_1181 (fun hCm => ?_)
  refine v_icmp_eq (tgt := 1212) C dL_law_1184 (by decide) (fun _ => ?_) (fun c => absurd rfl c)
  exact kn _ _ hI hCx hCm
def Step33 (shx shm : Sh) (Inv : Hp → Hp → Prop) (Gx Gm : Hp) (y0 : Int32) : Prop := ∃ (r : Int32) (gm : Hp), fX10_count shx Gx 0 y0 = some r ∧ fX11_count shm Gm 0 y0 = some (r, gm) ∧ Inv Gx gm
set_option maxHeartbeats 4000000 in
theorem law_case_33 {E : EX} {b L : Nat} {xs0 : Nat → Int32} {shx shm : Sh} {adx adm : Nat → Nat} {Gx Gm : Hp} {cw sw : Nat} {x3 : Int32} {Inv : Hp → Hp → Prop} (C : Cx E RL cL_law 4 (some .boolean) 1000 600000 7302250) (hX : va_X b L xs0 (xs E) (xs E).heap) (hbl : b < (xs E).heap.size) (hbA : ¬ xA E b) (hx0 : shx[0]? = some (0, 10)) (hm0 : shm[0]? = some (0, 11)) (hCx : Cl shx Gx) (hCm : Cl shm Gm) (hcw : cw ≤ 600000 ∧ sw ≤ 7302250) (hi1 : vp_in (x3 + 1) L) (hst : Step33 shx shm Inv Gx Gm (xs0 (x3 + 1).toNatClampNeg)) (kn : ∀ gx gm, Inv gx gm → Cl shx gx → Cl shm gm → VV E cw sw (wq (xT E) adx gx shx ++ wq (xT E) adm gm shm) 1212 [(3, .int x3), (2, .ref (adm 0)), (1, .ref (adx 0)), (0, .ref b)] []) : VV E cw sw (wq (xT E) adx Gx shx ++ wq (xT E) adm Gm shm) 1189 [(3, .int x3), (2, .ref (adm 0)), (1, .ref (adx 0)), (0, .ref b)] [] := by
  obtain ⟨r, gm, hx, hm, hI⟩ := hst
  refine v_aload_n C 2 dL_law_1189 rfl rfl ?_
  refine v_aload_n C 3 dL_law_1190 rfl rfl ?_
  refine v_iload_n C 0 dL_law_1191 rfl rfl ?_
  refine v_iconst (v := 1) C dL_law_1192 (by decide) ?_
  refine v_iadd C dL_law_1193 ?_
  refine v_scr C hX hbl hbA hi1 dL_law_1194 ?_
  refine f_callV_l (As := [.int (xs0 (x3 + 1).toNatClampNeg)]) (rest := []) C (sX10_count hx0 hx) ycs_L_153 (by decide) hx0 rfl hCx rfl rfl rfl (Nat.le_of_ble_eq_true rfl) hcw dL_law_1195 (fun hCx => ?_)
  refine v_aload_n C 1 dL_law_1198 rfl rfl ?_
  refine v_aload_n C 3 dL_law_1199 rfl rfl ?_
  refine v_iload_n C 0 dL_law_1200 rfl rfl ?_
  refine v_iconst (v := 1) C dL_law_1201 (by decide) ?_
  refine v_iadd C dL_law_1202 ?_
  refine v_scr C hX hbl hbA hi1 dL_law_1203 ?_
  refine f_callV_r (As := [.int (xs0 (x3 + 1).toNatClampNeg)]) (rest := [.int r]) C (sX11_count hm0 hm) ycs_L_156 (by decide) hm0 rfl hCm rfl rfl rfl (Nat.le_of_ble_eq_true rfl) hcw dL_law_1204 (fun hCm => ?_)
  refine v_icmp_eq (tgt := 1212) C dL_law_1207 (by decide) (fun _ => ?_) (fun c => absurd rfl c)
  exact kn _ _ hI hCx hCm

def k_FT_append : ftM := (⟨"ForwardingTable", "append", "(IIIII)I"⟩, prog_1_method_2_code, 6, some .int, { frames := 1, cells := 0, slots := 0, locals := 22 })
theorem lw_FT_append : ft_lw k_FT_append 5 := ⟨ft_gt 1 (by decide +kernel) rfl, ft_gt 403 (by decide +kernel) rfl, by decide +kernel, by decide +kernel, by decide +kernel⟩
theorem li_FT_append : ft_g (.instanceMethod k_FT_append.1) ∧ ft_g (.selects k_FT_append.1.cls k_FT_append.1 k_FT_append.1) := ⟨ft_gt 401 (by decide +kernel) rfl, ft_gt 402 (by decide +kernel) rfl⟩
def k_FT_truncate : ftM := (⟨"ForwardingTable", "truncate", "(I)I"⟩, prog_1_method_3_code, 2, some .int, { frames := 0, cells := 0, slots := 0, locals := 0 })
theorem lw_FT_truncate : ft_lw k_FT_truncate 1 := ⟨ft_gt 1 (by decide +kernel) rfl, ft_gt 411 (by decide +kernel) rfl, by decide +kernel, by decide +kernel, by decide +kernel⟩
theorem li_FT_truncate : ft_g (.instanceMethod k_FT_truncate.1) ∧ ft_g (.selects k_FT_truncate.1.cls k_FT_truncate.1 k_FT_truncate.1) := ⟨ft_gt 409 (by decide +kernel) rfl, ft_gt 410 (by decide +kernel) rfl⟩
def k_FT_load : ftM := (⟨"ForwardingTable", "load", "()I"⟩, prog_1_method_4_code, 2, some .int, { frames := 10, cells := 0, slots := 0, locals := 249 })
theorem lw_FT_load : ft_lw k_FT_load 0 := ⟨ft_gt 1 (by decide +kernel) rfl, ft_gt 415 (by decide +kernel) rfl, by decide +kernel, by decide +kernel, by decide +kernel⟩
theorem li_FT_load : ft_g (.instanceMethod k_FT_load.1) ∧ ft_g (.selects k_FT_load.1.cls k_FT_load.1 k_FT_load.1) := ⟨ft_gt 413 (by decide +kernel) rfl, ft_gt 414 (by decide +kernel) rfl⟩
def k_FT_errorPosition : ftM := (⟨"ForwardingTable", "errorPosition", "()I"⟩, prog_1_method_5_code, 1, some .int, { frames := 0, cells := 0, slots := 0, locals := 0 })
theorem lw_FT_errorPosition : ft_lw k_FT_errorPosition 0 := ⟨ft_gt 1 (by decide +kernel) rfl, ft_gt 589 (by decide +kernel) rfl, by decide +kernel, by decide +kernel, by decide +kernel⟩
theorem li_FT_errorPosition : ft_g (.instanceMethod k_FT_errorPosition.1) ∧ ft_g (.selects k_FT_errorPosition.1.cls k_FT_errorPosition.1 k_FT_errorPosition.1) := ⟨ft_gt 587 (by decide +kernel) rfl, ft_gt 588 (by decide +kernel) rfl⟩
def k_FT_tapeLength : ftM := (⟨"ForwardingTable", "tapeLength", "()I"⟩, prog_1_method_6_code, 1, some .int, { frames := 0, cells := 0, slots := 0, locals := 0 })
theorem lw_FT_tapeLength : ft_lw k_FT_tapeLength 0 := ⟨ft_gt 1 (by decide +kernel) rfl, ft_gt 593 (by decide +kernel) rfl, by decide +kernel, by decide +kernel, by decide +kernel⟩
theorem li_FT_tapeLength : ft_g (.instanceMethod k_FT_tapeLength.1) ∧ ft_g (.selects k_FT_tapeLength.1.cls k_FT_tapeLength.1 k_FT_tapeLength.1) := ⟨ft_gt 591 (by decide +kernel) rfl, ft_gt 592 (by decide +kernel) rfl⟩
def k_FT_capacity : ftM := (⟨"ForwardingTable", "capacity", "()I"⟩, prog_1_method_7_code, 1, some .int, { frames := 0, cells := 0, slots := 0, locals := 0 })
theorem lw_FT_capacity : ft_lw k_FT_capacity 0 := ⟨ft_gt 1 (by decide +kernel) rfl, ft_gt 597 (by decide +kernel) rfl, by decide +kernel, by decide +kernel, by decide +kernel⟩
theorem li_FT_capacity : ft_g (.instanceMethod k_FT_capacity.1) ∧ ft_g (.selects k_FT_capacity.1.cls k_FT_capacity.1 k_FT_capacity.1) := ⟨ft_gt 595 (by decide +kernel) rfl, ft_gt 596 (by decide +kernel) rfl⟩
def k_FT_setCapacity : ftM := (⟨"ForwardingTable", "setCapacity", "(I)Z"⟩, prog_1_method_8_code, 2, some .boolean, { frames := 4, cells := 0, slots := 0, locals := 90 })
theorem lw_FT_setCapacity : ft_lw k_FT_setCapacity 1 := ⟨ft_gt 1 (by decide +kernel) rfl, ft_gt 601 (by decide +kernel) rfl, by decide +kernel, by decide +kernel, by decide +kernel⟩
theorem li_FT_setCapacity : ft_g (.instanceMethod k_FT_setCapacity.1) ∧ ft_g (.selects k_FT_setCapacity.1.cls k_FT_setCapacity.1 k_FT_setCapacity.1) := ⟨ft_gt 599 (by decide +kernel) rfl, ft_gt 600 (by decide +kernel) rfl⟩
def k_FT_routes : ftM := (⟨"ForwardingTable", "routes", "()I"⟩, prog_1_method_9_code, 1, some .int, { frames := 0, cells := 0, slots := 0, locals := 0 })
theorem lw_FT_routes : ft_lw k_FT_routes 0 := ⟨ft_gt 1 (by decide +kernel) rfl, ft_gt 619 (by decide +kernel) rfl, by decide +kernel, by decide +kernel, by decide +kernel⟩
theorem li_FT_routes : ft_g (.instanceMethod k_FT_routes.1) ∧ ft_g (.selects k_FT_routes.1.cls k_FT_routes.1 k_FT_routes.1) := ⟨ft_gt 617 (by decide +kernel) rfl, ft_gt 618 (by decide +kernel) rfl⟩
def k_FT_route : ftM := (⟨"ForwardingTable", "route", "(II)J"⟩, prog_1_method_10_code, 3, some .long, { frames := 5, cells := 0, slots := 0, locals := 123 })
theorem lw_FT_route : ft_lw k_FT_route 2 := ⟨ft_gt 1 (by decide +kernel) rfl, ft_gt 623 (by decide +kernel) rfl, by decide +kernel, by decide +kernel, by decide +kernel⟩
theorem li_FT_route : ft_g (.instanceMethod k_FT_route.1) ∧ ft_g (.selects k_FT_route.1.cls k_FT_route.1 k_FT_route.1) := ⟨ft_gt 621 (by decide +kernel) rfl, ft_gt 622 (by decide +kernel) rfl⟩
def k_FT_addRoute : ftM := (⟨"ForwardingTable", "addRoute", "(III)I"⟩, prog_1_method_11_code, 7, some .int, { frames := 4, cells := 0, slots := 0, locals := 93 })
theorem lw_FT_addRoute : ft_lw k_FT_addRoute 3 := ⟨ft_gt 1 (by decide +kernel) rfl, ft_gt 774 (by decide +kernel) rfl, by decide +kernel, by decide +kernel, by decide +kernel⟩
theorem li_FT_addRoute : ft_g (.instanceMethod k_FT_addRoute.1) ∧ ft_g (.selects k_FT_addRoute.1.cls k_FT_addRoute.1 k_FT_addRoute.1) := ⟨ft_gt 772 (by decide +kernel) rfl, ft_gt 773 (by decide +kernel) rfl⟩
def k_FT_removeRoute : ftM := (⟨"ForwardingTable", "removeRoute", "(II)I"⟩, prog_1_method_12_code, 6, some .int, { frames := 4, cells := 0, slots := 0, locals := 93 })
theorem lw_FT_removeRoute : ft_lw k_FT_removeRoute 2 := ⟨ft_gt 1 (by decide +kernel) rfl, ft_gt 801 (by decide +kernel) rfl, by decide +kernel, by decide +kernel, by decide +kernel⟩
theorem li_FT_removeRoute : ft_g (.instanceMethod k_FT_removeRoute.1) ∧ ft_g (.selects k_FT_removeRoute.1.cls k_FT_removeRoute.1 k_FT_removeRoute.1) := ⟨ft_gt 799 (by decide +kernel) rfl, ft_gt 800 (by decide +kernel) rfl⟩
def k_FT_answer : ftM := (⟨"ForwardingTable", "answer", "(I)I"⟩, prog_1_method_13_code, 2, some .int, { frames := 4, cells := 0, slots := 0, locals := 90 })
theorem lw_FT_answer : ft_lw k_FT_answer 1 := ⟨ft_gt 1 (by decide +kernel) rfl, ft_gt 809 (by decide +kernel) rfl, by decide +kernel, by decide +kernel, by decide +kernel⟩
theorem li_FT_answer : ft_g (.instanceMethod k_FT_answer.1) ∧ ft_g (.selects k_FT_answer.1.cls k_FT_answer.1 k_FT_answer.1) := ⟨ft_gt 807 (by decide +kernel) rfl, ft_gt 808 (by decide +kernel) rfl⟩
def k_FT_matching : ftM := (⟨"ForwardingTable", "matching", "(I)I"⟩, prog_1_method_14_code, 2, some .int, { frames := 3, cells := 0, slots := 0, locals := 67 })
theorem lw_FT_matching : ft_lw k_FT_matching 1 := ⟨ft_gt 1 (by decide +kernel) rfl, ft_gt 818 (by decide +kernel) rfl, by decide +kernel, by decide +kernel, by decide +kernel⟩
theorem li_FT_matching : ft_g (.instanceMethod k_FT_matching.1) ∧ ft_g (.selects k_FT_matching.1.cls k_FT_matching.1 k_FT_matching.1) := ⟨ft_gt 816 (by decide +kernel) rfl, ft_gt 817 (by decide +kernel) rfl⟩
def k_FT_packet : ftM := (⟨"ForwardingTable", "packet", "(II)I"⟩, prog_1_method_15_code, 6, some .int, { frames := 4, cells := 0, slots := 0, locals := 90 })
theorem lw_FT_packet : ft_lw k_FT_packet 2 := ⟨ft_gt 1 (by decide +kernel) rfl, ft_gt 822 (by decide +kernel) rfl, by decide +kernel, by decide +kernel, by decide +kernel⟩
theorem li_FT_packet : ft_g (.instanceMethod k_FT_packet.1) ∧ ft_g (.selects k_FT_packet.1.cls k_FT_packet.1 k_FT_packet.1) := ⟨ft_gt 820 (by decide +kernel) rfl, ft_gt 821 (by decide +kernel) rfl⟩
def k_FT_age : ftM := (⟨"ForwardingTable", "age", "()I"⟩, prog_1_method_16_code, 2, some .int, { frames := 4, cells := 0, slots := 0, locals := 90 })
theorem lw_FT_age : ft_lw k_FT_age 0 := ⟨ft_gt 1 (by decide +kernel) rfl, ft_gt 832 (by decide +kernel) rfl, by decide +kernel, by decide +kernel, by decide +kernel⟩
theorem li_FT_age : ft_g (.instanceMethod k_FT_age.1) ∧ ft_g (.selects k_FT_age.1.cls k_FT_age.1 k_FT_age.1) := ⟨ft_gt 830 (by decide +kernel) rfl, ft_gt 831 (by decide +kernel) rfl⟩
def k_FT_logged : ftM := (⟨"ForwardingTable", "logged", "()I"⟩, prog_1_method_17_code, 1, some .int, { frames := 0, cells := 0, slots := 0, locals := 0 })
theorem lw_FT_logged : ft_lw k_FT_logged 0 := ⟨ft_gt 1 (by decide +kernel) rfl, ft_gt 840 (by decide +kernel) rfl, by decide +kernel, by decide +kernel, by decide +kernel⟩
theorem li_FT_logged : ft_g (.instanceMethod k_FT_logged.1) ∧ ft_g (.selects k_FT_logged.1.cls k_FT_logged.1 k_FT_logged.1) := ⟨ft_gt 838 (by decide +kernel) rfl, ft_gt 839 (by decide +kernel) rfl⟩
def k_FT_log : ftM := (⟨"ForwardingTable", "log", "(II)J"⟩, prog_1_method_18_code, 3, some .long, { frames := 0, cells := 0, slots := 0, locals := 0 })
theorem lw_FT_log : ft_lw k_FT_log 2 := ⟨ft_gt 1 (by decide +kernel) rfl, ft_gt 844 (by decide +kernel) rfl, by decide +kernel, by decide +kernel, by decide +kernel⟩
theorem li_FT_log : ft_g (.instanceMethod k_FT_log.1) ∧ ft_g (.selects k_FT_log.1.cls k_FT_log.1 k_FT_log.1) := ⟨ft_gt 842 (by decide +kernel) rfl, ft_gt 843 (by decide +kernel) rfl⟩
def k_FT_compressed : ftM := (⟨"ForwardingTable", "compressed", "()I"⟩, prog_1_method_19_code, 1, some .int, { frames := 5, cells := 0, slots := 0, locals := 123 })
theorem lw_FT_compressed : ft_lw k_FT_compressed 0 := ⟨ft_gt 1 (by decide +kernel) rfl, ft_gt 848 (by decide +kernel) rfl, by decide +kernel, by decide +kernel, by decide +kernel⟩
theorem li_FT_compressed : ft_g (.instanceMethod k_FT_compressed.1) ∧ ft_g (.selects k_FT_compressed.1.cls k_FT_compressed.1 k_FT_compressed.1) := ⟨ft_gt 846 (by decide +kernel) rfl, ft_gt 847 (by decide +kernel) rfl⟩
def k_FT_entry : ftM := (⟨"ForwardingTable", "entry", "(II)J"⟩, prog_1_method_20_code, 3, some .long, { frames := 5, cells := 0, slots := 0, locals := 123 })
theorem lw_FT_entry : ft_lw k_FT_entry 2 := ⟨ft_gt 1 (by decide +kernel) rfl, ft_gt 852 (by decide +kernel) rfl, by decide +kernel, by decide +kernel, by decide +kernel⟩
theorem li_FT_entry : ft_g (.instanceMethod k_FT_entry.1) ∧ ft_g (.selects k_FT_entry.1.cls k_FT_entry.1 k_FT_entry.1) := ⟨ft_gt 850 (by decide +kernel) rfl, ft_gt 851 (by decide +kernel) rfl⟩
def k_FT_hopHits : ftM := (⟨"ForwardingTable", "hopHits", "(I)I"⟩, prog_1_method_21_code, 4, some .int, { frames := 4, cells := 0, slots := 0, locals := 90 })
theorem lw_FT_hopHits : ft_lw k_FT_hopHits 1 := ⟨ft_gt 1 (by decide +kernel) rfl, ft_gt 857 (by decide +kernel) rfl, by decide +kernel, by decide +kernel, by decide +kernel⟩
theorem li_FT_hopHits : ft_g (.instanceMethod k_FT_hopHits.1) ∧ ft_g (.selects k_FT_hopHits.1.cls k_FT_hopHits.1 k_FT_hopHits.1) := ⟨ft_gt 855 (by decide +kernel) rfl, ft_gt 856 (by decide +kernel) rfl⟩
def k_FT_busiest : ftM := (⟨"ForwardingTable", "busiest", "()I"⟩, prog_1_method_22_code, 4, some .int, { frames := 5, cells := 0, slots := 0, locals := 123 })
theorem lw_FT_busiest : ft_lw k_FT_busiest 0 := ⟨ft_gt 1 (by decide +kernel) rfl, ft_gt 861 (by decide +kernel) rfl, by decide +kernel, by decide +kernel, by decide +kernel⟩
theorem li_FT_busiest : ft_g (.instanceMethod k_FT_busiest.1) ∧ ft_g (.selects k_FT_busiest.1.cls k_FT_busiest.1 k_FT_busiest.1) := ⟨ft_gt 859 (by decide +kernel) rfl, ft_gt 860 (by decide +kernel) rfl⟩
def k_FT_coldest : ftM := (⟨"ForwardingTable", "coldest", "()I"⟩, prog_1_method_23_code, 4, some .int, { frames := 5, cells := 0, slots := 0, locals := 123 })
theorem lw_FT_coldest : ft_lw k_FT_coldest 0 := ⟨ft_gt 1 (by decide +kernel) rfl, ft_gt 865 (by decide +kernel) rfl, by decide +kernel, by decide +kernel, by decide +kernel⟩
theorem li_FT_coldest : ft_g (.instanceMethod k_FT_coldest.1) ∧ ft_g (.selects k_FT_coldest.1.cls k_FT_coldest.1 k_FT_coldest.1) := ⟨ft_gt 863 (by decide +kernel) rfl, ft_gt 864 (by decide +kernel) rfl⟩
def k_FT_exceptions : ftM := (⟨"ForwardingTable", "exceptions", "()I"⟩, prog_1_method_24_code, 3, some .int, { frames := 5, cells := 0, slots := 0, locals := 123 })
theorem lw_FT_exceptions : ft_lw k_FT_exceptions 0 := ⟨ft_gt 1 (by decide +kernel) rfl, ft_gt 869 (by decide +kernel) rfl, by decide +kernel, by decide +kernel, by decide +kernel⟩
theorem li_FT_exceptions : ft_g (.instanceMethod k_FT_exceptions.1) ∧ ft_g (.selects k_FT_exceptions.1.cls k_FT_exceptions.1 k_FT_exceptions.1) := ⟨ft_gt 867 (by decide +kernel) rfl, ft_gt 868 (by decide +kernel) rfl⟩
def k_FT_targetSize : ftM := (⟨"ForwardingTable", "targetSize", "()I"⟩, prog_1_method_25_code, 1, some .int, { frames := 5, cells := 0, slots := 0, locals := 123 })
theorem lw_FT_targetSize : ft_lw k_FT_targetSize 0 := ⟨ft_gt 1 (by decide +kernel) rfl, ft_gt 873 (by decide +kernel) rfl, by decide +kernel, by decide +kernel, by decide +kernel⟩
theorem li_FT_targetSize : ft_g (.instanceMethod k_FT_targetSize.1) ∧ ft_g (.selects k_FT_targetSize.1.cls k_FT_targetSize.1 k_FT_targetSize.1) := ⟨ft_gt 871 (by decide +kernel) rfl, ft_gt 872 (by decide +kernel) rfl⟩
def k_FT_target : ftM := (⟨"ForwardingTable", "target", "(II)J"⟩, prog_1_method_26_code, 3, some .long, { frames := 5, cells := 0, slots := 0, locals := 123 })
theorem lw_FT_target : ft_lw k_FT_target 2 := ⟨ft_gt 1 (by decide +kernel) rfl, ft_gt 877 (by decide +kernel) rfl, by decide +kernel, by decide +kernel, by decide +kernel⟩
theorem li_FT_target : ft_g (.instanceMethod k_FT_target.1) ∧ ft_g (.selects k_FT_target.1.cls k_FT_target.1 k_FT_target.1) := ⟨ft_gt 875 (by decide +kernel) rfl, ft_gt 876 (by decide +kernel) rfl⟩
def k_FT_lostHits : ftM := (⟨"ForwardingTable", "lostHits", "()I"⟩, prog_1_method_27_code, 1, some .int, { frames := 5, cells := 0, slots := 0, locals := 123 })
theorem lw_FT_lostHits : ft_lw k_FT_lostHits 0 := ⟨ft_gt 1 (by decide +kernel) rfl, ft_gt 881 (by decide +kernel) rfl, by decide +kernel, by decide +kernel, by decide +kernel⟩
theorem li_FT_lostHits : ft_g (.instanceMethod k_FT_lostHits.1) ∧ ft_g (.selects k_FT_lostHits.1.cls k_FT_lostHits.1 k_FT_lostHits.1) := ⟨ft_gt 879 (by decide +kernel) rfl, ft_gt 880 (by decide +kernel) rfl⟩
def k_FT_lostHitsWith : ftM := (⟨"ForwardingTable", "lostHitsWith", "(I)I"⟩, prog_1_method_28_code, 2, some .int, { frames := 5, cells := 0, slots := 0, locals := 123 })
theorem lw_FT_lostHitsWith : ft_lw k_FT_lostHitsWith 1 := ⟨ft_gt 1 (by decide +kernel) rfl, ft_gt 889 (by decide +kernel) rfl, by decide +kernel, by decide +kernel, by decide +kernel⟩
theorem li_FT_lostHitsWith : ft_g (.instanceMethod k_FT_lostHitsWith.1) ∧ ft_g (.selects k_FT_lostHitsWith.1.cls k_FT_lostHitsWith.1 k_FT_lostHitsWith.1) := ⟨ft_gt 887 (by decide +kernel) rfl, ft_gt 888 (by decide +kernel) rfl⟩
def k_FT_enough : ftM := (⟨"ForwardingTable", "enough", "()I"⟩, prog_1_method_29_code, 1, some .int, { frames := 5, cells := 0, slots := 0, locals := 123 })
theorem lw_FT_enough : ft_lw k_FT_enough 0 := ⟨ft_gt 1 (by decide +kernel) rfl, ft_gt 893 (by decide +kernel) rfl, by decide +kernel, by decide +kernel, by decide +kernel⟩
theorem li_FT_enough : ft_g (.instanceMethod k_FT_enough.1) ∧ ft_g (.selects k_FT_enough.1.cls k_FT_enough.1 k_FT_enough.1) := ⟨ft_gt 891 (by decide +kernel) rfl, ft_gt 892 (by decide +kernel) rfl⟩
def k_FT_hardwareSize : ftM := (⟨"ForwardingTable", "hardwareSize", "()I"⟩, prog_1_method_30_code, 1, some .int, { frames := 0, cells := 0, slots := 0, locals := 0 })
theorem lw_FT_hardwareSize : ft_lw k_FT_hardwareSize 0 := ⟨ft_gt 1 (by decide +kernel) rfl, ft_gt 898 (by decide +kernel) rfl, by decide +kernel, by decide +kernel, by decide +kernel⟩
theorem li_FT_hardwareSize : ft_g (.instanceMethod k_FT_hardwareSize.1) ∧ ft_g (.selects k_FT_hardwareSize.1.cls k_FT_hardwareSize.1 k_FT_hardwareSize.1) := ⟨ft_gt 896 (by decide +kernel) rfl, ft_gt 897 (by decide +kernel) rfl⟩
def k_FT_hardware : ftM := (⟨"ForwardingTable", "hardware", "(II)J"⟩, prog_1_method_31_code, 3, some .long, { frames := 2, cells := 0, slots := 0, locals := 43 })
theorem lw_FT_hardware : ft_lw k_FT_hardware 2 := ⟨ft_gt 1 (by decide +kernel) rfl, ft_gt 902 (by decide +kernel) rfl, by decide +kernel, by decide +kernel, by decide +kernel⟩
theorem li_FT_hardware : ft_g (.instanceMethod k_FT_hardware.1) ∧ ft_g (.selects k_FT_hardware.1.cls k_FT_hardware.1 k_FT_hardware.1) := ⟨ft_gt 900 (by decide +kernel) rfl, ft_gt 901 (by decide +kernel) rfl⟩
def k_FT_action : ftM := (⟨"ForwardingTable", "action", "(I)I"⟩, prog_1_method_32_code, 3, some .int, { frames := 3, cells := 0, slots := 0, locals := 67 })
theorem lw_FT_action : ft_lw k_FT_action 1 := ⟨ft_gt 1 (by decide +kernel) rfl, ft_gt 906 (by decide +kernel) rfl, by decide +kernel, by decide +kernel, by decide +kernel⟩
theorem li_FT_action : ft_g (.instanceMethod k_FT_action.1) ∧ ft_g (.selects k_FT_action.1.cls k_FT_action.1 k_FT_action.1) := ⟨ft_gt 904 (by decide +kernel) rfl, ft_gt 905 (by decide +kernel) rfl⟩
def k_FT_changes : ftM := (⟨"ForwardingTable", "changes", "()I"⟩, prog_1_method_33_code, 1, some .int, { frames := 5, cells := 0, slots := 0, locals := 123 })
theorem lw_FT_changes : ft_lw k_FT_changes 0 := ⟨ft_gt 1 (by decide +kernel) rfl, ft_gt 910 (by decide +kernel) rfl, by decide +kernel, by decide +kernel, by decide +kernel⟩
theorem li_FT_changes : ft_g (.instanceMethod k_FT_changes.1) ∧ ft_g (.selects k_FT_changes.1.cls k_FT_changes.1 k_FT_changes.1) := ⟨ft_gt 908 (by decide +kernel) rfl, ft_gt 909 (by decide +kernel) rfl⟩
def k_FT_change : ftM := (⟨"ForwardingTable", "change", "(II)J"⟩, prog_1_method_34_code, 3, some .long, { frames := 5, cells := 0, slots := 0, locals := 123 })
theorem lw_FT_change : ft_lw k_FT_change 2 := ⟨ft_gt 1 (by decide +kernel) rfl, ft_gt 914 (by decide +kernel) rfl, by decide +kernel, by decide +kernel, by decide +kernel⟩
theorem li_FT_change : ft_g (.instanceMethod k_FT_change.1) ∧ ft_g (.selects k_FT_change.1.cls k_FT_change.1 k_FT_change.1) := ⟨ft_gt 912 (by decide +kernel) rfl, ft_gt 913 (by decide +kernel) rfl⟩
def k_FT_missed : ftM := (⟨"ForwardingTable", "missed", "()I"⟩, prog_1_method_35_code, 1, some .int, { frames := 5, cells := 0, slots := 0, locals := 113 })
theorem lw_FT_missed : ft_lw k_FT_missed 0 := ⟨ft_gt 1 (by decide +kernel) rfl, ft_gt 919 (by decide +kernel) rfl, by decide +kernel, by decide +kernel, by decide +kernel⟩
theorem li_FT_missed : ft_g (.instanceMethod k_FT_missed.1) ∧ ft_g (.selects k_FT_missed.1.cls k_FT_missed.1 k_FT_missed.1) := ⟨ft_gt 917 (by decide +kernel) rfl, ft_gt 918 (by decide +kernel) rfl⟩
def k_FT_missedAfter : ftM := (⟨"ForwardingTable", "missedAfter", "(I)I"⟩, prog_1_method_36_code, 2, some .int, { frames := 5, cells := 0, slots := 0, locals := 123 })
theorem lw_FT_missedAfter : ft_lw k_FT_missedAfter 1 := ⟨ft_gt 1 (by decide +kernel) rfl, ft_gt 928 (by decide +kernel) rfl, by decide +kernel, by decide +kernel, by decide +kernel⟩
theorem li_FT_missedAfter : ft_g (.instanceMethod k_FT_missedAfter.1) ∧ ft_g (.selects k_FT_missedAfter.1.cls k_FT_missedAfter.1 k_FT_missedAfter.1) := ⟨ft_gt 926 (by decide +kernel) rfl, ft_gt 927 (by decide +kernel) rfl⟩
def k_FT_sync : ftM := (⟨"ForwardingTable", "sync", "(I)I"⟩, prog_1_method_37_code, 3, some .int, { frames := 5, cells := 0, slots := 0, locals := 123 })
theorem lw_FT_sync : ft_lw k_FT_sync 1 := ⟨ft_gt 1 (by decide +kernel) rfl, ft_gt 940 (by decide +kernel) rfl, by decide +kernel, by decide +kernel, by decide +kernel⟩
theorem li_FT_sync : ft_g (.instanceMethod k_FT_sync.1) ∧ ft_g (.selects k_FT_sync.1.cls k_FT_sync.1 k_FT_sync.1) := ⟨ft_gt 938 (by decide +kernel) rfl, ft_gt 939 (by decide +kernel) rfl⟩
def k_FT_clear : ftM := (⟨"ForwardingTable", "clear", "()I"⟩, prog_1_method_38_code, 2, some .int, { frames := 4, cells := 0, slots := 0, locals := 90 })
theorem lw_FT_clear : ft_lw k_FT_clear 0 := ⟨ft_gt 1 (by decide +kernel) rfl, ft_gt 944 (by decide +kernel) rfl, by decide +kernel, by decide +kernel, by decide +kernel⟩
theorem li_FT_clear : ft_g (.instanceMethod k_FT_clear.1) ∧ ft_g (.selects k_FT_clear.1.cls k_FT_clear.1 k_FT_clear.1) := ⟨ft_gt 942 (by decide +kernel) rfl, ft_gt 943 (by decide +kernel) rfl⟩
def k_FT_addresses : ftM := (⟨"ForwardingTable", "addresses", "(I)J"⟩, prog_1_method_39_code, 5, some .long, { frames := 5, cells := 0, slots := 0, locals := 123 })
theorem lw_FT_addresses : ft_lw k_FT_addresses 1 := ⟨ft_gt 1 (by decide +kernel) rfl, ft_gt 948 (by decide +kernel) rfl, by decide +kernel, by decide +kernel, by decide +kernel⟩
theorem li_FT_addresses : ft_g (.instanceMethod k_FT_addresses.1) ∧ ft_g (.selects k_FT_addresses.1.cls k_FT_addresses.1 k_FT_addresses.1) := ⟨ft_gt 946 (by decide +kernel) rfl, ft_gt 947 (by decide +kernel) rfl⟩
def k_FT_hardwareAddresses : ftM := (⟨"ForwardingTable", "hardwareAddresses", "()J"⟩, prog_1_method_40_code, 4, some .long, { frames := 4, cells := 0, slots := 0, locals := 93 })
theorem lw_FT_hardwareAddresses : ft_lw k_FT_hardwareAddresses 0 := ⟨ft_gt 1 (by decide +kernel) rfl, ft_gt 956 (by decide +kernel) rfl, by decide +kernel, by decide +kernel, by decide +kernel⟩
theorem li_FT_hardwareAddresses : ft_g (.instanceMethod k_FT_hardwareAddresses.1) ∧ ft_g (.selects k_FT_hardwareAddresses.1.cls k_FT_hardwareAddresses.1 k_FT_hardwareAddresses.1) := ⟨ft_gt 954 (by decide +kernel) rfl, ft_gt 955 (by decide +kernel) rfl⟩
def k_FT_nextOther : ftM := (⟨"ForwardingTable", "nextOther", "(I)J"⟩, prog_1_method_41_code, 5, some .long, { frames := 5, cells := 0, slots := 0, locals := 123 })
theorem lw_FT_nextOther : ft_lw k_FT_nextOther 1 := ⟨ft_gt 1 (by decide +kernel) rfl, ft_gt 960 (by decide +kernel) rfl, by decide +kernel, by decide +kernel, by decide +kernel⟩
theorem li_FT_nextOther : ft_g (.instanceMethod k_FT_nextOther.1) ∧ ft_g (.selects k_FT_nextOther.1.cls k_FT_nextOther.1 k_FT_nextOther.1) := ⟨ft_gt 958 (by decide +kernel) rfl, ft_gt 959 (by decide +kernel) rfl⟩
def k_FT_runs : ftM := (⟨"ForwardingTable", "runs", "()I"⟩, prog_1_method_42_code, 1, some .int, { frames := 5, cells := 0, slots := 0, locals := 123 })
theorem lw_FT_runs : ft_lw k_FT_runs 0 := ⟨ft_gt 1 (by decide +kernel) rfl, ft_gt 964 (by decide +kernel) rfl, by decide +kernel, by decide +kernel, by decide +kernel⟩
theorem li_FT_runs : ft_g (.instanceMethod k_FT_runs.1) ∧ ft_g (.selects k_FT_runs.1.cls k_FT_runs.1 k_FT_runs.1) := ⟨ft_gt 962 (by decide +kernel) rfl, ft_gt 963 (by decide +kernel) rfl⟩
def k_FT_isRedundant : ftM := (⟨"ForwardingTable", "isRedundant", "(I)Z"⟩, prog_1_method_43_code, 2, some .boolean, { frames := 5, cells := 0, slots := 0, locals := 123 })
theorem lw_FT_isRedundant : ft_lw k_FT_isRedundant 1 := ⟨ft_gt 1 (by decide +kernel) rfl, ft_gt 968 (by decide +kernel) rfl, by decide +kernel, by decide +kernel, by decide +kernel⟩
theorem li_FT_isRedundant : ft_g (.instanceMethod k_FT_isRedundant.1) ∧ ft_g (.selects k_FT_isRedundant.1.cls k_FT_isRedundant.1 k_FT_isRedundant.1) := ⟨ft_gt 966 (by decide +kernel) rfl, ft_gt 967 (by decide +kernel) rfl⟩
def k_FT_redundant : ftM := (⟨"ForwardingTable", "redundant", "()I"⟩, prog_1_method_44_code, 3, some .int, { frames := 5, cells := 0, slots := 0, locals := 123 })
theorem lw_FT_redundant : ft_lw k_FT_redundant 0 := ⟨ft_gt 1 (by decide +kernel) rfl, ft_gt 976 (by decide +kernel) rfl, by decide +kernel, by decide +kernel, by decide +kernel⟩
theorem li_FT_redundant : ft_g (.instanceMethod k_FT_redundant.1) ∧ ft_g (.selects k_FT_redundant.1.cls k_FT_redundant.1 k_FT_redundant.1) := ⟨ft_gt 974 (by decide +kernel) rfl, ft_gt 975 (by decide +kernel) rfl⟩
def k_FT_nesting : ftM := (⟨"ForwardingTable", "nesting", "()I"⟩, prog_1_method_45_code, 1, some .int, { frames := 5, cells := 0, slots := 0, locals := 123 })
theorem lw_FT_nesting : ft_lw k_FT_nesting 0 := ⟨ft_gt 1 (by decide +kernel) rfl, ft_gt 980 (by decide +kernel) rfl, by decide +kernel, by decide +kernel, by decide +kernel⟩
theorem li_FT_nesting : ft_g (.instanceMethod k_FT_nesting.1) ∧ ft_g (.selects k_FT_nesting.1.cls k_FT_nesting.1 k_FT_nesting.1) := ⟨ft_gt 978 (by decide +kernel) rfl, ft_gt 979 (by decide +kernel) rfl⟩
def k_FT_compressedWithout : ftM := (⟨"ForwardingTable", "compressedWithout", "(I)I"⟩, prog_1_method_46_code, 2, some .int, { frames := 5, cells := 0, slots := 0, locals := 123 })
theorem lw_FT_compressedWithout : ft_lw k_FT_compressedWithout 1 := ⟨ft_gt 1 (by decide +kernel) rfl, ft_gt 984 (by decide +kernel) rfl, by decide +kernel, by decide +kernel, by decide +kernel⟩
theorem li_FT_compressedWithout : ft_g (.instanceMethod k_FT_compressedWithout.1) ∧ ft_g (.selects k_FT_compressedWithout.1.cls k_FT_compressedWithout.1 k_FT_compressedWithout.1) := ⟨ft_gt 982 (by decide +kernel) rfl, ft_gt 983 (by decide +kernel) rfl⟩
def k_FT_costliest : ftM := (⟨"ForwardingTable", "costliest", "()I"⟩, prog_1_method_47_code, 5, some .int, { frames := 5, cells := 0, slots := 0, locals := 123 })
theorem lw_FT_costliest : ft_lw k_FT_costliest 0 := ⟨ft_gt 1 (by decide +kernel) rfl, ft_gt 992 (by decide +kernel) rfl, by decide +kernel, by decide +kernel, by decide +kernel⟩
theorem li_FT_costliest : ft_g (.instanceMethod k_FT_costliest.1) ∧ ft_g (.selects k_FT_costliest.1.cls k_FT_costliest.1 k_FT_costliest.1) := ⟨ft_gt 990 (by decide +kernel) rfl, ft_gt 991 (by decide +kernel) rfl⟩
def k_FT_count : ftM := (⟨"ForwardingTable", "count", "(I)J"⟩, prog_1_method_48_code, 2, some .long, { frames := 0, cells := 0, slots := 0, locals := 0 })
theorem lw_FT_count : ft_lw k_FT_count 1 := ⟨ft_gt 1 (by decide +kernel) rfl, ft_gt 996 (by decide +kernel) rfl, by decide +kernel, by decide +kernel, by decide +kernel⟩
theorem li_FT_count : ft_g (.instanceMethod k_FT_count.1) ∧ ft_g (.selects k_FT_count.1.cls k_FT_count.1 k_FT_count.1) := ⟨ft_gt 994 (by decide +kernel) rfl, ft_gt 995 (by decide +kernel) rfl⟩
def k_FT_undo : ftM := (⟨"ForwardingTable", "undo", "()I"⟩, prog_1_method_49_code, 1, some .int, { frames := 4, cells := 0, slots := 0, locals := 90 })
theorem lw_FT_undo : ft_lw k_FT_undo 0 := ⟨ft_gt 1 (by decide +kernel) rfl, ft_gt 1000 (by decide +kernel) rfl, by decide +kernel, by decide +kernel, by decide +kernel⟩
theorem li_FT_undo : ft_g (.instanceMethod k_FT_undo.1) ∧ ft_g (.selects k_FT_undo.1.cls k_FT_undo.1 k_FT_undo.1) := ⟨ft_gt 998 (by decide +kernel) rfl, ft_gt 999 (by decide +kernel) rfl⟩
def k_FT_reportLength : ftM := (⟨"ForwardingTable", "reportLength", "(I)I"⟩, prog_1_method_50_code, 2, some .int, { frames := 6, cells := 0, slots := 0, locals := 144 })
theorem lw_FT_reportLength : ft_lw k_FT_reportLength 1 := ⟨ft_gt 1 (by decide +kernel) rfl, ft_gt 1008 (by decide +kernel) rfl, by decide +kernel, by decide +kernel, by decide +kernel⟩
theorem li_FT_reportLength : ft_g (.instanceMethod k_FT_reportLength.1) ∧ ft_g (.selects k_FT_reportLength.1.cls k_FT_reportLength.1 k_FT_reportLength.1) := ⟨ft_gt 1006 (by decide +kernel) rfl, ft_gt 1007 (by decide +kernel) rfl⟩
def k_FT_reportByte : ftM := (⟨"ForwardingTable", "reportByte", "(II)I"⟩, prog_1_method_51_code, 3, some .int, { frames := 6, cells := 0, slots := 0, locals := 144 })
theorem lw_FT_reportByte : ft_lw k_FT_reportByte 2 := ⟨ft_gt 1 (by decide +kernel) rfl, ft_gt 1040 (by decide +kernel) rfl, by decide +kernel, by decide +kernel, by decide +kernel⟩
theorem li_FT_reportByte : ft_g (.instanceMethod k_FT_reportByte.1) ∧ ft_g (.selects k_FT_reportByte.1.cls k_FT_reportByte.1 k_FT_reportByte.1) := ⟨ft_gt 1038 (by decide +kernel) rfl, ft_gt 1039 (by decide +kernel) rfl⟩
def k_FT_settle : ftM := (⟨"ForwardingTable", "settle", "(I)V"⟩, prog_1_method_52_code, 2, none, { frames := 4, cells := 0, slots := 0, locals := 102 })
theorem lw_FT_settle : ft_lw k_FT_settle 1 := ⟨ft_gt 1 (by decide +kernel) rfl, ft_gt 640 (by decide +kernel) rfl, by decide +kernel, by decide +kernel, by decide +kernel⟩
theorem li_FT_settle : ft_g (.instanceMethod k_FT_settle.1) ∧ ft_g (.selects k_FT_settle.1.cls k_FT_settle.1 k_FT_settle.1) := ⟨ft_gt 639 (by decide +kernel) rfl, ft_gs 13 (by decide +kernel) rfl⟩
def k_FT_unsettle : ftM := (⟨"ForwardingTable", "unsettle", "(I)V"⟩, prog_1_method_53_code, 2, none, { frames := 1, cells := 0, slots := 0, locals := 21 })
theorem lw_FT_unsettle : ft_lw k_FT_unsettle 1 := ⟨ft_gt 1 (by decide +kernel) rfl, ft_gt 584 (by decide +kernel) rfl, by decide +kernel, by decide +kernel, by decide +kernel⟩
theorem li_FT_unsettle : ft_g (.instanceMethod k_FT_unsettle.1) ∧ ft_g (.selects k_FT_unsettle.1.cls k_FT_unsettle.1 k_FT_unsettle.1) := ⟨ft_gt 583 (by decide +kernel) rfl, ft_gs 12 (by decide +kernel) rfl⟩
def k_FT_writeReport : ftM := (⟨"ForwardingTable", "writeReport", "(I)V"⟩, prog_1_method_54_code, 2, none, { frames := 5, cells := 0, slots := 0, locals := 123 })
theorem lw_FT_writeReport : ft_lw k_FT_writeReport 1 := ⟨ft_gt 1 (by decide +kernel) rfl, ft_gt 1012 (by decide +kernel) rfl, by decide +kernel, by decide +kernel, by decide +kernel⟩
theorem li_FT_writeReport : ft_g (.instanceMethod k_FT_writeReport.1) ∧ ft_g (.selects k_FT_writeReport.1.cls k_FT_writeReport.1 k_FT_writeReport.1) := ⟨ft_gt 1011 (by decide +kernel) rfl, ft_gs 29 (by decide +kernel) rfl⟩
def k_FT_answerFor : ftM := (⟨"ForwardingTable", "answerFor", "(J)I"⟩, prog_1_method_55_code, 4, some .int, { frames := 3, cells := 0, slots := 0, locals := 67 })
theorem lw_FT_answerFor : ft_lw k_FT_answerFor 1 := ⟨ft_gt 1 (by decide +kernel) rfl, ft_gt 813 (by decide +kernel) rfl, by decide +kernel, by decide +kernel, by decide +kernel⟩
theorem li_FT_answerFor : ft_g (.instanceMethod k_FT_answerFor.1) ∧ ft_g (.selects k_FT_answerFor.1.cls k_FT_answerFor.1 k_FT_answerFor.1) := ⟨ft_gt 812 (by decide +kernel) rfl, ft_gs 26 (by decide +kernel) rfl⟩
def k_FT_changesNoAnswer : ftM := (⟨"ForwardingTable", "changesNoAnswer", "(I)Z"⟩, prog_1_method_56_code, 4, some .boolean, { frames := 0, cells := 0, slots := 0, locals := 0 })
theorem lw_FT_changesNoAnswer : ft_lw k_FT_changesNoAnswer 1 := ⟨ft_gt 1 (by decide +kernel) rfl, ft_gt 972 (by decide +kernel) rfl, by decide +kernel, by decide +kernel, by decide +kernel⟩
theorem li_FT_changesNoAnswer : ft_g (.instanceMethod k_FT_changesNoAnswer.1) ∧ ft_g (.selects k_FT_changesNoAnswer.1.cls k_FT_changesNoAnswer.1 k_FT_changesNoAnswer.1) := ⟨ft_gt 971 (by decide +kernel) rfl, ft_gs 27 (by decide +kernel) rfl⟩
def k_FT_entriesWithout : ftM := (⟨"ForwardingTable", "entriesWithout", "(I)I"⟩, prog_1_method_57_code, 2, some .int, { frames := 4, cells := 0, slots := 0, locals := 102 })
theorem lw_FT_entriesWithout : ft_lw k_FT_entriesWithout 1 := ⟨ft_gt 1 (by decide +kernel) rfl, ft_gt 988 (by decide +kernel) rfl, by decide +kernel, by decide +kernel, by decide +kernel⟩
theorem li_FT_entriesWithout : ft_g (.instanceMethod k_FT_entriesWithout.1) ∧ ft_g (.selects k_FT_entriesWithout.1.cls k_FT_entriesWithout.1 k_FT_entriesWithout.1) := ⟨ft_gt 987 (by decide +kernel) rfl, ft_gs 28 (by decide +kernel) rfl⟩
def k_FT_numberOrNotFound : ftM := (⟨"ForwardingTable", "numberOrNotFound", "(I)I"⟩, prog_1_method_58_code, 1, some .int, { frames := 0, cells := 0, slots := 0, locals := 0 })
theorem lw_FT_numberOrNotFound : ft_lw k_FT_numberOrNotFound 1 := ⟨ft_gt 1 (by decide +kernel) rfl, ft_gt 770 (by decide +kernel) rfl, by decide +kernel, by decide +kernel, by decide +kernel⟩
theorem lz_FT_numberOrNotFound : ft_g (.static k_FT_numberOrNotFound.1) := ft_gt 769 (by decide +kernel) rfl
def k_FT_isPrefix : ftM := (⟨"ForwardingTable", "isPrefix", "(II)Z"⟩, prog_1_method_59_code, 2, some .boolean, { frames := 1, cells := 0, slots := 0, locals := 22 })
theorem lw_FT_isPrefix : ft_lw k_FT_isPrefix 2 := ⟨ft_gt 1 (by decide +kernel) rfl, ft_gt 777 (by decide +kernel) rfl, by decide +kernel, by decide +kernel, by decide +kernel⟩
theorem lz_FT_isPrefix : ft_g (.static k_FT_isPrefix.1) := ft_gt 776 (by decide +kernel) rfl
def k_FT_isAligned : ftM := (⟨"ForwardingTable", "isAligned", "(JI)Z"⟩, prog_1_method_60_code, 3, some .boolean, { frames := 0, cells := 0, slots := 0, locals := 0 })
theorem lw_FT_isAligned : ft_lw k_FT_isAligned 2 := ⟨ft_gt 1 (by decide +kernel) rfl, ft_gt 517 (by decide +kernel) rfl, by decide +kernel, by decide +kernel, by decide +kernel⟩
theorem lz_FT_isAligned : ft_g (.static k_FT_isAligned.1) := ft_gt 516 (by decide +kernel) rfl
def k_FT_keyOf : ftM := (⟨"ForwardingTable", "keyOf", "(JI)J"⟩, prog_1_method_61_code, 3, some .long, { frames := 0, cells := 0, slots := 0, locals := 0 })
theorem lw_FT_keyOf : ft_lw k_FT_keyOf 2 := ⟨ft_gt 1 (by decide +kernel) rfl, ft_gt 521 (by decide +kernel) rfl, by decide +kernel, by decide +kernel, by decide +kernel⟩
theorem lz_FT_keyOf : ft_g (.static k_FT_keyOf.1) := ft_gt 520 (by decide +kernel) rfl
def k_FT_startOf : ftM := (⟨"ForwardingTable", "startOf", "(J)J"⟩, prog_1_method_62_code, 2, some .long, { frames := 0, cells := 0, slots := 0, locals := 0 })
theorem lw_FT_startOf : ft_lw k_FT_startOf 1 := ⟨ft_gt 1 (by decide +kernel) rfl, ft_gt 632 (by decide +kernel) rfl, by decide +kernel, by decide +kernel, by decide +kernel⟩
theorem lz_FT_startOf : ft_g (.static k_FT_startOf.1) := ft_gt 631 (by decide +kernel) rfl
def k_FT_lengthOf : ftM := (⟨"ForwardingTable", "lengthOf", "(J)I"⟩, prog_1_method_63_code, 2, some .int, { frames := 0, cells := 0, slots := 0, locals := 0 })
theorem lw_FT_lengthOf : ft_lw k_FT_lengthOf 1 := ⟨ft_gt 1 (by decide +kernel) rfl, ft_gt 635 (by decide +kernel) rfl, by decide +kernel, by decide +kernel, by decide +kernel⟩
theorem lz_FT_lengthOf : ft_g (.static k_FT_lengthOf.1) := ft_gt 634 (by decide +kernel) rfl
def k_FT_endOf : ftM := (⟨"ForwardingTable", "endOf", "(J)J"⟩, prog_1_method_64_code, 2, some .long, { frames := 0, cells := 0, slots := 0, locals := 0 })
theorem lw_FT_endOf : ft_lw k_FT_endOf 1 := ⟨ft_gt 1 (by decide +kernel) rfl, ft_gt 652 (by decide +kernel) rfl, by decide +kernel, by decide +kernel, by decide +kernel⟩
theorem lz_FT_endOf : ft_g (.static k_FT_endOf.1) := ft_gt 651 (by decide +kernel) rfl
def k_FT_contains : ftM := (⟨"ForwardingTable", "contains", "(JJ)Z"⟩, prog_1_method_65_code, 4, some .boolean, { frames := 1, cells := 0, slots := 0, locals := 21 })
theorem lw_FT_contains : ft_lw k_FT_contains 2 := ⟨ft_gt 1 (by decide +kernel) rfl, ft_gt 715 (by decide +kernel) rfl, by decide +kernel, by decide +kernel, by decide +kernel⟩
theorem lz_FT_contains : ft_g (.static k_FT_contains.1) := ft_gt 714 (by decide +kernel) rfl
def k_Mo_in : ftM := (⟨"ForwardingTableModel", "in", "(JJJ)Z"⟩, prog_13_method_3_code, 6, some .boolean, { frames := 0, cells := 0, slots := 0, locals := 0 })
theorem lw_Mo_in : ft_lw k_Mo_in 3 := ⟨ft_gt 12 (by decide +kernel) rfl, ft_gt 1201 (by decide +kernel) rfl, by decide +kernel, by decide +kernel, by decide +kernel⟩
theorem lz_Mo_in : ft_g (.static k_Mo_in.1) := ft_gt 1200 (by decide +kernel) rfl
def k_Mo_keepsPast : ftM := (⟨"ForwardingTableModel", "keepsPast", "()V"⟩, prog_13_method_4_code, 2, none, { frames := 0, cells := 0, slots := 0, locals := 0 })
theorem lw_Mo_keepsPast : ft_lw k_Mo_keepsPast 0 := ⟨ft_gt 12 (by decide +kernel) rfl, ft_gt 1277 (by decide +kernel) rfl, by decide +kernel, by decide +kernel, by decide +kernel⟩
theorem li_Mo_keepsPast : ft_g (.instanceMethod k_Mo_keepsPast.1) ∧ ft_g (.selects k_Mo_keepsPast.1.cls k_Mo_keepsPast.1 k_Mo_keepsPast.1) := ⟨ft_gt 1276 (by decide +kernel) rfl, ft_gs 43 (by decide +kernel) rfl⟩
def k_Mo_undo : ftM := (⟨"ForwardingTableModel", "undo", "()I"⟩, prog_13_method_5_code, 2, some .int, { frames := 0, cells := 0, slots := 0, locals := 0 })
theorem lw_Mo_undo : ft_lw k_Mo_undo 0 := ⟨ft_gt 12 (by decide +kernel) rfl, ft_gt 1185 (by decide +kernel) rfl, by decide +kernel, by decide +kernel, by decide +kernel⟩
theorem li_Mo_undo : ft_g (.instanceMethod k_Mo_undo.1) ∧ ft_g (.selects k_Mo_undo.1.cls k_Mo_undo.1 k_Mo_undo.1) := ⟨ft_gt 1183 (by decide +kernel) rfl, ft_gt 1184 (by decide +kernel) rfl⟩
def k_Mo_maskOf : ftM := (⟨"ForwardingTableModel", "maskOf", "(I)I"⟩, prog_13_method_6_code, 1, some .int, { frames := 0, cells := 0, slots := 0, locals := 0 })
theorem lw_Mo_maskOf : ft_lw k_Mo_maskOf 1 := ⟨ft_gt 12 (by decide +kernel) rfl, ft_gt 1237 (by decide +kernel) rfl, by decide +kernel, by decide +kernel, by decide +kernel⟩
theorem lz_Mo_maskOf : ft_g (.static k_Mo_maskOf.1) := ft_gt 1236 (by decide +kernel) rfl
def k_Mo_contains : ftM := (⟨"ForwardingTableModel", "contains", "(III)Z"⟩, prog_13_method_7_code, 3, some .boolean, { frames := 1, cells := 0, slots := 0, locals := 20 })
theorem lw_Mo_contains : ft_lw k_Mo_contains 3 := ⟨ft_gt 12 (by decide +kernel) rfl, ft_gt 1234 (by decide +kernel) rfl, by decide +kernel, by decide +kernel, by decide +kernel⟩
theorem lz_Mo_contains : ft_g (.static k_Mo_contains.1) := ft_gt 1233 (by decide +kernel) rfl
def k_Mo_unsigned : ftM := (⟨"ForwardingTableModel", "unsigned", "(I)J"⟩, prog_13_method_8_code, 1, some .long, { frames := 0, cells := 0, slots := 0, locals := 0 })
theorem lw_Mo_unsigned : ft_lw k_Mo_unsigned 1 := ⟨ft_gt 12 (by decide +kernel) rfl, ft_gt 1214 (by decide +kernel) rfl, by decide +kernel, by decide +kernel, by decide +kernel⟩
theorem lz_Mo_unsigned : ft_g (.static k_Mo_unsigned.1) := ft_gt 1213 (by decide +kernel) rfl
def k_Mo_sizeOf : ftM := (⟨"ForwardingTableModel", "sizeOf", "(I)J"⟩, prog_13_method_9_code, 1, some .long, { frames := 0, cells := 0, slots := 0, locals := 0 })
theorem lw_Mo_sizeOf : ft_lw k_Mo_sizeOf 1 := ⟨ft_gt 12 (by decide +kernel) rfl, ft_gt 1244 (by decide +kernel) rfl, by decide +kernel, by decide +kernel, by decide +kernel⟩
theorem lz_Mo_sizeOf : ft_g (.static k_Mo_sizeOf.1) := ft_gt 1243 (by decide +kernel) rfl
def k_Mo_isAhead : ftM := (⟨"ForwardingTableModel", "isAhead", "(IIII)Z"⟩, prog_13_method_10_code, 4, some .boolean, { frames := 1, cells := 0, slots := 0, locals := 20 })
theorem lw_Mo_isAhead : ft_lw k_Mo_isAhead 4 := ⟨ft_gt 12 (by decide +kernel) rfl, ft_gt 1284 (by decide +kernel) rfl, by decide +kernel, by decide +kernel, by decide +kernel⟩
theorem lz_Mo_isAhead : ft_g (.static k_Mo_isAhead.1) := ft_gt 1283 (by decide +kernel) rfl
def k_Mo_isPrefix : ftM := (⟨"ForwardingTableModel", "isPrefix", "(II)Z"⟩, prog_13_method_11_code, 2, some .boolean, { frames := 1, cells := 0, slots := 0, locals := 25 })
theorem lw_Mo_isPrefix : ft_lw k_Mo_isPrefix 2 := ⟨ft_gt 12 (by decide +kernel) rfl, ft_gt 1267 (by decide +kernel) rfl, by decide +kernel, by decide +kernel, by decide +kernel⟩
theorem lz_Mo_isPrefix : ft_g (.static k_Mo_isPrefix.1) := ft_gt 1266 (by decide +kernel) rfl
def k_Mo_placeOf : ftM := (⟨"ForwardingTableModel", "placeOf", "(IIII)I"⟩, prog_13_method_12_code, 6, some .int, { frames := 0, cells := 0, slots := 0, locals := 0 })
theorem lw_Mo_placeOf : ft_lw k_Mo_placeOf 4 := ⟨ft_gt 12 (by decide +kernel) rfl, ft_gt 1273 (by decide +kernel) rfl, by decide +kernel, by decide +kernel, by decide +kernel⟩
theorem li_Mo_placeOf : ft_g (.instanceMethod k_Mo_placeOf.1) ∧ ft_g (.selects k_Mo_placeOf.1.cls k_Mo_placeOf.1 k_Mo_placeOf.1) := ⟨ft_gt 1272 (by decide +kernel) rfl, ft_gs 42 (by decide +kernel) rfl⟩
def k_Mo_longest : ftM := (⟨"ForwardingTableModel", "longest", "(IIII)I"⟩, prog_13_method_13_code, 8, some .int, { frames := 2, cells := 0, slots := 0, locals := 42 })
theorem lw_Mo_longest : ft_lw k_Mo_longest 4 := ⟨ft_gt 12 (by decide +kernel) rfl, ft_gt 1231 (by decide +kernel) rfl, by decide +kernel, by decide +kernel, by decide +kernel⟩
theorem li_Mo_longest : ft_g (.instanceMethod k_Mo_longest.1) ∧ ft_g (.selects k_Mo_longest.1.cls k_Mo_longest.1 k_Mo_longest.1) := ⟨ft_gt 1230 (by decide +kernel) rfl, ft_gs 38 (by decide +kernel) rfl⟩
def k_Mo_putsIn : ftM := (⟨"ForwardingTableModel", "putsIn", "(IIIII)V"⟩, prog_13_method_14_code, 8, none, { frames := 2, cells := 0, slots := 0, locals := 43 })
theorem lw_Mo_putsIn : ft_lw k_Mo_putsIn 5 := ⟨ft_gt 12 (by decide +kernel) rfl, ft_gt 1281 (by decide +kernel) rfl, by decide +kernel, by decide +kernel, by decide +kernel⟩
theorem li_Mo_putsIn : ft_g (.instanceMethod k_Mo_putsIn.1) ∧ ft_g (.selects k_Mo_putsIn.1.cls k_Mo_putsIn.1 k_Mo_putsIn.1) := ⟨ft_gt 1280 (by decide +kernel) rfl, ft_gs 44 (by decide +kernel) rfl⟩
def k_Mo_takesOut : ftM := (⟨"ForwardingTableModel", "takesOut", "(III)V"⟩, prog_13_method_15_code, 5, none, { frames := 0, cells := 0, slots := 0, locals := 0 })
theorem lw_Mo_takesOut : ft_lw k_Mo_takesOut 3 := ⟨ft_gt 12 (by decide +kernel) rfl, ft_gt 1304 (by decide +kernel) rfl, by decide +kernel, by decide +kernel, by decide +kernel⟩
theorem li_Mo_takesOut : ft_g (.instanceMethod k_Mo_takesOut.1) ∧ ft_g (.selects k_Mo_takesOut.1.cls k_Mo_takesOut.1 k_Mo_takesOut.1) := ⟨ft_gt 1303 (by decide +kernel) rfl, ft_gs 49 (by decide +kernel) rfl⟩
def k_Mo_areaOf : ftM := (⟨"ForwardingTableModel", "areaOf", "(III)J"⟩, prog_13_method_16_code, 10, some .long, { frames := 3, cells := 0, slots := 0, locals := 69 })
theorem lw_Mo_areaOf : ft_lw k_Mo_areaOf 3 := ⟨ft_gt 12 (by decide +kernel) rfl, ft_gt 1241 (by decide +kernel) rfl, by decide +kernel, by decide +kernel, by decide +kernel⟩
theorem li_Mo_areaOf : ft_g (.instanceMethod k_Mo_areaOf.1) ∧ ft_g (.selects k_Mo_areaOf.1.cls k_Mo_areaOf.1 k_Mo_areaOf.1) := ⟨ft_gt 1240 (by decide +kernel) rfl, ft_gs 39 (by decide +kernel) rfl⟩
def k_Mo_isRoute : ftM := (⟨"ForwardingTableModel", "isRoute", "(I)Z"⟩, prog_13_method_17_code, 2, some .boolean, { frames := 1, cells := 0, slots := 0, locals := 25 })
theorem lw_Mo_isRoute : ft_lw k_Mo_isRoute 1 := ⟨ft_gt 12 (by decide +kernel) rfl, ft_gt 1206 (by decide +kernel) rfl, by decide +kernel, by decide +kernel, by decide +kernel⟩
theorem li_Mo_isRoute : ft_g (.instanceMethod k_Mo_isRoute.1) ∧ ft_g (.selects k_Mo_isRoute.1.cls k_Mo_isRoute.1 k_Mo_isRoute.1) := ⟨ft_gt 1205 (by decide +kernel) rfl, ft_gs 33 (by decide +kernel) rfl⟩
def k_Mo_valueOf : ftM := (⟨"ForwardingTableModel", "valueOf", "(I)I"⟩, prog_13_method_18_code, 2, some .int, { frames := 0, cells := 0, slots := 0, locals := 0 })
theorem lw_Mo_valueOf : ft_lw k_Mo_valueOf 1 := ⟨ft_gt 12 (by decide +kernel) rfl, ft_gt 1211 (by decide +kernel) rfl, by decide +kernel, by decide +kernel, by decide +kernel⟩
theorem li_Mo_valueOf : ft_g (.instanceMethod k_Mo_valueOf.1) ∧ ft_g (.selects k_Mo_valueOf.1.cls k_Mo_valueOf.1 k_Mo_valueOf.1) := ⟨ft_gt 1210 (by decide +kernel) rfl, ft_gs 34 (by decide +kernel) rfl⟩
def k_Mo_lengthOf : ftM := (⟨"ForwardingTableModel", "lengthOf", "(I)I"⟩, prog_13_method_19_code, 2, some .int, { frames := 0, cells := 0, slots := 0, locals := 0 })
theorem lw_Mo_lengthOf : ft_lw k_Mo_lengthOf 1 := ⟨ft_gt 12 (by decide +kernel) rfl, ft_gt 1219 (by decide +kernel) rfl, by decide +kernel, by decide +kernel, by decide +kernel⟩
theorem li_Mo_lengthOf : ft_g (.instanceMethod k_Mo_lengthOf.1) ∧ ft_g (.selects k_Mo_lengthOf.1.cls k_Mo_lengthOf.1 k_Mo_lengthOf.1) := ⟨ft_gt 1218 (by decide +kernel) rfl, ft_gs 35 (by decide +kernel) rfl⟩
def k_Mo_hopOf : ftM := (⟨"ForwardingTableModel", "hopOf", "(I)I"⟩, prog_13_method_20_code, 2, some .int, { frames := 0, cells := 0, slots := 0, locals := 0 })
theorem lw_Mo_hopOf : ft_lw k_Mo_hopOf 1 := ⟨ft_gt 12 (by decide +kernel) rfl, ft_gt 1223 (by decide +kernel) rfl, by decide +kernel, by decide +kernel, by decide +kernel⟩
theorem li_Mo_hopOf : ft_g (.instanceMethod k_Mo_hopOf.1) ∧ ft_g (.selects k_Mo_hopOf.1.cls k_Mo_hopOf.1 k_Mo_hopOf.1) := ⟨ft_gt 1222 (by decide +kernel) rfl, ft_gs 36 (by decide +kernel) rfl⟩
def k_Mo_matches : ftM := (⟨"ForwardingTableModel", "matches", "(I)I"⟩, prog_13_method_21_code, 2, some .int, { frames := 3, cells := 0, slots := 0, locals := 69 })
theorem lw_Mo_matches : ft_lw k_Mo_matches 1 := ⟨ft_gt 12 (by decide +kernel) rfl, ft_gt 1256 (by decide +kernel) rfl, by decide +kernel, by decide +kernel, by decide +kernel⟩
theorem li_Mo_matches : ft_g (.instanceMethod k_Mo_matches.1) ∧ ft_g (.selects k_Mo_matches.1.cls k_Mo_matches.1 k_Mo_matches.1) := ⟨ft_gt 1255 (by decide +kernel) rfl, ft_gs 41 (by decide +kernel) rfl⟩
def k_Mo_answers : ftM := (⟨"ForwardingTableModel", "answers", "(I)I"⟩, prog_13_method_22_code, 3, some .int, { frames := 4, cells := 0, slots := 0, locals := 90 })
theorem lw_Mo_answers : ft_lw k_Mo_answers 1 := ⟨ft_gt 12 (by decide +kernel) rfl, ft_gt 1252 (by decide +kernel) rfl, by decide +kernel, by decide +kernel, by decide +kernel⟩
theorem li_Mo_answers : ft_g (.instanceMethod k_Mo_answers.1) ∧ ft_g (.selects k_Mo_answers.1.cls k_Mo_answers.1 k_Mo_answers.1) := ⟨ft_gt 1251 (by decide +kernel) rfl, ft_gs 40 (by decide +kernel) rfl⟩
def k_Mo_parentOf : ftM := (⟨"ForwardingTableModel", "parentOf", "(I)I"⟩, prog_13_method_23_code, 2, some .int, { frames := 3, cells := 0, slots := 0, locals := 69 })
theorem lw_Mo_parentOf : ft_lw k_Mo_parentOf 1 := ⟨ft_gt 12 (by decide +kernel) rfl, ft_gt 1227 (by decide +kernel) rfl, by decide +kernel, by decide +kernel, by decide +kernel⟩
theorem li_Mo_parentOf : ft_g (.instanceMethod k_Mo_parentOf.1) ∧ ft_g (.selects k_Mo_parentOf.1.cls k_Mo_parentOf.1 k_Mo_parentOf.1) := ⟨ft_gt 1226 (by decide +kernel) rfl, ft_gs 37 (by decide +kernel) rfl⟩
def k_Mo_capacity : ftM := (⟨"ForwardingTableModel", "capacity", "()I"⟩, prog_13_method_24_code, 1, some .int, { frames := 0, cells := 0, slots := 0, locals := 0 })
theorem lw_Mo_capacity : ft_lw k_Mo_capacity 0 := ⟨ft_gt 12 (by decide +kernel) rfl, ft_gt 1189 (by decide +kernel) rfl, by decide +kernel, by decide +kernel, by decide +kernel⟩
theorem li_Mo_capacity : ft_g (.instanceMethod k_Mo_capacity.1) ∧ ft_g (.selects k_Mo_capacity.1.cls k_Mo_capacity.1 k_Mo_capacity.1) := ⟨ft_gt 1187 (by decide +kernel) rfl, ft_gt 1188 (by decide +kernel) rfl⟩
def k_Mo_routes : ftM := (⟨"ForwardingTableModel", "routes", "()I"⟩, prog_13_method_25_code, 1, some .int, { frames := 0, cells := 0, slots := 0, locals := 0 })
theorem lw_Mo_routes : ft_lw k_Mo_routes 0 := ⟨ft_gt 12 (by decide +kernel) rfl, ft_gt 1193 (by decide +kernel) rfl, by decide +kernel, by decide +kernel, by decide +kernel⟩
theorem li_Mo_routes : ft_g (.instanceMethod k_Mo_routes.1) ∧ ft_g (.selects k_Mo_routes.1.cls k_Mo_routes.1 k_Mo_routes.1) := ⟨ft_gt 1191 (by decide +kernel) rfl, ft_gt 1192 (by decide +kernel) rfl⟩
def k_Mo_route : ftM := (⟨"ForwardingTableModel", "route", "(II)J"⟩, prog_13_method_26_code, 3, some .long, { frames := 4, cells := 0, slots := 0, locals := 98 })
theorem lw_Mo_route : ft_lw k_Mo_route 2 := ⟨ft_gt 12 (by decide +kernel) rfl, ft_gt 1197 (by decide +kernel) rfl, by decide +kernel, by decide +kernel, by decide +kernel⟩
theorem li_Mo_route : ft_g (.instanceMethod k_Mo_route.1) ∧ ft_g (.selects k_Mo_route.1.cls k_Mo_route.1 k_Mo_route.1) := ⟨ft_gt 1195 (by decide +kernel) rfl, ft_gt 1196 (by decide +kernel) rfl⟩
def k_Mo_answer : ftM := (⟨"ForwardingTableModel", "answer", "(I)I"⟩, prog_13_method_27_code, 2, some .int, { frames := 5, cells := 0, slots := 0, locals := 112 })
theorem lw_Mo_answer : ft_lw k_Mo_answer 1 := ⟨ft_gt 12 (by decide +kernel) rfl, ft_gt 1248 (by decide +kernel) rfl, by decide +kernel, by decide +kernel, by decide +kernel⟩
theorem li_Mo_answer : ft_g (.instanceMethod k_Mo_answer.1) ∧ ft_g (.selects k_Mo_answer.1.cls k_Mo_answer.1 k_Mo_answer.1) := ⟨ft_gt 1246 (by decide +kernel) rfl, ft_gt 1247 (by decide +kernel) rfl⟩
def k_Mo_matching : ftM := (⟨"ForwardingTableModel", "matching", "(I)I"⟩, prog_13_method_28_code, 2, some .int, { frames := 4, cells := 0, slots := 0, locals := 90 })
theorem lw_Mo_matching : ft_lw k_Mo_matching 1 := ⟨ft_gt 12 (by decide +kernel) rfl, ft_gt 1260 (by decide +kernel) rfl, by decide +kernel, by decide +kernel, by decide +kernel⟩
theorem li_Mo_matching : ft_g (.instanceMethod k_Mo_matching.1) ∧ ft_g (.selects k_Mo_matching.1.cls k_Mo_matching.1 k_Mo_matching.1) := ⟨ft_gt 1258 (by decide +kernel) rfl, ft_gt 1259 (by decide +kernel) rfl⟩
def k_Mo_clears : ftM := (⟨"ForwardingTableModel", "clears", "()V"⟩, prog_13_method_29_code, 1, none, { frames := 0, cells := 0, slots := 0, locals := 0 })
theorem lw_Mo_clears : ft_lw k_Mo_clears 0 := ⟨ft_gt 12 (by decide +kernel) rfl, ft_gt 1312 (by decide +kernel) rfl, by decide +kernel, by decide +kernel, by decide +kernel⟩
theorem li_Mo_clears : ft_g (.instanceMethod k_Mo_clears.1) ∧ ft_g (.selects k_Mo_clears.1.cls k_Mo_clears.1 k_Mo_clears.1) := ⟨ft_gt 1311 (by decide +kernel) rfl, ft_gs 51 (by decide +kernel) rfl⟩
def k_Mo_valueIn : ftM := (⟨"ForwardingTableModel", "valueIn", "(I)I"⟩, prog_13_method_30_code, 2, some .int, { frames := 0, cells := 0, slots := 0, locals := 0 })
theorem lw_Mo_valueIn : ft_lw k_Mo_valueIn 1 := ⟨ft_gt 12 (by decide +kernel) rfl, ft_gt 1296 (by decide +kernel) rfl, by decide +kernel, by decide +kernel, by decide +kernel⟩
theorem li_Mo_valueIn : ft_g (.instanceMethod k_Mo_valueIn.1) ∧ ft_g (.selects k_Mo_valueIn.1.cls k_Mo_valueIn.1 k_Mo_valueIn.1) := ⟨ft_gt 1295 (by decide +kernel) rfl, ft_gs 47 (by decide +kernel) rfl⟩
def k_Mo_lengthIn : ftM := (⟨"ForwardingTableModel", "lengthIn", "(I)I"⟩, prog_13_method_31_code, 2, some .int, { frames := 0, cells := 0, slots := 0, locals := 0 })
theorem lw_Mo_lengthIn : ft_lw k_Mo_lengthIn 1 := ⟨ft_gt 12 (by decide +kernel) rfl, ft_gt 1292 (by decide +kernel) rfl, by decide +kernel, by decide +kernel, by decide +kernel⟩
theorem li_Mo_lengthIn : ft_g (.instanceMethod k_Mo_lengthIn.1) ∧ ft_g (.selects k_Mo_lengthIn.1.cls k_Mo_lengthIn.1 k_Mo_lengthIn.1) := ⟨ft_gt 1291 (by decide +kernel) rfl, ft_gs 46 (by decide +kernel) rfl⟩
def k_Mo_actionIn : ftM := (⟨"ForwardingTableModel", "actionIn", "(I)I"⟩, prog_13_method_32_code, 2, some .int, { frames := 0, cells := 0, slots := 0, locals := 0 })
theorem lw_Mo_actionIn : ft_lw k_Mo_actionIn 1 := ⟨ft_gt 12 (by decide +kernel) rfl, ft_gt 1359 (by decide +kernel) rfl, by decide +kernel, by decide +kernel, by decide +kernel⟩
theorem li_Mo_actionIn : ft_g (.instanceMethod k_Mo_actionIn.1) ∧ ft_g (.selects k_Mo_actionIn.1.cls k_Mo_actionIn.1 k_Mo_actionIn.1) := ⟨ft_gt 1358 (by decide +kernel) rfl, ft_gs 59 (by decide +kernel) rfl⟩
def k_Mo_actionFor : ftM := (⟨"ForwardingTableModel", "actionFor", "(I)I"⟩, prog_13_method_33_code, 3, some .int, { frames := 3, cells := 0, slots := 0, locals := 69 })
theorem lw_Mo_actionFor : ft_lw k_Mo_actionFor 1 := ⟨ft_gt 12 (by decide +kernel) rfl, ft_gt 1355 (by decide +kernel) rfl, by decide +kernel, by decide +kernel, by decide +kernel⟩
theorem li_Mo_actionFor : ft_g (.instanceMethod k_Mo_actionFor.1) ∧ ft_g (.selects k_Mo_actionFor.1.cls k_Mo_actionFor.1 k_Mo_actionFor.1) := ⟨ft_gt 1354 (by decide +kernel) rfl, ft_gs 58 (by decide +kernel) rfl⟩
def k_Mo_isHard : ftM := (⟨"ForwardingTableModel", "isHard", "(I)Z"⟩, prog_13_method_34_code, 2, some .boolean, { frames := 4, cells := 0, slots := 0, locals := 91 })
theorem lw_Mo_isHard : ft_lw k_Mo_isHard 1 := ⟨ft_gt 12 (by decide +kernel) rfl, ft_gt 1351 (by decide +kernel) rfl, by decide +kernel, by decide +kernel, by decide +kernel⟩
theorem li_Mo_isHard : ft_g (.instanceMethod k_Mo_isHard.1) ∧ ft_g (.selects k_Mo_isHard.1.cls k_Mo_isHard.1 k_Mo_isHard.1) := ⟨ft_gt 1350 (by decide +kernel) rfl, ft_gs 57 (by decide +kernel) rfl⟩
def k_Mo_putsHardware : ftM := (⟨"ForwardingTableModel", "putsHardware", "(III)V"⟩, prog_13_method_35_code, 4, none, { frames := 3, cells := 0, slots := 0, locals := 70 })
theorem lw_Mo_putsHardware : ft_lw k_Mo_putsHardware 3 := ⟨ft_gt 12 (by decide +kernel) rfl, ft_gt 1308 (by decide +kernel) rfl, by decide +kernel, by decide +kernel, by decide +kernel⟩
theorem li_Mo_putsHardware : ft_g (.instanceMethod k_Mo_putsHardware.1) ∧ ft_g (.selects k_Mo_putsHardware.1.cls k_Mo_putsHardware.1 k_Mo_putsHardware.1) := ⟨ft_gt 1307 (by decide +kernel) rfl, ft_gs 50 (by decide +kernel) rfl⟩
def k_Mo_takesHardware : ftM := (⟨"ForwardingTableModel", "takesHardware", "(I)V"⟩, prog_13_method_36_code, 2, none, { frames := 1, cells := 0, slots := 0, locals := 24 })
theorem lw_Mo_takesHardware : ft_lw k_Mo_takesHardware 1 := ⟨ft_gt 12 (by decide +kernel) rfl, ft_gt 1300 (by decide +kernel) rfl, by decide +kernel, by decide +kernel, by decide +kernel⟩
theorem li_Mo_takesHardware : ft_g (.instanceMethod k_Mo_takesHardware.1) ∧ ft_g (.selects k_Mo_takesHardware.1.cls k_Mo_takesHardware.1 k_Mo_takesHardware.1) := ⟨ft_gt 1299 (by decide +kernel) rfl, ft_gs 48 (by decide +kernel) rfl⟩
def k_Mo_routeChanged : ftM := (⟨"ForwardingTableModel", "routeChanged", "(II)V"⟩, prog_13_method_37_code, 4, none, { frames := 4, cells := 0, slots := 0, locals := 93 })
theorem lw_Mo_routeChanged : ft_lw k_Mo_routeChanged 2 := ⟨ft_gt 12 (by decide +kernel) rfl, ft_gt 1288 (by decide +kernel) rfl, by decide +kernel, by decide +kernel, by decide +kernel⟩
theorem li_Mo_routeChanged : ft_g (.instanceMethod k_Mo_routeChanged.1) ∧ ft_g (.selects k_Mo_routeChanged.1.cls k_Mo_routeChanged.1 k_Mo_routeChanged.1) := ⟨ft_gt 1287 (by decide +kernel) rfl, ft_gs 45 (by decide +kernel) rfl⟩
def k_Mo_addRoute : ftM := (⟨"ForwardingTableModel", "addRoute", "(III)I"⟩, prog_13_method_38_code, 6, some .int, { frames := 5, cells := 0, slots := 0, locals := 116 })
theorem lw_Mo_addRoute : ft_lw k_Mo_addRoute 3 := ⟨ft_gt 12 (by decide +kernel) rfl, ft_gt 1264 (by decide +kernel) rfl, by decide +kernel, by decide +kernel, by decide +kernel⟩
theorem li_Mo_addRoute : ft_g (.instanceMethod k_Mo_addRoute.1) ∧ ft_g (.selects k_Mo_addRoute.1.cls k_Mo_addRoute.1 k_Mo_addRoute.1) := ⟨ft_gt 1262 (by decide +kernel) rfl, ft_gt 1263 (by decide +kernel) rfl⟩
def k_Mo_removeRoute : ftM := (⟨"ForwardingTableModel", "removeRoute", "(II)I"⟩, prog_13_method_39_code, 5, some .int, { frames := 5, cells := 0, slots := 0, locals := 116 })
theorem lw_Mo_removeRoute : ft_lw k_Mo_removeRoute 2 := ⟨ft_gt 12 (by decide +kernel) rfl, ft_gt 1316 (by decide +kernel) rfl, by decide +kernel, by decide +kernel, by decide +kernel⟩
theorem li_Mo_removeRoute : ft_g (.instanceMethod k_Mo_removeRoute.1) ∧ ft_g (.selects k_Mo_removeRoute.1.cls k_Mo_removeRoute.1 k_Mo_removeRoute.1) := ⟨ft_gt 1314 (by decide +kernel) rfl, ft_gt 1315 (by decide +kernel) rfl⟩
def k_Mo_setCapacity : ftM := (⟨"ForwardingTableModel", "setCapacity", "(I)Z"⟩, prog_13_method_40_code, 2, some .boolean, { frames := 1, cells := 0, slots := 0, locals := 25 })
theorem lw_Mo_setCapacity : ft_lw k_Mo_setCapacity 1 := ⟨ft_gt 12 (by decide +kernel) rfl, ft_gt 1320 (by decide +kernel) rfl, by decide +kernel, by decide +kernel, by decide +kernel⟩
theorem li_Mo_setCapacity : ft_g (.instanceMethod k_Mo_setCapacity.1) ∧ ft_g (.selects k_Mo_setCapacity.1.cls k_Mo_setCapacity.1 k_Mo_setCapacity.1) := ⟨ft_gt 1318 (by decide +kernel) rfl, ft_gt 1319 (by decide +kernel) rfl⟩
def k_Mo_seenAt : ftM := (⟨"ForwardingTableModel", "seenAt", "(I)I"⟩, prog_13_method_41_code, 2, some .int, { frames := 0, cells := 0, slots := 0, locals := 0 })
theorem lw_Mo_seenAt : ft_lw k_Mo_seenAt 1 := ⟨ft_gt 12 (by decide +kernel) rfl, ft_gt 1334 (by decide +kernel) rfl, by decide +kernel, by decide +kernel, by decide +kernel⟩
theorem li_Mo_seenAt : ft_g (.instanceMethod k_Mo_seenAt.1) ∧ ft_g (.selects k_Mo_seenAt.1.cls k_Mo_seenAt.1 k_Mo_seenAt.1) := ⟨ft_gt 1333 (by decide +kernel) rfl, ft_gs 53 (by decide +kernel) rfl⟩
def k_Mo_timesAt : ftM := (⟨"ForwardingTableModel", "timesAt", "(I)I"⟩, prog_13_method_42_code, 2, some .int, { frames := 0, cells := 0, slots := 0, locals := 0 })
theorem lw_Mo_timesAt : ft_lw k_Mo_timesAt 1 := ⟨ft_gt 12 (by decide +kernel) rfl, ft_gt 1338 (by decide +kernel) rfl, by decide +kernel, by decide +kernel, by decide +kernel⟩
theorem li_Mo_timesAt : ft_g (.instanceMethod k_Mo_timesAt.1) ∧ ft_g (.selects k_Mo_timesAt.1.cls k_Mo_timesAt.1 k_Mo_timesAt.1) := ⟨ft_gt 1337 (by decide +kernel) rfl, ft_gs 54 (by decide +kernel) rfl⟩
def k_Mo_dropsSeen : ftM := (⟨"ForwardingTableModel", "dropsSeen", "(I)V"⟩, prog_13_method_43_code, 3, none, { frames := 0, cells := 0, slots := 0, locals := 0 })
theorem lw_Mo_dropsSeen : ft_lw k_Mo_dropsSeen 1 := ⟨ft_gt 12 (by decide +kernel) rfl, ft_gt 1347 (by decide +kernel) rfl, by decide +kernel, by decide +kernel, by decide +kernel⟩
theorem li_Mo_dropsSeen : ft_g (.instanceMethod k_Mo_dropsSeen.1) ∧ ft_g (.selects k_Mo_dropsSeen.1.cls k_Mo_dropsSeen.1 k_Mo_dropsSeen.1) := ⟨ft_gt 1346 (by decide +kernel) rfl, ft_gs 56 (by decide +kernel) rfl⟩
def k_Mo_rarest : ftM := (⟨"ForwardingTableModel", "rarest", "()I"⟩, prog_13_method_44_code, 3, some .int, { frames := 1, cells := 0, slots := 0, locals := 21 })
theorem lw_Mo_rarest : ft_lw k_Mo_rarest 0 := ⟨ft_gt 12 (by decide +kernel) rfl, ft_gt 1343 (by decide +kernel) rfl, by decide +kernel, by decide +kernel, by decide +kernel⟩
theorem li_Mo_rarest : ft_g (.instanceMethod k_Mo_rarest.1) ∧ ft_g (.selects k_Mo_rarest.1.cls k_Mo_rarest.1 k_Mo_rarest.1) := ⟨ft_gt 1342 (by decide +kernel) rfl, ft_gs 55 (by decide +kernel) rfl⟩
def k_Mo_logs : ftM := (⟨"ForwardingTableModel", "logs", "(II)V"⟩, prog_13_method_45_code, 4, none, { frames := 2, cells := 0, slots := 0, locals := 43 })
theorem lw_Mo_logs : ft_lw k_Mo_logs 2 := ⟨ft_gt 12 (by decide +kernel) rfl, ft_gt 1330 (by decide +kernel) rfl, by decide +kernel, by decide +kernel, by decide +kernel⟩
theorem li_Mo_logs : ft_g (.instanceMethod k_Mo_logs.1) ∧ ft_g (.selects k_Mo_logs.1.cls k_Mo_logs.1 k_Mo_logs.1) := ⟨ft_gt 1329 (by decide +kernel) rfl, ft_gs 52 (by decide +kernel) rfl⟩
def k_Mo_packet : ftM := (⟨"ForwardingTableModel", "packet", "(II)I"⟩, prog_13_method_46_code, 4, some .int, { frames := 5, cells := 0, slots := 0, locals := 112 })
theorem lw_Mo_packet : ft_lw k_Mo_packet 2 := ⟨ft_gt 12 (by decide +kernel) rfl, ft_gt 1325 (by decide +kernel) rfl, by decide +kernel, by decide +kernel, by decide +kernel⟩
theorem li_Mo_packet : ft_g (.instanceMethod k_Mo_packet.1) ∧ ft_g (.selects k_Mo_packet.1.cls k_Mo_packet.1 k_Mo_packet.1) := ⟨ft_gt 1323 (by decide +kernel) rfl, ft_gt 1324 (by decide +kernel) rfl⟩
def k_Mo_age : ftM := (⟨"ForwardingTableModel", "age", "()I"⟩, prog_13_method_47_code, 3, some .int, { frames := 1, cells := 0, slots := 0, locals := 22 })
theorem lw_Mo_age : ft_lw k_Mo_age 0 := ⟨ft_gt 12 (by decide +kernel) rfl, ft_gt 1363 (by decide +kernel) rfl, by decide +kernel, by decide +kernel, by decide +kernel⟩
theorem li_Mo_age : ft_g (.instanceMethod k_Mo_age.1) ∧ ft_g (.selects k_Mo_age.1.cls k_Mo_age.1 k_Mo_age.1) := ⟨ft_gt 1361 (by decide +kernel) rfl, ft_gt 1362 (by decide +kernel) rfl⟩
def k_Mo_logged : ftM := (⟨"ForwardingTableModel", "logged", "()I"⟩, prog_13_method_48_code, 1, some .int, { frames := 0, cells := 0, slots := 0, locals := 0 })
theorem lw_Mo_logged : ft_lw k_Mo_logged 0 := ⟨ft_gt 12 (by decide +kernel) rfl, ft_gt 1367 (by decide +kernel) rfl, by decide +kernel, by decide +kernel, by decide +kernel⟩
theorem li_Mo_logged : ft_g (.instanceMethod k_Mo_logged.1) ∧ ft_g (.selects k_Mo_logged.1.cls k_Mo_logged.1 k_Mo_logged.1) := ⟨ft_gt 1365 (by decide +kernel) rfl, ft_gt 1366 (by decide +kernel) rfl⟩
def k_Mo_log : ftM := (⟨"ForwardingTableModel", "log", "(II)J"⟩, prog_13_method_49_code, 3, some .long, { frames := 1, cells := 0, slots := 0, locals := 25 })
theorem lw_Mo_log : ft_lw k_Mo_log 2 := ⟨ft_gt 12 (by decide +kernel) rfl, ft_gt 1371 (by decide +kernel) rfl, by decide +kernel, by decide +kernel, by decide +kernel⟩
theorem li_Mo_log : ft_g (.instanceMethod k_Mo_log.1) ∧ ft_g (.selects k_Mo_log.1.cls k_Mo_log.1 k_Mo_log.1) := ⟨ft_gt 1369 (by decide +kernel) rfl, ft_gt 1370 (by decide +kernel) rfl⟩
def k_Mo_hopHits : ftM := (⟨"ForwardingTableModel", "hopHits", "(I)I"⟩, prog_13_method_50_code, 4, some .int, { frames := 5, cells := 0, slots := 0, locals := 112 })
theorem lw_Mo_hopHits : ft_lw k_Mo_hopHits 1 := ⟨ft_gt 12 (by decide +kernel) rfl, ft_gt 1375 (by decide +kernel) rfl, by decide +kernel, by decide +kernel, by decide +kernel⟩
theorem li_Mo_hopHits : ft_g (.instanceMethod k_Mo_hopHits.1) ∧ ft_g (.selects k_Mo_hopHits.1.cls k_Mo_hopHits.1 k_Mo_hopHits.1) := ⟨ft_gt 1373 (by decide +kernel) rfl, ft_gt 1374 (by decide +kernel) rfl⟩
def k_Mo_addsPart : ftM := (⟨"ForwardingTableModel", "addsPart", "(II)V"⟩, prog_13_method_51_code, 3, none, { frames := 0, cells := 0, slots := 0, locals := 0 })
theorem lw_Mo_addsPart : ft_lw k_Mo_addsPart 2 := ⟨ft_gt 12 (by decide +kernel) rfl, ft_gt 1395 (by decide +kernel) rfl, by decide +kernel, by decide +kernel, by decide +kernel⟩
theorem li_Mo_addsPart : ft_g (.instanceMethod k_Mo_addsPart.1) ∧ ft_g (.selects k_Mo_addsPart.1.cls k_Mo_addsPart.1 k_Mo_addsPart.1) := ⟨ft_gt 1394 (by decide +kernel) rfl, ft_gs 63 (by decide +kernel) rfl⟩
def k_Mo_hasRoutes : ftM := (⟨"ForwardingTableModel", "hasRoutes", "(II)Z"⟩, prog_13_method_52_code, 4, some .boolean, { frames := 2, cells := 0, slots := 0, locals := 42 })
theorem lw_Mo_hasRoutes : ft_lw k_Mo_hasRoutes 2 := ⟨ft_gt 12 (by decide +kernel) rfl, ft_gt 1399 (by decide +kernel) rfl, by decide +kernel, by decide +kernel, by decide +kernel⟩
theorem li_Mo_hasRoutes : ft_g (.instanceMethod k_Mo_hasRoutes.1) ∧ ft_g (.selects k_Mo_hasRoutes.1.cls k_Mo_hasRoutes.1 k_Mo_hasRoutes.1) := ⟨ft_gt 1398 (by decide +kernel) rfl, ft_gs 64 (by decide +kernel) rfl⟩
def k_Mo_laysParts : ftM := (⟨"ForwardingTableModel", "laysParts", "()V"⟩, prog_13_method_53_code, 4, none, { frames := 5, cells := 0, slots := 0, locals := 112 })
theorem lw_Mo_laysParts : ft_lw k_Mo_laysParts 0 := ⟨ft_gt 12 (by decide +kernel) rfl, ft_gt 1391 (by decide +kernel) rfl, by decide +kernel, by decide +kernel, by decide +kernel⟩
theorem li_Mo_laysParts : ft_g (.instanceMethod k_Mo_laysParts.1) ∧ ft_g (.selects k_Mo_laysParts.1.cls k_Mo_laysParts.1 k_Mo_laysParts.1) := ⟨ft_gt 1390 (by decide +kernel) rfl, ft_gs 62 (by decide +kernel) rfl⟩
def k_Mo_least : ftM := (⟨"ForwardingTableModel", "least", "(I)I"⟩, prog_13_method_54_code, 2, some .int, { frames := 0, cells := 0, slots := 0, locals := 0 })
theorem lw_Mo_least : ft_lw k_Mo_least 1 := ⟨ft_gt 12 (by decide +kernel) rfl, ft_gt 1402 (by decide +kernel) rfl, by decide +kernel, by decide +kernel, by decide +kernel⟩
theorem lz_Mo_least : ft_g (.static k_Mo_least.1) := ft_gt 1401 (by decide +kernel) rfl
def k_Mo_addsEntry : ftM := (⟨"ForwardingTableModel", "addsEntry", "(III)V"⟩, prog_13_method_55_code, 5, none, { frames := 2, cells := 0, slots := 0, locals := 43 })
theorem lw_Mo_addsEntry : ft_lw k_Mo_addsEntry 3 := ⟨ft_gt 12 (by decide +kernel) rfl, ft_gt 1406 (by decide +kernel) rfl, by decide +kernel, by decide +kernel, by decide +kernel⟩
theorem li_Mo_addsEntry : ft_g (.instanceMethod k_Mo_addsEntry.1) ∧ ft_g (.selects k_Mo_addsEntry.1.cls k_Mo_addsEntry.1 k_Mo_addsEntry.1) := ⟨ft_gt 1405 (by decide +kernel) rfl, ft_gs 65 (by decide +kernel) rfl⟩
def k_Mo_laysEntries : ftM := (⟨"ForwardingTableModel", "laysEntries", "()V"⟩, prog_13_method_56_code, 2, none, { frames := 6, cells := 0, slots := 0, locals := 135 })
theorem lw_Mo_laysEntries : ft_lw k_Mo_laysEntries 0 := ⟨ft_gt 12 (by decide +kernel) rfl, ft_gt 1387 (by decide +kernel) rfl, by decide +kernel, by decide +kernel, by decide +kernel⟩
theorem li_Mo_laysEntries : ft_g (.instanceMethod k_Mo_laysEntries.1) ∧ ft_g (.selects k_Mo_laysEntries.1.cls k_Mo_laysEntries.1 k_Mo_laysEntries.1) := ⟨ft_gt 1386 (by decide +kernel) rfl, ft_gs 61 (by decide +kernel) rfl⟩
def k_Mo_entryFor : ftM := (⟨"ForwardingTableModel", "entryFor", "(II)I"⟩, prog_13_method_57_code, 5, some .int, { frames := 2, cells := 0, slots := 0, locals := 42 })
theorem lw_Mo_entryFor : ft_lw k_Mo_entryFor 2 := ⟨ft_gt 12 (by decide +kernel) rfl, ft_gt 1414 (by decide +kernel) rfl, by decide +kernel, by decide +kernel, by decide +kernel⟩
theorem li_Mo_entryFor : ft_g (.instanceMethod k_Mo_entryFor.1) ∧ ft_g (.selects k_Mo_entryFor.1.cls k_Mo_entryFor.1 k_Mo_entryFor.1) := ⟨ft_gt 1413 (by decide +kernel) rfl, ft_gs 67 (by decide +kernel) rfl⟩
def k_Mo_at : ftM := (⟨"ForwardingTableModel", "at", "(III)I"⟩, prog_13_method_58_code, 3, some .int, { frames := 0, cells := 0, slots := 0, locals := 0 })
theorem lw_Mo_at : ft_lw k_Mo_at 3 := ⟨ft_gt 12 (by decide +kernel) rfl, ft_gt 1425 (by decide +kernel) rfl, by decide +kernel, by decide +kernel, by decide +kernel⟩
theorem lz_Mo_at : ft_g (.static k_Mo_at.1) := ft_gt 1424 (by decide +kernel) rfl
def k_Mo_startsLost : ftM := (⟨"ForwardingTableModel", "startsLost", "()V"⟩, prog_13_method_59_code, 3, none, { frames := 1, cells := 0, slots := 0, locals := 22 })
theorem lw_Mo_startsLost : ft_lw k_Mo_startsLost 0 := ⟨ft_gt 12 (by decide +kernel) rfl, ft_gt 1422 (by decide +kernel) rfl, by decide +kernel, by decide +kernel, by decide +kernel⟩
theorem li_Mo_startsLost : ft_g (.instanceMethod k_Mo_startsLost.1) ∧ ft_g (.selects k_Mo_startsLost.1.cls k_Mo_startsLost.1 k_Mo_startsLost.1) := ⟨ft_gt 1421 (by decide +kernel) rfl, ft_gs 69 (by decide +kernel) rfl⟩
def k_Mo_under : ftM := (⟨"ForwardingTableModel", "under", "(III)I"⟩, prog_13_method_60_code, 7, some .int, { frames := 1, cells := 0, slots := 0, locals := 22 })
theorem lw_Mo_under : ft_lw k_Mo_under 3 := ⟨ft_gt 12 (by decide +kernel) rfl, ft_gt 1434 (by decide +kernel) rfl, by decide +kernel, by decide +kernel, by decide +kernel⟩
theorem li_Mo_under : ft_g (.instanceMethod k_Mo_under.1) ∧ ft_g (.selects k_Mo_under.1.cls k_Mo_under.1 k_Mo_under.1) := ⟨ft_gt 1433 (by decide +kernel) rfl, ft_gs 71 (by decide +kernel) rfl⟩
def k_Mo_joins : ftM := (⟨"ForwardingTableModel", "joins", "(II)V"⟩, prog_13_method_61_code, 8, none, { frames := 2, cells := 0, slots := 0, locals := 48 })
theorem lw_Mo_joins : ft_lw k_Mo_joins 2 := ⟨ft_gt 12 (by decide +kernel) rfl, ft_gt 1430 (by decide +kernel) rfl, by decide +kernel, by decide +kernel, by decide +kernel⟩
theorem li_Mo_joins : ft_g (.instanceMethod k_Mo_joins.1) ∧ ft_g (.selects k_Mo_joins.1.cls k_Mo_joins.1 k_Mo_joins.1) := ⟨ft_gt 1429 (by decide +kernel) rfl, ft_gs 70 (by decide +kernel) rfl⟩
def k_Mo_laysLost : ftM := (⟨"ForwardingTableModel", "laysLost", "()V"⟩, prog_13_method_62_code, 2, none, { frames := 3, cells := 0, slots := 0, locals := 75 })
theorem lw_Mo_laysLost : ft_lw k_Mo_laysLost 0 := ⟨ft_gt 12 (by decide +kernel) rfl, ft_gt 1418 (by decide +kernel) rfl, by decide +kernel, by decide +kernel, by decide +kernel⟩
theorem li_Mo_laysLost : ft_g (.instanceMethod k_Mo_laysLost.1) ∧ ft_g (.selects k_Mo_laysLost.1.cls k_Mo_laysLost.1 k_Mo_laysLost.1) := ⟨ft_gt 1417 (by decide +kernel) rfl, ft_gs 68 (by decide +kernel) rfl⟩
def k_Mo_lostBy : ftM := (⟨"ForwardingTableModel", "lostBy", "(I)I"⟩, prog_13_method_63_code, 4, some .int, { frames := 1, cells := 0, slots := 0, locals := 22 })
theorem lw_Mo_lostBy : ft_lw k_Mo_lostBy 1 := ⟨ft_gt 12 (by decide +kernel) rfl, ft_gt 1438 (by decide +kernel) rfl, by decide +kernel, by decide +kernel, by decide +kernel⟩
theorem li_Mo_lostBy : ft_g (.instanceMethod k_Mo_lostBy.1) ∧ ft_g (.selects k_Mo_lostBy.1.cls k_Mo_lostBy.1 k_Mo_lostBy.1) := ⟨ft_gt 1437 (by decide +kernel) rfl, ft_gs 72 (by decide +kernel) rfl⟩
def k_Mo_fewestPlaces : ftM := (⟨"ForwardingTableModel", "fewestPlaces", "()I"⟩, prog_13_method_64_code, 2, some .int, { frames := 1, cells := 0, slots := 0, locals := 22 })
theorem lw_Mo_fewestPlaces : ft_lw k_Mo_fewestPlaces 0 := ⟨ft_gt 12 (by decide +kernel) rfl, ft_gt 1442 (by decide +kernel) rfl, by decide +kernel, by decide +kernel, by decide +kernel⟩
theorem li_Mo_fewestPlaces : ft_g (.instanceMethod k_Mo_fewestPlaces.1) ∧ ft_g (.selects k_Mo_fewestPlaces.1.cls k_Mo_fewestPlaces.1 k_Mo_fewestPlaces.1) := ⟨ft_gt 1441 (by decide +kernel) rfl, ft_gs 73 (by decide +kernel) rfl⟩
def k_Mo_laysHits : ftM := (⟨"ForwardingTableModel", "laysHits", "()V"⟩, prog_13_method_65_code, 3, none, { frames := 3, cells := 0, slots := 0, locals := 66 })
theorem lw_Mo_laysHits : ft_lw k_Mo_laysHits 0 := ⟨ft_gt 12 (by decide +kernel) rfl, ft_gt 1410 (by decide +kernel) rfl, by decide +kernel, by decide +kernel, by decide +kernel⟩
theorem li_Mo_laysHits : ft_g (.instanceMethod k_Mo_laysHits.1) ∧ ft_g (.selects k_Mo_laysHits.1.cls k_Mo_laysHits.1 k_Mo_laysHits.1) := ⟨ft_gt 1409 (by decide +kernel) rfl, ft_gs 66 (by decide +kernel) rfl⟩
def k_Mo_laysAll : ftM := (⟨"ForwardingTableModel", "laysAll", "()V"⟩, prog_13_method_66_code, 2, none, { frames := 7, cells := 0, slots := 0, locals := 156 })
theorem lw_Mo_laysAll : ft_lw k_Mo_laysAll 0 := ⟨ft_gt 12 (by decide +kernel) rfl, ft_gt 1383 (by decide +kernel) rfl, by decide +kernel, by decide +kernel, by decide +kernel⟩
theorem li_Mo_laysAll : ft_g (.instanceMethod k_Mo_laysAll.1) ∧ ft_g (.selects k_Mo_laysAll.1.cls k_Mo_laysAll.1 k_Mo_laysAll.1) := ⟨ft_gt 1382 (by decide +kernel) rfl, ft_gs 60 (by decide +kernel) rfl⟩
def k_Mo_laysOpen : ftM := (⟨"ForwardingTableModel", "laysOpen", "()V"⟩, prog_13_method_67_code, 2, none, { frames := 8, cells := 0, slots := 0, locals := 177 })
theorem lw_Mo_laysOpen : ft_lw k_Mo_laysOpen 0 := ⟨ft_gt 12 (by decide +kernel) rfl, ft_gt 1485 (by decide +kernel) rfl, by decide +kernel, by decide +kernel, by decide +kernel⟩
theorem li_Mo_laysOpen : ft_g (.instanceMethod k_Mo_laysOpen.1) ∧ ft_g (.selects k_Mo_laysOpen.1.cls k_Mo_laysOpen.1 k_Mo_laysOpen.1) := ⟨ft_gt 1484 (by decide +kernel) rfl, ft_gs 75 (by decide +kernel) rfl⟩
def k_Mo_compressed : ftM := (⟨"ForwardingTableModel", "compressed", "()I"⟩, prog_13_method_68_code, 1, some .int, { frames := 8, cells := 0, slots := 0, locals := 177 })
theorem lw_Mo_compressed : ft_lw k_Mo_compressed 0 := ⟨ft_gt 12 (by decide +kernel) rfl, ft_gt 1379 (by decide +kernel) rfl, by decide +kernel, by decide +kernel, by decide +kernel⟩
theorem li_Mo_compressed : ft_g (.instanceMethod k_Mo_compressed.1) ∧ ft_g (.selects k_Mo_compressed.1.cls k_Mo_compressed.1 k_Mo_compressed.1) := ⟨ft_gt 1377 (by decide +kernel) rfl, ft_gt 1378 (by decide +kernel) rfl⟩
def k_Mo_entry : ftM := (⟨"ForwardingTableModel", "entry", "(II)J"⟩, prog_13_method_69_code, 3, some .long, { frames := 8, cells := 0, slots := 0, locals := 177 })
theorem lw_Mo_entry : ft_lw k_Mo_entry 2 := ⟨ft_gt 12 (by decide +kernel) rfl, ft_gt 1446 (by decide +kernel) rfl, by decide +kernel, by decide +kernel, by decide +kernel⟩
theorem li_Mo_entry : ft_g (.instanceMethod k_Mo_entry.1) ∧ ft_g (.selects k_Mo_entry.1.cls k_Mo_entry.1 k_Mo_entry.1) := ⟨ft_gt 1444 (by decide +kernel) rfl, ft_gt 1445 (by decide +kernel) rfl⟩
def k_Mo_busiest : ftM := (⟨"ForwardingTableModel", "busiest", "()I"⟩, prog_13_method_70_code, 3, some .int, { frames := 8, cells := 0, slots := 0, locals := 177 })
theorem lw_Mo_busiest : ft_lw k_Mo_busiest 0 := ⟨ft_gt 12 (by decide +kernel) rfl, ft_gt 1451 (by decide +kernel) rfl, by decide +kernel, by decide +kernel, by decide +kernel⟩
theorem li_Mo_busiest : ft_g (.instanceMethod k_Mo_busiest.1) ∧ ft_g (.selects k_Mo_busiest.1.cls k_Mo_busiest.1 k_Mo_busiest.1) := ⟨ft_gt 1449 (by decide +kernel) rfl, ft_gt 1450 (by decide +kernel) rfl⟩
def k_Mo_coldest : ftM := (⟨"ForwardingTableModel", "coldest", "()I"⟩, prog_13_method_71_code, 3, some .int, { frames := 8, cells := 0, slots := 0, locals := 177 })
theorem lw_Mo_coldest : ft_lw k_Mo_coldest 0 := ⟨ft_gt 12 (by decide +kernel) rfl, ft_gt 1455 (by decide +kernel) rfl, by decide +kernel, by decide +kernel, by decide +kernel⟩
theorem li_Mo_coldest : ft_g (.instanceMethod k_Mo_coldest.1) ∧ ft_g (.selects k_Mo_coldest.1.cls k_Mo_coldest.1 k_Mo_coldest.1) := ⟨ft_gt 1453 (by decide +kernel) rfl, ft_gt 1454 (by decide +kernel) rfl⟩
def k_Mo_laysTarget : ftM := (⟨"ForwardingTableModel", "laysTarget", "()V"⟩, prog_13_method_72_code, 2, none, { frames := 8, cells := 0, slots := 0, locals := 177 })
theorem lw_Mo_laysTarget : ft_lw k_Mo_laysTarget 0 := ⟨ft_gt 12 (by decide +kernel) rfl, ft_gt 1463 (by decide +kernel) rfl, by decide +kernel, by decide +kernel, by decide +kernel⟩
theorem li_Mo_laysTarget : ft_g (.instanceMethod k_Mo_laysTarget.1) ∧ ft_g (.selects k_Mo_laysTarget.1.cls k_Mo_laysTarget.1 k_Mo_laysTarget.1) := ⟨ft_gt 1462 (by decide +kernel) rfl, ft_gs 74 (by decide +kernel) rfl⟩
def k_Mo_exceptions : ftM := (⟨"ForwardingTableModel", "exceptions", "()I"⟩, prog_13_method_73_code, 3, some .int, { frames := 9, cells := 0, slots := 0, locals := 198 })
theorem lw_Mo_exceptions : ft_lw k_Mo_exceptions 0 := ⟨ft_gt 12 (by decide +kernel) rfl, ft_gt 1459 (by decide +kernel) rfl, by decide +kernel, by decide +kernel, by decide +kernel⟩
theorem li_Mo_exceptions : ft_g (.instanceMethod k_Mo_exceptions.1) ∧ ft_g (.selects k_Mo_exceptions.1.cls k_Mo_exceptions.1 k_Mo_exceptions.1) := ⟨ft_gt 1457 (by decide +kernel) rfl, ft_gt 1458 (by decide +kernel) rfl⟩
def k_Mo_targetSize : ftM := (⟨"ForwardingTableModel", "targetSize", "()I"⟩, prog_13_method_74_code, 1, some .int, { frames := 9, cells := 0, slots := 0, locals := 198 })
theorem lw_Mo_targetSize : ft_lw k_Mo_targetSize 0 := ⟨ft_gt 12 (by decide +kernel) rfl, ft_gt 1467 (by decide +kernel) rfl, by decide +kernel, by decide +kernel, by decide +kernel⟩
theorem li_Mo_targetSize : ft_g (.instanceMethod k_Mo_targetSize.1) ∧ ft_g (.selects k_Mo_targetSize.1.cls k_Mo_targetSize.1 k_Mo_targetSize.1) := ⟨ft_gt 1465 (by decide +kernel) rfl, ft_gt 1466 (by decide +kernel) rfl⟩
def k_Mo_target : ftM := (⟨"ForwardingTableModel", "target", "(II)J"⟩, prog_13_method_75_code, 3, some .long, { frames := 9, cells := 0, slots := 0, locals := 198 })
theorem lw_Mo_target : ft_lw k_Mo_target 2 := ⟨ft_gt 12 (by decide +kernel) rfl, ft_gt 1471 (by decide +kernel) rfl, by decide +kernel, by decide +kernel, by decide +kernel⟩
theorem li_Mo_target : ft_g (.instanceMethod k_Mo_target.1) ∧ ft_g (.selects k_Mo_target.1.cls k_Mo_target.1 k_Mo_target.1) := ⟨ft_gt 1469 (by decide +kernel) rfl, ft_gt 1470 (by decide +kernel) rfl⟩
def k_Mo_lostHits : ftM := (⟨"ForwardingTableModel", "lostHits", "()I"⟩, prog_13_method_76_code, 1, some .int, { frames := 8, cells := 0, slots := 0, locals := 177 })
theorem lw_Mo_lostHits : ft_lw k_Mo_lostHits 0 := ⟨ft_gt 12 (by decide +kernel) rfl, ft_gt 1476 (by decide +kernel) rfl, by decide +kernel, by decide +kernel, by decide +kernel⟩
theorem li_Mo_lostHits : ft_g (.instanceMethod k_Mo_lostHits.1) ∧ ft_g (.selects k_Mo_lostHits.1.cls k_Mo_lostHits.1 k_Mo_lostHits.1) := ⟨ft_gt 1474 (by decide +kernel) rfl, ft_gt 1475 (by decide +kernel) rfl⟩
def k_Mo_lostHitsWith : ftM := (⟨"ForwardingTableModel", "lostHitsWith", "(I)I"⟩, prog_13_method_77_code, 2, some .int, { frames := 9, cells := 0, slots := 0, locals := 198 })
theorem lw_Mo_lostHitsWith : ft_lw k_Mo_lostHitsWith 1 := ⟨ft_gt 12 (by decide +kernel) rfl, ft_gt 1480 (by decide +kernel) rfl, by decide +kernel, by decide +kernel, by decide +kernel⟩
theorem li_Mo_lostHitsWith : ft_g (.instanceMethod k_Mo_lostHitsWith.1) ∧ ft_g (.selects k_Mo_lostHitsWith.1.cls k_Mo_lostHitsWith.1 k_Mo_lostHitsWith.1) := ⟨ft_gt 1478 (by decide +kernel) rfl, ft_gt 1479 (by decide +kernel) rfl⟩
def k_Mo_enough : ftM := (⟨"ForwardingTableModel", "enough", "()I"⟩, prog_13_method_78_code, 2, some .int, { frames := 9, cells := 0, slots := 0, locals := 198 })
theorem lw_Mo_enough : ft_lw k_Mo_enough 0 := ⟨ft_gt 12 (by decide +kernel) rfl, ft_gt 1489 (by decide +kernel) rfl, by decide +kernel, by decide +kernel, by decide +kernel⟩
theorem li_Mo_enough : ft_g (.instanceMethod k_Mo_enough.1) ∧ ft_g (.selects k_Mo_enough.1.cls k_Mo_enough.1 k_Mo_enough.1) := ⟨ft_gt 1487 (by decide +kernel) rfl, ft_gt 1488 (by decide +kernel) rfl⟩
def k_Mo_hardwareSize : ftM := (⟨"ForwardingTableModel", "hardwareSize", "()I"⟩, prog_13_method_79_code, 1, some .int, { frames := 0, cells := 0, slots := 0, locals := 0 })
theorem lw_Mo_hardwareSize : ft_lw k_Mo_hardwareSize 0 := ⟨ft_gt 12 (by decide +kernel) rfl, ft_gt 1493 (by decide +kernel) rfl, by decide +kernel, by decide +kernel, by decide +kernel⟩
theorem li_Mo_hardwareSize : ft_g (.instanceMethod k_Mo_hardwareSize.1) ∧ ft_g (.selects k_Mo_hardwareSize.1.cls k_Mo_hardwareSize.1 k_Mo_hardwareSize.1) := ⟨ft_gt 1491 (by decide +kernel) rfl, ft_gt 1492 (by decide +kernel) rfl⟩
def k_Mo_hardware : ftM := (⟨"ForwardingTableModel", "hardware", "(II)J"⟩, prog_13_method_80_code, 3, some .long, { frames := 1, cells := 0, slots := 0, locals := 25 })
theorem lw_Mo_hardware : ft_lw k_Mo_hardware 2 := ⟨ft_gt 12 (by decide +kernel) rfl, ft_gt 1497 (by decide +kernel) rfl, by decide +kernel, by decide +kernel, by decide +kernel⟩
theorem li_Mo_hardware : ft_g (.instanceMethod k_Mo_hardware.1) ∧ ft_g (.selects k_Mo_hardware.1.cls k_Mo_hardware.1 k_Mo_hardware.1) := ⟨ft_gt 1495 (by decide +kernel) rfl, ft_gt 1496 (by decide +kernel) rfl⟩
def k_Mo_action : ftM := (⟨"ForwardingTableModel", "action", "(I)I"⟩, prog_13_method_81_code, 2, some .int, { frames := 4, cells := 0, slots := 0, locals := 91 })
theorem lw_Mo_action : ft_lw k_Mo_action 1 := ⟨ft_gt 12 (by decide +kernel) rfl, ft_gt 1501 (by decide +kernel) rfl, by decide +kernel, by decide +kernel, by decide +kernel⟩
theorem li_Mo_action : ft_g (.instanceMethod k_Mo_action.1) ∧ ft_g (.selects k_Mo_action.1.cls k_Mo_action.1 k_Mo_action.1) := ⟨ft_gt 1499 (by decide +kernel) rfl, ft_gt 1500 (by decide +kernel) rfl⟩
def k_Mo_missedNow : ftM := (⟨"ForwardingTableModel", "missedNow", "()I"⟩, prog_13_method_82_code, 3, some .int, { frames := 5, cells := 0, slots := 0, locals := 112 })
theorem lw_Mo_missedNow : ft_lw k_Mo_missedNow 0 := ⟨ft_gt 12 (by decide +kernel) rfl, ft_gt 1509 (by decide +kernel) rfl, by decide +kernel, by decide +kernel, by decide +kernel⟩
theorem li_Mo_missedNow : ft_g (.instanceMethod k_Mo_missedNow.1) ∧ ft_g (.selects k_Mo_missedNow.1.cls k_Mo_missedNow.1 k_Mo_missedNow.1) := ⟨ft_gt 1508 (by decide +kernel) rfl, ft_gs 76 (by decide +kernel) rfl⟩
def k_Mo_missed : ftM := (⟨"ForwardingTableModel", "missed", "()I"⟩, prog_13_method_83_code, 1, some .int, { frames := 6, cells := 0, slots := 0, locals := 134 })
theorem lw_Mo_missed : ft_lw k_Mo_missed 0 := ⟨ft_gt 12 (by decide +kernel) rfl, ft_gt 1505 (by decide +kernel) rfl, by decide +kernel, by decide +kernel, by decide +kernel⟩
theorem li_Mo_missed : ft_g (.instanceMethod k_Mo_missed.1) ∧ ft_g (.selects k_Mo_missed.1.cls k_Mo_missed.1 k_Mo_missed.1) := ⟨ft_gt 1503 (by decide +kernel) rfl, ft_gt 1504 (by decide +kernel) rfl⟩
def k_Mo_targetAt : ftM := (⟨"ForwardingTableModel", "targetAt", "(II)I"⟩, prog_13_method_84_code, 4, some .int, { frames := 0, cells := 0, slots := 0, locals := 0 })
theorem lw_Mo_targetAt : ft_lw k_Mo_targetAt 2 := ⟨ft_gt 12 (by decide +kernel) rfl, ft_gt 1537 (by decide +kernel) rfl, by decide +kernel, by decide +kernel, by decide +kernel⟩
theorem li_Mo_targetAt : ft_g (.instanceMethod k_Mo_targetAt.1) ∧ ft_g (.selects k_Mo_targetAt.1.cls k_Mo_targetAt.1 k_Mo_targetAt.1) := ⟨ft_gt 1536 (by decide +kernel) rfl, ft_gs 82 (by decide +kernel) rfl⟩
def k_Mo_preparesSync : ftM := (⟨"ForwardingTableModel", "preparesSync", "()V"⟩, prog_13_method_85_code, 3, none, { frames := 9, cells := 0, slots := 0, locals := 198 })
theorem lw_Mo_preparesSync : ft_lw k_Mo_preparesSync 0 := ⟨ft_gt 12 (by decide +kernel) rfl, ft_gt 1525 (by decide +kernel) rfl, by decide +kernel, by decide +kernel, by decide +kernel⟩
theorem li_Mo_preparesSync : ft_g (.instanceMethod k_Mo_preparesSync.1) ∧ ft_g (.selects k_Mo_preparesSync.1.cls k_Mo_preparesSync.1 k_Mo_preparesSync.1) := ⟨ft_gt 1524 (by decide +kernel) rfl, ft_gs 79 (by decide +kernel) rfl⟩
def k_Mo_changesOne : ftM := (⟨"ForwardingTableModel", "changesOne", "()Z"⟩, prog_13_method_86_code, 4, some .boolean, { frames := 4, cells := 0, slots := 0, locals := 93 })
theorem lw_Mo_changesOne : ft_lw k_Mo_changesOne 0 := ⟨ft_gt 12 (by decide +kernel) rfl, ft_gt 1529 (by decide +kernel) rfl, by decide +kernel, by decide +kernel, by decide +kernel⟩
theorem li_Mo_changesOne : ft_g (.instanceMethod k_Mo_changesOne.1) ∧ ft_g (.selects k_Mo_changesOne.1.cls k_Mo_changesOne.1 k_Mo_changesOne.1) := ⟨ft_gt 1528 (by decide +kernel) rfl, ft_gs 80 (by decide +kernel) rfl⟩
def k_Mo_removesOne : ftM := (⟨"ForwardingTableModel", "removesOne", "()Z"⟩, prog_13_method_87_code, 3, some .boolean, { frames := 2, cells := 0, slots := 0, locals := 45 })
theorem lw_Mo_removesOne : ft_lw k_Mo_removesOne 0 := ⟨ft_gt 12 (by decide +kernel) rfl, ft_gt 1533 (by decide +kernel) rfl, by decide +kernel, by decide +kernel, by decide +kernel⟩
theorem li_Mo_removesOne : ft_g (.instanceMethod k_Mo_removesOne.1) ∧ ft_g (.selects k_Mo_removesOne.1.cls k_Mo_removesOne.1 k_Mo_removesOne.1) := ⟨ft_gt 1532 (by decide +kernel) rfl, ft_gs 81 (by decide +kernel) rfl⟩
def k_Mo_syncs : ftM := (⟨"ForwardingTableModel", "syncs", "(I)I"⟩, prog_13_method_88_code, 3, some .int, { frames := 10, cells := 0, slots := 0, locals := 220 })
theorem lw_Mo_syncs : ft_lw k_Mo_syncs 1 := ⟨ft_gt 12 (by decide +kernel) rfl, ft_gt 1521 (by decide +kernel) rfl, by decide +kernel, by decide +kernel, by decide +kernel⟩
theorem li_Mo_syncs : ft_g (.instanceMethod k_Mo_syncs.1) ∧ ft_g (.selects k_Mo_syncs.1.cls k_Mo_syncs.1 k_Mo_syncs.1) := ⟨ft_gt 1520 (by decide +kernel) rfl, ft_gs 78 (by decide +kernel) rfl⟩
def k_Mo_laysAside : ftM := (⟨"ForwardingTableModel", "laysAside", "()V"⟩, prog_13_method_89_code, 2, none, { frames := 0, cells := 0, slots := 0, locals := 0 })
theorem lw_Mo_laysAside : ft_lw k_Mo_laysAside 0 := ⟨ft_gt 12 (by decide +kernel) rfl, ft_gt 1517 (by decide +kernel) rfl, by decide +kernel, by decide +kernel, by decide +kernel⟩
theorem li_Mo_laysAside : ft_g (.instanceMethod k_Mo_laysAside.1) ∧ ft_g (.selects k_Mo_laysAside.1.cls k_Mo_laysAside.1 k_Mo_laysAside.1) := ⟨ft_gt 1516 (by decide +kernel) rfl, ft_gs 77 (by decide +kernel) rfl⟩
def k_Mo_comesBack : ftM := (⟨"ForwardingTableModel", "comesBack", "()V"⟩, prog_13_method_90_code, 2, none, { frames := 0, cells := 0, slots := 0, locals := 0 })
theorem lw_Mo_comesBack : ft_lw k_Mo_comesBack 0 := ⟨ft_gt 12 (by decide +kernel) rfl, ft_gt 1541 (by decide +kernel) rfl, by decide +kernel, by decide +kernel, by decide +kernel⟩
theorem li_Mo_comesBack : ft_g (.instanceMethod k_Mo_comesBack.1) ∧ ft_g (.selects k_Mo_comesBack.1.cls k_Mo_comesBack.1 k_Mo_comesBack.1) := ⟨ft_gt 1540 (by decide +kernel) rfl, ft_gs 83 (by decide +kernel) rfl⟩
def k_Mo_changes : ftM := (⟨"ForwardingTableModel", "changes", "()I"⟩, prog_13_method_91_code, 2, some .int, { frames := 11, cells := 0, slots := 0, locals := 242 })
theorem lw_Mo_changes : ft_lw k_Mo_changes 0 := ⟨ft_gt 12 (by decide +kernel) rfl, ft_gt 1513 (by decide +kernel) rfl, by decide +kernel, by decide +kernel, by decide +kernel⟩
theorem li_Mo_changes : ft_g (.instanceMethod k_Mo_changes.1) ∧ ft_g (.selects k_Mo_changes.1.cls k_Mo_changes.1 k_Mo_changes.1) := ⟨ft_gt 1511 (by decide +kernel) rfl, ft_gt 1512 (by decide +kernel) rfl⟩
def k_Mo_change : ftM := (⟨"ForwardingTableModel", "change", "(II)J"⟩, prog_13_method_92_code, 4, some .long, { frames := 11, cells := 0, slots := 0, locals := 242 })
theorem lw_Mo_change : ft_lw k_Mo_change 2 := ⟨ft_gt 12 (by decide +kernel) rfl, ft_gt 1545 (by decide +kernel) rfl, by decide +kernel, by decide +kernel, by decide +kernel⟩
theorem li_Mo_change : ft_g (.instanceMethod k_Mo_change.1) ∧ ft_g (.selects k_Mo_change.1.cls k_Mo_change.1 k_Mo_change.1) := ⟨ft_gt 1543 (by decide +kernel) rfl, ft_gt 1544 (by decide +kernel) rfl⟩
def k_Mo_missedAfter : ftM := (⟨"ForwardingTableModel", "missedAfter", "(I)I"⟩, prog_13_method_93_code, 3, some .int, { frames := 11, cells := 0, slots := 0, locals := 242 })
theorem lw_Mo_missedAfter : ft_lw k_Mo_missedAfter 1 := ⟨ft_gt 12 (by decide +kernel) rfl, ft_gt 1550 (by decide +kernel) rfl, by decide +kernel, by decide +kernel, by decide +kernel⟩
theorem li_Mo_missedAfter : ft_g (.instanceMethod k_Mo_missedAfter.1) ∧ ft_g (.selects k_Mo_missedAfter.1.cls k_Mo_missedAfter.1 k_Mo_missedAfter.1) := ⟨ft_gt 1548 (by decide +kernel) rfl, ft_gt 1549 (by decide +kernel) rfl⟩
def k_Mo_sync : ftM := (⟨"ForwardingTableModel", "sync", "(I)I"⟩, prog_13_method_94_code, 3, some .int, { frames := 11, cells := 0, slots := 0, locals := 242 })
theorem lw_Mo_sync : ft_lw k_Mo_sync 1 := ⟨ft_gt 12 (by decide +kernel) rfl, ft_gt 1555 (by decide +kernel) rfl, by decide +kernel, by decide +kernel, by decide +kernel⟩
theorem li_Mo_sync : ft_g (.instanceMethod k_Mo_sync.1) ∧ ft_g (.selects k_Mo_sync.1.cls k_Mo_sync.1 k_Mo_sync.1) := ⟨ft_gt 1553 (by decide +kernel) rfl, ft_gt 1554 (by decide +kernel) rfl⟩
def k_Mo_clear : ftM := (⟨"ForwardingTableModel", "clear", "()I"⟩, prog_13_method_95_code, 2, some .int, { frames := 1, cells := 0, slots := 0, locals := 21 })
theorem lw_Mo_clear : ft_lw k_Mo_clear 0 := ⟨ft_gt 12 (by decide +kernel) rfl, ft_gt 1559 (by decide +kernel) rfl, by decide +kernel, by decide +kernel, by decide +kernel⟩
theorem li_Mo_clear : ft_g (.instanceMethod k_Mo_clear.1) ∧ ft_g (.selects k_Mo_clear.1.cls k_Mo_clear.1 k_Mo_clear.1) := ⟨ft_gt 1557 (by decide +kernel) rfl, ft_gt 1558 (by decide +kernel) rfl⟩
def k_Mo_addresses : ftM := (⟨"ForwardingTableModel", "addresses", "(I)J"⟩, prog_13_method_96_code, 9, some .long, { frames := 4, cells := 0, slots := 0, locals := 98 })
theorem lw_Mo_addresses : ft_lw k_Mo_addresses 1 := ⟨ft_gt 12 (by decide +kernel) rfl, ft_gt 1563 (by decide +kernel) rfl, by decide +kernel, by decide +kernel, by decide +kernel⟩
theorem li_Mo_addresses : ft_g (.instanceMethod k_Mo_addresses.1) ∧ ft_g (.selects k_Mo_addresses.1.cls k_Mo_addresses.1 k_Mo_addresses.1) := ⟨ft_gt 1561 (by decide +kernel) rfl, ft_gt 1562 (by decide +kernel) rfl⟩
def k_Mo_hardwareAddresses : ftM := (⟨"ForwardingTableModel", "hardwareAddresses", "()J"⟩, prog_13_method_97_code, 4, some .long, { frames := 4, cells := 0, slots := 0, locals := 98 })
theorem lw_Mo_hardwareAddresses : ft_lw k_Mo_hardwareAddresses 0 := ⟨ft_gt 12 (by decide +kernel) rfl, ft_gt 1568 (by decide +kernel) rfl, by decide +kernel, by decide +kernel, by decide +kernel⟩
theorem li_Mo_hardwareAddresses : ft_g (.instanceMethod k_Mo_hardwareAddresses.1) ∧ ft_g (.selects k_Mo_hardwareAddresses.1.cls k_Mo_hardwareAddresses.1 k_Mo_hardwareAddresses.1) := ⟨ft_gt 1566 (by decide +kernel) rfl, ft_gt 1567 (by decide +kernel) rfl⟩
def k_Mo_edgeAbove : ftM := (⟨"ForwardingTableModel", "edgeAbove", "(J)J"⟩, prog_13_method_98_code, 10, some .long, { frames := 1, cells := 0, slots := 0, locals := 21 })
theorem lw_Mo_edgeAbove : ft_lw k_Mo_edgeAbove 1 := ⟨ft_gt 12 (by decide +kernel) rfl, ft_gt 1576 (by decide +kernel) rfl, by decide +kernel, by decide +kernel, by decide +kernel⟩
theorem li_Mo_edgeAbove : ft_g (.instanceMethod k_Mo_edgeAbove.1) ∧ ft_g (.selects k_Mo_edgeAbove.1.cls k_Mo_edgeAbove.1 k_Mo_edgeAbove.1) := ⟨ft_gt 1575 (by decide +kernel) rfl, ft_gs 84 (by decide +kernel) rfl⟩
def k_Mo_nextOther : ftM := (⟨"ForwardingTableModel", "nextOther", "(I)J"⟩, prog_13_method_99_code, 5, some .long, { frames := 5, cells := 0, slots := 0, locals := 112 })
theorem lw_Mo_nextOther : ft_lw k_Mo_nextOther 1 := ⟨ft_gt 12 (by decide +kernel) rfl, ft_gt 1572 (by decide +kernel) rfl, by decide +kernel, by decide +kernel, by decide +kernel⟩
theorem li_Mo_nextOther : ft_g (.instanceMethod k_Mo_nextOther.1) ∧ ft_g (.selects k_Mo_nextOther.1.cls k_Mo_nextOther.1 k_Mo_nextOther.1) := ⟨ft_gt 1570 (by decide +kernel) rfl, ft_gt 1571 (by decide +kernel) rfl⟩
def k_Mo_runs : ftM := (⟨"ForwardingTableModel", "runs", "()I"⟩, prog_13_method_100_code, 4, some .int, { frames := 5, cells := 0, slots := 0, locals := 112 })
theorem lw_Mo_runs : ft_lw k_Mo_runs 0 := ⟨ft_gt 12 (by decide +kernel) rfl, ft_gt 1580 (by decide +kernel) rfl, by decide +kernel, by decide +kernel, by decide +kernel⟩
theorem li_Mo_runs : ft_g (.instanceMethod k_Mo_runs.1) ∧ ft_g (.selects k_Mo_runs.1.cls k_Mo_runs.1 k_Mo_runs.1) := ⟨ft_gt 1578 (by decide +kernel) rfl, ft_gt 1579 (by decide +kernel) rfl⟩
def k_Mo_isIdle : ftM := (⟨"ForwardingTableModel", "isIdle", "(I)Z"⟩, prog_13_method_101_code, 3, some .boolean, { frames := 4, cells := 0, slots := 0, locals := 98 })
theorem lw_Mo_isIdle : ft_lw k_Mo_isIdle 1 := ⟨ft_gt 12 (by decide +kernel) rfl, ft_gt 1588 (by decide +kernel) rfl, by decide +kernel, by decide +kernel, by decide +kernel⟩
theorem li_Mo_isIdle : ft_g (.instanceMethod k_Mo_isIdle.1) ∧ ft_g (.selects k_Mo_isIdle.1.cls k_Mo_isIdle.1 k_Mo_isIdle.1) := ⟨ft_gt 1587 (by decide +kernel) rfl, ft_gs 85 (by decide +kernel) rfl⟩
def k_Mo_isRedundant : ftM := (⟨"ForwardingTableModel", "isRedundant", "(I)Z"⟩, prog_13_method_102_code, 2, some .boolean, { frames := 5, cells := 0, slots := 0, locals := 120 })
theorem lw_Mo_isRedundant : ft_lw k_Mo_isRedundant 1 := ⟨ft_gt 12 (by decide +kernel) rfl, ft_gt 1584 (by decide +kernel) rfl, by decide +kernel, by decide +kernel, by decide +kernel⟩
theorem li_Mo_isRedundant : ft_g (.instanceMethod k_Mo_isRedundant.1) ∧ ft_g (.selects k_Mo_isRedundant.1.cls k_Mo_isRedundant.1 k_Mo_isRedundant.1) := ⟨ft_gt 1582 (by decide +kernel) rfl, ft_gt 1583 (by decide +kernel) rfl⟩
def k_Mo_redundant : ftM := (⟨"ForwardingTableModel", "redundant", "()I"⟩, prog_13_method_103_code, 3, some .int, { frames := 5, cells := 0, slots := 0, locals := 120 })
theorem lw_Mo_redundant : ft_lw k_Mo_redundant 0 := ⟨ft_gt 12 (by decide +kernel) rfl, ft_gt 1592 (by decide +kernel) rfl, by decide +kernel, by decide +kernel, by decide +kernel⟩
theorem li_Mo_redundant : ft_g (.instanceMethod k_Mo_redundant.1) ∧ ft_g (.selects k_Mo_redundant.1.cls k_Mo_redundant.1 k_Mo_redundant.1) := ⟨ft_gt 1590 (by decide +kernel) rfl, ft_gt 1591 (by decide +kernel) rfl⟩
def k_Mo_nesting : ftM := (⟨"ForwardingTableModel", "nesting", "()I"⟩, prog_13_method_104_code, 5, some .int, { frames := 4, cells := 0, slots := 0, locals := 90 })
theorem lw_Mo_nesting : ft_lw k_Mo_nesting 0 := ⟨ft_gt 12 (by decide +kernel) rfl, ft_gt 1596 (by decide +kernel) rfl, by decide +kernel, by decide +kernel, by decide +kernel⟩
theorem li_Mo_nesting : ft_g (.instanceMethod k_Mo_nesting.1) ∧ ft_g (.selects k_Mo_nesting.1.cls k_Mo_nesting.1 k_Mo_nesting.1) := ⟨ft_gt 1594 (by decide +kernel) rfl, ft_gt 1595 (by decide +kernel) rfl⟩
def k_Mo_entriesWithout : ftM := (⟨"ForwardingTableModel", "entriesWithout", "(I)I"⟩, prog_13_method_105_code, 2, some .int, { frames := 7, cells := 0, slots := 0, locals := 156 })
theorem lw_Mo_entriesWithout : ft_lw k_Mo_entriesWithout 1 := ⟨ft_gt 12 (by decide +kernel) rfl, ft_gt 1604 (by decide +kernel) rfl, by decide +kernel, by decide +kernel, by decide +kernel⟩
theorem li_Mo_entriesWithout : ft_g (.instanceMethod k_Mo_entriesWithout.1) ∧ ft_g (.selects k_Mo_entriesWithout.1.cls k_Mo_entriesWithout.1 k_Mo_entriesWithout.1) := ⟨ft_gt 1603 (by decide +kernel) rfl, ft_gs 86 (by decide +kernel) rfl⟩
def k_Mo_compressedWithout : ftM := (⟨"ForwardingTableModel", "compressedWithout", "(I)I"⟩, prog_13_method_106_code, 2, some .int, { frames := 8, cells := 0, slots := 0, locals := 177 })
theorem lw_Mo_compressedWithout : ft_lw k_Mo_compressedWithout 1 := ⟨ft_gt 12 (by decide +kernel) rfl, ft_gt 1600 (by decide +kernel) rfl, by decide +kernel, by decide +kernel, by decide +kernel⟩
theorem li_Mo_compressedWithout : ft_g (.instanceMethod k_Mo_compressedWithout.1) ∧ ft_g (.selects k_Mo_compressedWithout.1.cls k_Mo_compressedWithout.1 k_Mo_compressedWithout.1) := ⟨ft_gt 1598 (by decide +kernel) rfl, ft_gt 1599 (by decide +kernel) rfl⟩
def k_Mo_costliest : ftM := (⟨"ForwardingTableModel", "costliest", "()I"⟩, prog_13_method_107_code, 5, some .int, { frames := 8, cells := 0, slots := 0, locals := 177 })
theorem lw_Mo_costliest : ft_lw k_Mo_costliest 0 := ⟨ft_gt 12 (by decide +kernel) rfl, ft_gt 1608 (by decide +kernel) rfl, by decide +kernel, by decide +kernel, by decide +kernel⟩
theorem li_Mo_costliest : ft_g (.instanceMethod k_Mo_costliest.1) ∧ ft_g (.selects k_Mo_costliest.1.cls k_Mo_costliest.1 k_Mo_costliest.1) := ⟨ft_gt 1606 (by decide +kernel) rfl, ft_gt 1607 (by decide +kernel) rfl⟩
def k_Mo_count : ftM := (⟨"ForwardingTableModel", "count", "(I)J"⟩, prog_13_method_108_code, 2, some .long, { frames := 1, cells := 0, slots := 0, locals := 25 })
theorem lw_Mo_count : ft_lw k_Mo_count 1 := ⟨ft_gt 12 (by decide +kernel) rfl, ft_gt 1612 (by decide +kernel) rfl, by decide +kernel, by decide +kernel, by decide +kernel⟩
theorem li_Mo_count : ft_g (.instanceMethod k_Mo_count.1) ∧ ft_g (.selects k_Mo_count.1.cls k_Mo_count.1 k_Mo_count.1) := ⟨ft_gt 1610 (by decide +kernel) rfl, ft_gt 1611 (by decide +kernel) rfl⟩
def k_Mo_writesSign : ftM := (⟨"ForwardingTableModel", "writesSign", "(I)V"⟩, prog_13_method_109_code, 2, none, { frames := 0, cells := 0, slots := 0, locals := 0 })
theorem lw_Mo_writesSign : ft_lw k_Mo_writesSign 1 := ⟨ft_gt 12 (by decide +kernel) rfl, ft_gt 1636 (by decide +kernel) rfl, by decide +kernel, by decide +kernel, by decide +kernel⟩
theorem li_Mo_writesSign : ft_g (.instanceMethod k_Mo_writesSign.1) ∧ ft_g (.selects k_Mo_writesSign.1.cls k_Mo_writesSign.1 k_Mo_writesSign.1) := ⟨ft_gt 1635 (by decide +kernel) rfl, ft_gs 91 (by decide +kernel) rfl⟩
def k_Mo_writesNumber : ftM := (⟨"ForwardingTableModel", "writesNumber", "(I)V"⟩, prog_13_method_110_code, 3, none, { frames := 1, cells := 0, slots := 0, locals := 21 })
theorem lw_Mo_writesNumber : ft_lw k_Mo_writesNumber 1 := ⟨ft_gt 12 (by decide +kernel) rfl, ft_gt 1632 (by decide +kernel) rfl, by decide +kernel, by decide +kernel, by decide +kernel⟩
theorem li_Mo_writesNumber : ft_g (.instanceMethod k_Mo_writesNumber.1) ∧ ft_g (.selects k_Mo_writesNumber.1.cls k_Mo_writesNumber.1 k_Mo_writesNumber.1) := ⟨ft_gt 1631 (by decide +kernel) rfl, ft_gs 90 (by decide +kernel) rfl⟩
def k_Mo_writesAddress : ftM := (⟨"ForwardingTableModel", "writesAddress", "(I)V"⟩, prog_13_method_111_code, 3, none, { frames := 2, cells := 0, slots := 0, locals := 43 })
theorem lw_Mo_writesAddress : ft_lw k_Mo_writesAddress 1 := ⟨ft_gt 12 (by decide +kernel) rfl, ft_gt 1628 (by decide +kernel) rfl, by decide +kernel, by decide +kernel, by decide +kernel⟩
theorem li_Mo_writesAddress : ft_g (.instanceMethod k_Mo_writesAddress.1) ∧ ft_g (.selects k_Mo_writesAddress.1.cls k_Mo_writesAddress.1 k_Mo_writesAddress.1) := ⟨ft_gt 1627 (by decide +kernel) rfl, ft_gs 89 (by decide +kernel) rfl⟩
def k_Mo_writesLine : ftM := (⟨"ForwardingTableModel", "writesLine", "(III)V"⟩, prog_13_method_112_code, 4, none, { frames := 3, cells := 0, slots := 0, locals := 65 })
theorem lw_Mo_writesLine : ft_lw k_Mo_writesLine 3 := ⟨ft_gt 12 (by decide +kernel) rfl, ft_gt 1624 (by decide +kernel) rfl, by decide +kernel, by decide +kernel, by decide +kernel⟩
theorem li_Mo_writesLine : ft_g (.instanceMethod k_Mo_writesLine.1) ∧ ft_g (.selects k_Mo_writesLine.1.cls k_Mo_writesLine.1 k_Mo_writesLine.1) := ⟨ft_gt 1623 (by decide +kernel) rfl, ft_gs 88 (by decide +kernel) rfl⟩
def k_Mo_writesReport : ftM := (⟨"ForwardingTableModel", "writesReport", "(I)V"⟩, prog_13_method_113_code, 3, none, { frames := 9, cells := 0, slots := 0, locals := 198 })
theorem lw_Mo_writesReport : ft_lw k_Mo_writesReport 1 := ⟨ft_gt 12 (by decide +kernel) rfl, ft_gt 1620 (by decide +kernel) rfl, by decide +kernel, by decide +kernel, by decide +kernel⟩
theorem li_Mo_writesReport : ft_g (.instanceMethod k_Mo_writesReport.1) ∧ ft_g (.selects k_Mo_writesReport.1.cls k_Mo_writesReport.1 k_Mo_writesReport.1) := ⟨ft_gt 1619 (by decide +kernel) rfl, ft_gs 87 (by decide +kernel) rfl⟩
def k_Mo_reportLength : ftM := (⟨"ForwardingTableModel", "reportLength", "(I)I"⟩, prog_13_method_114_code, 2, some .int, { frames := 10, cells := 0, slots := 0, locals := 220 })
theorem lw_Mo_reportLength : ft_lw k_Mo_reportLength 1 := ⟨ft_gt 12 (by decide +kernel) rfl, ft_gt 1616 (by decide +kernel) rfl, by decide +kernel, by decide +kernel, by decide +kernel⟩
theorem li_Mo_reportLength : ft_g (.instanceMethod k_Mo_reportLength.1) ∧ ft_g (.selects k_Mo_reportLength.1.cls k_Mo_reportLength.1 k_Mo_reportLength.1) := ⟨ft_gt 1614 (by decide +kernel) rfl, ft_gt 1615 (by decide +kernel) rfl⟩
def k_Mo_reportByte : ftM := (⟨"ForwardingTableModel", "reportByte", "(II)I"⟩, prog_13_method_115_code, 3, some .int, { frames := 10, cells := 0, slots := 0, locals := 220 })
theorem lw_Mo_reportByte : ft_lw k_Mo_reportByte 2 := ⟨ft_gt 12 (by decide +kernel) rfl, ft_gt 1640 (by decide +kernel) rfl, by decide +kernel, by decide +kernel, by decide +kernel⟩
theorem li_Mo_reportByte : ft_g (.instanceMethod k_Mo_reportByte.1) ∧ ft_g (.selects k_Mo_reportByte.1.cls k_Mo_reportByte.1 k_Mo_reportByte.1) := ⟨ft_gt 1638 (by decide +kernel) rfl, ft_gt 1639 (by decide +kernel) rfl⟩
def k_Mo_tapeLength : ftM := (⟨"ForwardingTableModel", "tapeLength", "()I"⟩, prog_13_method_116_code, 1, some .int, { frames := 0, cells := 0, slots := 0, locals := 0 })
theorem lw_Mo_tapeLength : ft_lw k_Mo_tapeLength 0 := ⟨ft_gt 12 (by decide +kernel) rfl, ft_gt 1644 (by decide +kernel) rfl, by decide +kernel, by decide +kernel, by decide +kernel⟩
theorem li_Mo_tapeLength : ft_g (.instanceMethod k_Mo_tapeLength.1) ∧ ft_g (.selects k_Mo_tapeLength.1.cls k_Mo_tapeLength.1 k_Mo_tapeLength.1) := ⟨ft_gt 1642 (by decide +kernel) rfl, ft_gt 1643 (by decide +kernel) rfl⟩
def k_Mo_append : ftM := (⟨"ForwardingTableModel", "append", "(IIIII)I"⟩, prog_13_method_117_code, 8, some .int, { frames := 0, cells := 0, slots := 0, locals := 0 })
theorem lw_Mo_append : ft_lw k_Mo_append 5 := ⟨ft_gt 12 (by decide +kernel) rfl, ft_gt 1648 (by decide +kernel) rfl, by decide +kernel, by decide +kernel, by decide +kernel⟩
theorem li_Mo_append : ft_g (.instanceMethod k_Mo_append.1) ∧ ft_g (.selects k_Mo_append.1.cls k_Mo_append.1 k_Mo_append.1) := ⟨ft_gt 1646 (by decide +kernel) rfl, ft_gt 1647 (by decide +kernel) rfl⟩
def k_Mo_truncate : ftM := (⟨"ForwardingTableModel", "truncate", "(I)I"⟩, prog_13_method_118_code, 2, some .int, { frames := 1, cells := 0, slots := 0, locals := 25 })
theorem lw_Mo_truncate : ft_lw k_Mo_truncate 1 := ⟨ft_gt 12 (by decide +kernel) rfl, ft_gt 1652 (by decide +kernel) rfl, by decide +kernel, by decide +kernel, by decide +kernel⟩
theorem li_Mo_truncate : ft_g (.instanceMethod k_Mo_truncate.1) ∧ ft_g (.selects k_Mo_truncate.1.cls k_Mo_truncate.1 k_Mo_truncate.1) := ⟨ft_gt 1650 (by decide +kernel) rfl, ft_gt 1651 (by decide +kernel) rfl⟩
def k_Mo_wordFrom : ftM := (⟨"ForwardingTableModel", "wordFrom", "(I)I"⟩, prog_13_method_119_code, 4, some .int, { frames := 0, cells := 0, slots := 0, locals := 0 })
theorem lw_Mo_wordFrom : ft_lw k_Mo_wordFrom 1 := ⟨ft_gt 12 (by decide +kernel) rfl, ft_gt 1674 (by decide +kernel) rfl, by decide +kernel, by decide +kernel, by decide +kernel⟩
theorem li_Mo_wordFrom : ft_g (.instanceMethod k_Mo_wordFrom.1) ∧ ft_g (.selects k_Mo_wordFrom.1.cls k_Mo_wordFrom.1 k_Mo_wordFrom.1) := ⟨ft_gt 1673 (by decide +kernel) rfl, ft_gs 95 (by decide +kernel) rfl⟩
def k_Mo_here : ftM := (⟨"ForwardingTableModel", "here", "()I"⟩, prog_13_method_120_code, 1, some .int, { frames := 0, cells := 0, slots := 0, locals := 0 })
theorem lw_Mo_here : ft_lw k_Mo_here 0 := ⟨ft_gt 12 (by decide +kernel) rfl, ft_gt 1664 (by decide +kernel) rfl, by decide +kernel, by decide +kernel, by decide +kernel⟩
theorem li_Mo_here : ft_g (.instanceMethod k_Mo_here.1) ∧ ft_g (.selects k_Mo_here.1.cls k_Mo_here.1 k_Mo_here.1) := ⟨ft_gt 1663 (by decide +kernel) rfl, ft_gs 93 (by decide +kernel) rfl⟩
def k_Mo_isSpelt : ftM := (⟨"ForwardingTableModel", "isSpelt", "(I)Z"⟩, prog_13_method_121_code, 4, some .boolean, { frames := 1, cells := 0, slots := 0, locals := 23 })
theorem lw_Mo_isSpelt : ft_lw k_Mo_isSpelt 1 := ⟨ft_gt 12 (by decide +kernel) rfl, ft_gt 1670 (by decide +kernel) rfl, by decide +kernel, by decide +kernel, by decide +kernel⟩
theorem li_Mo_isSpelt : ft_g (.instanceMethod k_Mo_isSpelt.1) ∧ ft_g (.selects k_Mo_isSpelt.1.cls k_Mo_isSpelt.1 k_Mo_isSpelt.1) := ⟨ft_gt 1669 (by decide +kernel) rfl, ft_gs 94 (by decide +kernel) rfl⟩
def k_Mo_goesOn : ftM := (⟨"ForwardingTableModel", "goesOn", "()V"⟩, prog_13_method_122_code, 3, none, { frames := 2, cells := 0, slots := 0, locals := 46 })
theorem lw_Mo_goesOn : ft_lw k_Mo_goesOn 0 := ⟨ft_gt 12 (by decide +kernel) rfl, ft_gt 1660 (by decide +kernel) rfl, by decide +kernel, by decide +kernel, by decide +kernel⟩
theorem li_Mo_goesOn : ft_g (.instanceMethod k_Mo_goesOn.1) ∧ ft_g (.selects k_Mo_goesOn.1.cls k_Mo_goesOn.1 k_Mo_goesOn.1) := ⟨ft_gt 1659 (by decide +kernel) rfl, ft_gs 92 (by decide +kernel) rfl⟩
def k_Mo_fails : ftM := (⟨"ForwardingTableModel", "fails", "()V"⟩, prog_13_method_123_code, 1, none, { frames := 0, cells := 0, slots := 0, locals := 0 })
theorem lw_Mo_fails : ft_lw k_Mo_fails 0 := ⟨ft_gt 12 (by decide +kernel) rfl, ft_gt 1688 (by decide +kernel) rfl, by decide +kernel, by decide +kernel, by decide +kernel⟩
theorem li_Mo_fails : ft_g (.instanceMethod k_Mo_fails.1) ∧ ft_g (.selects k_Mo_fails.1.cls k_Mo_fails.1 k_Mo_fails.1) := ⟨ft_gt 1687 (by decide +kernel) rfl, ft_gs 98 (by decide +kernel) rfl⟩
def k_Mo_isWord : ftM := (⟨"ForwardingTableModel", "isWord", "(I)Z"⟩, prog_13_method_124_code, 2, some .boolean, { frames := 0, cells := 0, slots := 0, locals := 0 })
theorem lw_Mo_isWord : ft_lw k_Mo_isWord 1 := ⟨ft_gt 12 (by decide +kernel) rfl, ft_gt 1684 (by decide +kernel) rfl, by decide +kernel, by decide +kernel, by decide +kernel⟩
theorem li_Mo_isWord : ft_g (.instanceMethod k_Mo_isWord.1) ∧ ft_g (.selects k_Mo_isWord.1.cls k_Mo_isWord.1 k_Mo_isWord.1) := ⟨ft_gt 1683 (by decide +kernel) rfl, ft_gs 97 (by decide +kernel) rfl⟩
def k_Mo_needsWord : ftM := (⟨"ForwardingTableModel", "needsWord", "(I)V"⟩, prog_13_method_125_code, 2, none, { frames := 3, cells := 0, slots := 0, locals := 68 })
theorem lw_Mo_needsWord : ft_lw k_Mo_needsWord 1 := ⟨ft_gt 12 (by decide +kernel) rfl, ft_gt 1680 (by decide +kernel) rfl, by decide +kernel, by decide +kernel, by decide +kernel⟩
theorem li_Mo_needsWord : ft_g (.instanceMethod k_Mo_needsWord.1) ∧ ft_g (.selects k_Mo_needsWord.1.cls k_Mo_needsWord.1 k_Mo_needsWord.1) := ⟨ft_gt 1679 (by decide +kernel) rfl, ft_gs 96 (by decide +kernel) rfl⟩
def k_Mo_needsSign : ftM := (⟨"ForwardingTableModel", "needsSign", "(I)V"⟩, prog_13_method_126_code, 2, none, { frames := 3, cells := 0, slots := 0, locals := 68 })
theorem lw_Mo_needsSign : ft_lw k_Mo_needsSign 1 := ⟨ft_gt 12 (by decide +kernel) rfl, ft_gt 1696 (by decide +kernel) rfl, by decide +kernel, by decide +kernel, by decide +kernel⟩
theorem li_Mo_needsSign : ft_g (.instanceMethod k_Mo_needsSign.1) ∧ ft_g (.selects k_Mo_needsSign.1.cls k_Mo_needsSign.1 k_Mo_needsSign.1) := ⟨ft_gt 1695 (by decide +kernel) rfl, ft_gs 100 (by decide +kernel) rfl⟩
def k_Mo_needsNumber : ftM := (⟨"ForwardingTableModel", "needsNumber", "(II)I"⟩, prog_13_method_127_code, 4, some .int, { frames := 3, cells := 0, slots := 0, locals := 68 })
theorem lw_Mo_needsNumber : ft_lw k_Mo_needsNumber 2 := ⟨ft_gt 12 (by decide +kernel) rfl, ft_gt 1692 (by decide +kernel) rfl, by decide +kernel, by decide +kernel, by decide +kernel⟩
theorem li_Mo_needsNumber : ft_g (.instanceMethod k_Mo_needsNumber.1) ∧ ft_g (.selects k_Mo_needsNumber.1.cls k_Mo_needsNumber.1 k_Mo_needsNumber.1) := ⟨ft_gt 1691 (by decide +kernel) rfl, ft_gs 99 (by decide +kernel) rfl⟩
def k_Mo_readsBytes : ftM := (⟨"ForwardingTableModel", "readsBytes", "(I)I"⟩, prog_13_method_128_code, 4, some .int, { frames := 4, cells := 0, slots := 0, locals := 91 })
theorem lw_Mo_readsBytes : ft_lw k_Mo_readsBytes 1 := ⟨ft_gt 12 (by decide +kernel) rfl, ft_gt 1704 (by decide +kernel) rfl, by decide +kernel, by decide +kernel, by decide +kernel⟩
theorem li_Mo_readsBytes : ft_g (.instanceMethod k_Mo_readsBytes.1) ∧ ft_g (.selects k_Mo_readsBytes.1.cls k_Mo_readsBytes.1 k_Mo_readsBytes.1) := ⟨ft_gt 1703 (by decide +kernel) rfl, ft_gs 102 (by decide +kernel) rfl⟩
def k_Mo_isTold : ftM := (⟨"ForwardingTableModel", "isTold", "(II)Z"⟩, prog_13_method_129_code, 4, some .boolean, { frames := 0, cells := 0, slots := 0, locals := 0 })
theorem lw_Mo_isTold : ft_lw k_Mo_isTold 2 := ⟨ft_gt 12 (by decide +kernel) rfl, ft_gt 1708 (by decide +kernel) rfl, by decide +kernel, by decide +kernel, by decide +kernel⟩
theorem li_Mo_isTold : ft_g (.instanceMethod k_Mo_isTold.1) ∧ ft_g (.selects k_Mo_isTold.1.cls k_Mo_isTold.1 k_Mo_isTold.1) := ⟨ft_gt 1707 (by decide +kernel) rfl, ft_gs 103 (by decide +kernel) rfl⟩
def k_Mo_readsRoute : ftM := (⟨"ForwardingTableModel", "readsRoute", "()V"⟩, prog_13_method_130_code, 5, none, { frames := 5, cells := 0, slots := 0, locals := 114 })
theorem lw_Mo_readsRoute : ft_lw k_Mo_readsRoute 0 := ⟨ft_gt 12 (by decide +kernel) rfl, ft_gt 1700 (by decide +kernel) rfl, by decide +kernel, by decide +kernel, by decide +kernel⟩
theorem li_Mo_readsRoute : ft_g (.instanceMethod k_Mo_readsRoute.1) ∧ ft_g (.selects k_Mo_readsRoute.1.cls k_Mo_readsRoute.1 k_Mo_readsRoute.1) := ⟨ft_gt 1699 (by decide +kernel) rfl, ft_gs 101 (by decide +kernel) rfl⟩
def k_Mo_isSeen : ftM := (⟨"ForwardingTableModel", "isSeen", "(I)Z"⟩, prog_13_method_131_code, 3, some .boolean, { frames := 0, cells := 0, slots := 0, locals := 0 })
theorem lw_Mo_isSeen : ft_lw k_Mo_isSeen 1 := ⟨ft_gt 12 (by decide +kernel) rfl, ft_gt 1717 (by decide +kernel) rfl, by decide +kernel, by decide +kernel, by decide +kernel⟩
theorem li_Mo_isSeen : ft_g (.instanceMethod k_Mo_isSeen.1) ∧ ft_g (.selects k_Mo_isSeen.1.cls k_Mo_isSeen.1 k_Mo_isSeen.1) := ⟨ft_gt 1716 (by decide +kernel) rfl, ft_gs 105 (by decide +kernel) rfl⟩
def k_Mo_readsSeen : ftM := (⟨"ForwardingTableModel", "readsSeen", "()V"⟩, prog_13_method_132_code, 3, none, { frames := 5, cells := 0, slots := 0, locals := 114 })
theorem lw_Mo_readsSeen : ft_lw k_Mo_readsSeen 0 := ⟨ft_gt 12 (by decide +kernel) rfl, ft_gt 1712 (by decide +kernel) rfl, by decide +kernel, by decide +kernel, by decide +kernel⟩
theorem li_Mo_readsSeen : ft_g (.instanceMethod k_Mo_readsSeen.1) ∧ ft_g (.selects k_Mo_readsSeen.1.cls k_Mo_readsSeen.1 k_Mo_readsSeen.1) := ⟨ft_gt 1711 (by decide +kernel) rfl, ft_gs 104 (by decide +kernel) rfl⟩
def k_Mo_load : ftM := (⟨"ForwardingTableModel", "load", "()I"⟩, prog_13_method_133_code, 2, some .int, { frames := 6, cells := 0, slots := 0, locals := 138 })
theorem lw_Mo_load : ft_lw k_Mo_load 0 := ⟨ft_gt 12 (by decide +kernel) rfl, ft_gt 1656 (by decide +kernel) rfl, by decide +kernel, by decide +kernel, by decide +kernel⟩
theorem li_Mo_load : ft_g (.instanceMethod k_Mo_load.1) ∧ ft_g (.selects k_Mo_load.1.cls k_Mo_load.1 k_Mo_load.1) := ⟨ft_gt 1654 (by decide +kernel) rfl, ft_gt 1655 (by decide +kernel) rfl⟩
def k_Mo_errorPosition : ftM := (⟨"ForwardingTableModel", "errorPosition", "()I"⟩, prog_13_method_134_code, 1, some .int, { frames := 0, cells := 0, slots := 0, locals := 0 })
theorem lw_Mo_errorPosition : ft_lw k_Mo_errorPosition 0 := ⟨ft_gt 12 (by decide +kernel) rfl, ft_gt 1721 (by decide +kernel) rfl, by decide +kernel, by decide +kernel, by decide +kernel⟩
theorem li_Mo_errorPosition : ft_g (.instanceMethod k_Mo_errorPosition.1) ∧ ft_g (.selects k_Mo_errorPosition.1.cls k_Mo_errorPosition.1 k_Mo_errorPosition.1) := ⟨ft_gt 1719 (by decide +kernel) rfl, ft_gt 1720 (by decide +kernel) rfl⟩
def k_Ch_countHits : ftM := (⟨"ForwardingTable$Choice", "countHits", "(LForwardingTable$PrefixSet;LForwardingTable$TrafficLog;)V"⟩, prog_2_method_2_code, 5, none, { frames := 3, cells := 0, slots := 0, locals := 67 })
theorem lw_Ch_countHits : ft_lw k_Ch_countHits 2 := ⟨ft_gt 9 (by decide +kernel) rfl, ft_gt 708 (by decide +kernel) rfl, by decide +kernel, by decide +kernel, by decide +kernel⟩
theorem li_Ch_countHits : ft_g (.instanceMethod k_Ch_countHits.1) ∧ ft_g (.selects k_Ch_countHits.1.cls k_Ch_countHits.1 k_Ch_countHits.1) := ⟨ft_gt 706 (by decide +kernel) rfl, ft_gt 707 (by decide +kernel) rfl⟩
def k_Ch_weigh : ftM := (⟨"ForwardingTable$Choice", "weigh", "(LForwardingTable$Cover;I)V"⟩, prog_2_method_3_code, 7, none, { frames := 2, cells := 0, slots := 0, locals := 61 })
theorem lw_Ch_weigh : ft_lw k_Ch_weigh 2 := ⟨ft_gt 9 (by decide +kernel) rfl, ft_gt 721 (by decide +kernel) rfl, by decide +kernel, by decide +kernel, by decide +kernel⟩
theorem li_Ch_weigh : ft_g (.instanceMethod k_Ch_weigh.1) ∧ ft_g (.selects k_Ch_weigh.1.cls k_Ch_weigh.1 k_Ch_weigh.1) := ⟨ft_gt 719 (by decide +kernel) rfl, ft_gt 720 (by decide +kernel) rfl⟩
def k_Ch_emptyRows : ftM := (⟨"ForwardingTable$Choice", "emptyRows", "(I)V"⟩, prog_2_method_4_code, 3, none, { frames := 0, cells := 0, slots := 0, locals := 0 })
theorem lw_Ch_emptyRows : ft_lw k_Ch_emptyRows 1 := ⟨ft_gt 9 (by decide +kernel) rfl, ft_gt 725 (by decide +kernel) rfl, by decide +kernel, by decide +kernel, by decide +kernel⟩
theorem li_Ch_emptyRows : ft_g (.instanceMethod k_Ch_emptyRows.1) ∧ ft_g (.selects k_Ch_emptyRows.1.cls k_Ch_emptyRows.1 k_Ch_emptyRows.1) := ⟨ft_gt 724 (by decide +kernel) rfl, ft_gs 22 (by decide +kernel) rfl⟩
def k_Ch_bitOf : ftM := (⟨"ForwardingTable$Choice", "bitOf", "(I)J"⟩, prog_2_method_5_code, 1, some .long, { frames := 0, cells := 0, slots := 0, locals := 0 })
theorem lw_Ch_bitOf : ft_lw k_Ch_bitOf 1 := ⟨ft_gt 9 (by decide +kernel) rfl, ft_gt 733 (by decide +kernel) rfl, by decide +kernel, by decide +kernel, by decide +kernel⟩
theorem lz_Ch_bitOf : ft_g (.static k_Ch_bitOf.1) := ft_gt 732 (by decide +kernel) rfl
def k_Ch_weighOne : ftM := (⟨"ForwardingTable$Choice", "weighOne", "(III)V"⟩, prog_2_method_6_code, 13, none, { frames := 1, cells := 0, slots := 0, locals := 25 })
theorem lw_Ch_weighOne : ft_lw k_Ch_weighOne 3 := ⟨ft_gt 9 (by decide +kernel) rfl, ft_gt 730 (by decide +kernel) rfl, by decide +kernel, by decide +kernel, by decide +kernel⟩
theorem li_Ch_weighOne : ft_g (.instanceMethod k_Ch_weighOne.1) ∧ ft_g (.selects k_Ch_weighOne.1.cls k_Ch_weighOne.1 k_Ch_weighOne.1) := ⟨ft_gt 729 (by decide +kernel) rfl, ft_gs 23 (by decide +kernel) rfl⟩
def k_Ch_join : ftM := (⟨"ForwardingTable$Choice", "join", "(III)V"⟩, prog_2_method_7_code, 17, none, { frames := 1, cells := 0, slots := 0, locals := 25 })
theorem lw_Ch_join : ft_lw k_Ch_join 3 := ⟨ft_gt 9 (by decide +kernel) rfl, ft_gt 740 (by decide +kernel) rfl, by decide +kernel, by decide +kernel, by decide +kernel⟩
theorem li_Ch_join : ft_g (.instanceMethod k_Ch_join.1) ∧ ft_g (.selects k_Ch_join.1.cls k_Ch_join.1 k_Ch_join.1) := ⟨ft_gt 739 (by decide +kernel) rfl, ft_gs 24 (by decide +kernel) rfl⟩
def k_Ch_isBetter : ftM := (⟨"ForwardingTable$Choice", "isBetter", "(IJIJ)Z"⟩, prog_2_method_8_code, 6, some .boolean, { frames := 0, cells := 0, slots := 0, locals := 0 })
theorem lw_Ch_isBetter : ft_lw k_Ch_isBetter 4 := ⟨ft_gt 9 (by decide +kernel) rfl, ft_gt 736 (by decide +kernel) rfl, by decide +kernel, by decide +kernel, by decide +kernel⟩
theorem lz_Ch_isBetter : ft_g (.static k_Ch_isBetter.1) := ft_gt 735 (by decide +kernel) rfl
def k_Ch_placesWith : ftM := (⟨"ForwardingTable$Choice", "placesWith", "(I)I"⟩, prog_2_method_9_code, 5, some .int, { frames := 1, cells := 0, slots := 0, locals := 21 })
theorem lw_Ch_placesWith : ft_lw k_Ch_placesWith 1 := ⟨ft_gt 9 (by decide +kernel) rfl, ft_gt 749 (by decide +kernel) rfl, by decide +kernel, by decide +kernel, by decide +kernel⟩
theorem li_Ch_placesWith : ft_g (.instanceMethod k_Ch_placesWith.1) ∧ ft_g (.selects k_Ch_placesWith.1.cls k_Ch_placesWith.1 k_Ch_placesWith.1) := ⟨ft_gt 747 (by decide +kernel) rfl, ft_gt 748 (by decide +kernel) rfl⟩
def k_Ch_lostWith : ftM := (⟨"ForwardingTable$Choice", "lostWith", "(I)I"⟩, prog_2_method_10_code, 2, some .int, { frames := 2, cells := 0, slots := 0, locals := 45 })
theorem lw_Ch_lostWith : ft_lw k_Ch_lostWith 1 := ⟨ft_gt 9 (by decide +kernel) rfl, ft_gt 885 (by decide +kernel) rfl, by decide +kernel, by decide +kernel, by decide +kernel⟩
theorem li_Ch_lostWith : ft_g (.instanceMethod k_Ch_lostWith.1) ∧ ft_g (.selects k_Ch_lostWith.1.cls k_Ch_lostWith.1 k_Ch_lostWith.1) := ⟨ft_gt 883 (by decide +kernel) rfl, ft_gt 884 (by decide +kernel) rfl⟩
def k_Ch_isKept : ftM := (⟨"ForwardingTable$Choice", "isKept", "(I)Z"⟩, prog_2_method_11_code, 2, some .boolean, { frames := 1, cells := 0, slots := 0, locals := 20 })
theorem lw_Ch_isKept : ft_lw k_Ch_isKept 1 := ⟨ft_gt 9 (by decide +kernel) rfl, ft_gt 753 (by decide +kernel) rfl, by decide +kernel, by decide +kernel, by decide +kernel⟩
theorem li_Ch_isKept : ft_g (.instanceMethod k_Ch_isKept.1) ∧ ft_g (.selects k_Ch_isKept.1.cls k_Ch_isKept.1 k_Ch_isKept.1) := ⟨ft_gt 751 (by decide +kernel) rfl, ft_gt 752 (by decide +kernel) rfl⟩
def k_Ch_choose : ftM := (⟨"ForwardingTable$Choice", "choose", "(LForwardingTable$PrefixSet;LForwardingTable$Cover;I)V"⟩, prog_2_method_12_code, 6, none, { frames := 2, cells := 0, slots := 0, locals := 50 })
theorem lw_Ch_choose : ft_lw k_Ch_choose 3 := ⟨ft_gt 9 (by decide +kernel) rfl, ft_gt 745 (by decide +kernel) rfl, by decide +kernel, by decide +kernel, by decide +kernel⟩
theorem li_Ch_choose : ft_g (.instanceMethod k_Ch_choose.1) ∧ ft_g (.selects k_Ch_choose.1.cls k_Ch_choose.1 k_Ch_choose.1) := ⟨ft_gt 743 (by decide +kernel) rfl, ft_gt 744 (by decide +kernel) rfl⟩
def k_Co_compress : ftM := (⟨"ForwardingTable$Compressor", "compress", "(LForwardingTable$PrefixSet;)I"⟩, prog_3_method_2_code, 3, some .int, { frames := 3, cells := 0, slots := 0, locals := 80 })
theorem lw_Co_compress : ft_lw k_Co_compress 1 := ⟨ft_gt 8 (by decide +kernel) rfl, ft_gt 668 (by decide +kernel) rfl, by decide +kernel, by decide +kernel, by decide +kernel⟩
theorem li_Co_compress : ft_g (.instanceMethod k_Co_compress.1) ∧ ft_g (.selects k_Co_compress.1.cls k_Co_compress.1 k_Co_compress.1) := ⟨ft_gt 666 (by decide +kernel) rfl, ft_gt 667 (by decide +kernel) rfl⟩
def k_Co_collect : ftM := (⟨"ForwardingTable$Compressor", "collect", "(LForwardingTable$PrefixSet;)V"⟩, prog_3_method_3_code, 3, none, { frames := 2, cells := 0, slots := 0, locals := 50 })
theorem lw_Co_collect : ft_lw k_Co_collect 1 := ⟨ft_gt 8 (by decide +kernel) rfl, ft_gt 703 (by decide +kernel) rfl, by decide +kernel, by decide +kernel, by decide +kernel⟩
theorem li_Co_collect : ft_g (.instanceMethod k_Co_collect.1) ∧ ft_g (.selects k_Co_collect.1.cls k_Co_collect.1 k_Co_collect.1) := ⟨ft_gt 701 (by decide +kernel) rfl, ft_gt 702 (by decide +kernel) rfl⟩
def k_Co_addNode : ftM := (⟨"ForwardingTable$Compressor", "addNode", "(JIIII)V"⟩, prog_3_method_4_code, 7, none, { frames := 0, cells := 0, slots := 0, locals := 0 })
theorem lw_Co_addNode : ft_lw k_Co_addNode 5 := ⟨ft_gt 8 (by decide +kernel) rfl, ft_gt 673 (by decide +kernel) rfl, by decide +kernel, by decide +kernel, by decide +kernel⟩
theorem li_Co_addNode : ft_g (.instanceMethod k_Co_addNode.1) ∧ ft_g (.selects k_Co_addNode.1.cls k_Co_addNode.1 k_Co_addNode.1) := ⟨ft_gt 672 (by decide +kernel) rfl, ft_gs 17 (by decide +kernel) rfl⟩
def k_Co_open : ftM := (⟨"ForwardingTable$Compressor", "open", "(ILForwardingTable$PrefixSet;)V"⟩, prog_3_method_5_code, 13, none, { frames := 2, cells := 0, slots := 0, locals := 48 })
theorem lw_Co_open : ft_lw k_Co_open 2 := ⟨ft_gt 8 (by decide +kernel) rfl, ft_gt 678 (by decide +kernel) rfl, by decide +kernel, by decide +kernel, by decide +kernel⟩
theorem li_Co_open : ft_g (.instanceMethod k_Co_open.1) ∧ ft_g (.selects k_Co_open.1.cls k_Co_open.1 k_Co_open.1) := ⟨ft_gt 677 (by decide +kernel) rfl, ft_gs 18 (by decide +kernel) rfl⟩
def k_Co_commonLength : ftM := (⟨"ForwardingTable$Compressor", "commonLength", "(JJI)I"⟩, prog_3_method_6_code, 8, some .int, { frames := 1, cells := 0, slots := 0, locals := 21 })
theorem lw_Co_commonLength : ft_lw k_Co_commonLength 3 := ⟨ft_gt 8 (by decide +kernel) rfl, ft_gt 683 (by decide +kernel) rfl, by decide +kernel, by decide +kernel, by decide +kernel⟩
theorem lz_Co_commonLength : ft_g (.static k_Co_commonLength.1) := ft_gt 682 (by decide +kernel) rfl
def k_Co_setOf : ftM := (⟨"ForwardingTable$Compressor", "setOf", "(I)I"⟩, prog_3_method_7_code, 2, some .int, { frames := 0, cells := 0, slots := 0, locals := 0 })
theorem lw_Co_setOf : ft_lw k_Co_setOf 1 := ⟨ft_gt 8 (by decide +kernel) rfl, ft_gt 692 (by decide +kernel) rfl, by decide +kernel, by decide +kernel, by decide +kernel⟩
theorem li_Co_setOf : ft_g (.instanceMethod k_Co_setOf.1) ∧ ft_g (.selects k_Co_setOf.1.cls k_Co_setOf.1 k_Co_setOf.1) := ⟨ft_gt 691 (by decide +kernel) rfl, ft_gs 20 (by decide +kernel) rfl⟩
def k_Co_gatherSets : ftM := (⟨"ForwardingTable$Compressor", "gatherSets", "()V"⟩, prog_3_method_8_code, 3, none, { frames := 1, cells := 0, slots := 0, locals := 21 })
theorem lw_Co_gatherSets : ft_lw k_Co_gatherSets 0 := ⟨ft_gt 8 (by decide +kernel) rfl, ft_gt 688 (by decide +kernel) rfl, by decide +kernel, by decide +kernel, by decide +kernel⟩
theorem li_Co_gatherSets : ft_g (.instanceMethod k_Co_gatherSets.1) ∧ ft_g (.selects k_Co_gatherSets.1.cls k_Co_gatherSets.1 k_Co_gatherSets.1) := ⟨ft_gt 687 (by decide +kernel) rfl, ft_gs 19 (by decide +kernel) rfl⟩
def k_Co_handDown : ftM := (⟨"ForwardingTable$Compressor", "handDown", "()I"⟩, prog_3_method_9_code, 5, some .int, { frames := 1, cells := 0, slots := 0, locals := 21 })
theorem lw_Co_handDown : ft_lw k_Co_handDown 0 := ⟨ft_gt 8 (by decide +kernel) rfl, ft_gt 696 (by decide +kernel) rfl, by decide +kernel, by decide +kernel, by decide +kernel⟩
theorem li_Co_handDown : ft_g (.instanceMethod k_Co_handDown.1) ∧ ft_g (.selects k_Co_handDown.1.cls k_Co_handDown.1 k_Co_handDown.1) := ⟨ft_gt 695 (by decide +kernel) rfl, ft_gs 21 (by decide +kernel) rfl⟩
def k_Co_smallestHop : ftM := (⟨"ForwardingTable$Compressor", "smallestHop", "(I)I"⟩, prog_3_method_10_code, 2, some .int, { frames := 0, cells := 0, slots := 0, locals := 0 })
theorem lw_Co_smallestHop : ft_lw k_Co_smallestHop 1 := ⟨ft_gt 8 (by decide +kernel) rfl, ft_gt 699 (by decide +kernel) rfl, by decide +kernel, by decide +kernel, by decide +kernel⟩
theorem lz_Co_smallestHop : ft_g (.static k_Co_smallestHop.1) := ft_gt 698 (by decide +kernel) rfl
def k_Cv_sweep : ftM := (⟨"ForwardingTable$Cover", "sweep", "(LForwardingTable$PrefixSet;)V"⟩, prog_4_method_2_code, 5, none, { frames := 3, cells := 0, slots := 0, locals := 69 })
theorem lw_Cv_sweep : ft_lw k_Cv_sweep 1 := ⟨ft_gt 7 (by decide +kernel) rfl, ft_gt 644 (by decide +kernel) rfl, by decide +kernel, by decide +kernel, by decide +kernel⟩
theorem li_Cv_sweep : ft_g (.instanceMethod k_Cv_sweep.1) ∧ ft_g (.selects k_Cv_sweep.1.cls k_Cv_sweep.1 k_Cv_sweep.1) := ⟨ft_gt 642 (by decide +kernel) rfl, ft_gt 643 (by decide +kernel) rfl⟩
def k_Cv_runEnd : ftM := (⟨"ForwardingTable$Cover", "runEnd", "(I)J"⟩, prog_4_method_3_code, 2, some .long, { frames := 0, cells := 0, slots := 0, locals := 0 })
theorem lw_Cv_runEnd : ft_lw k_Cv_runEnd 1 := ⟨ft_gt 7 (by decide +kernel) rfl, ft_gt 952 (by decide +kernel) rfl, by decide +kernel, by decide +kernel, by decide +kernel⟩
theorem li_Cv_runEnd : ft_g (.instanceMethod k_Cv_runEnd.1) ∧ ft_g (.selects k_Cv_runEnd.1.cls k_Cv_runEnd.1 k_Cv_runEnd.1) := ⟨ft_gt 950 (by decide +kernel) rfl, ft_gt 951 (by decide +kernel) rfl⟩
def k_Cv_innermost : ftM := (⟨"ForwardingTable$Cover", "innermost", "()I"⟩, prog_4_method_4_code, 1, some .int, { frames := 0, cells := 0, slots := 0, locals := 0 })
theorem lw_Cv_innermost : ft_lw k_Cv_innermost 0 := ⟨ft_gt 7 (by decide +kernel) rfl, ft_gt 660 (by decide +kernel) rfl, by decide +kernel, by decide +kernel, by decide +kernel⟩
theorem li_Cv_innermost : ft_g (.instanceMethod k_Cv_innermost.1) ∧ ft_g (.selects k_Cv_innermost.1.cls k_Cv_innermost.1 k_Cv_innermost.1) := ⟨ft_gt 659 (by decide +kernel) rfl, ft_gs 16 (by decide +kernel) rfl⟩
def k_Cv_leaveUpTo : ftM := (⟨"ForwardingTable$Cover", "leaveUpTo", "(JLForwardingTable$PrefixSet;)V"⟩, prog_4_method_5_code, 4, none, { frames := 2, cells := 0, slots := 0, locals := 46 })
theorem lw_Cv_leaveUpTo : ft_lw k_Cv_leaveUpTo 2 := ⟨ft_gt 7 (by decide +kernel) rfl, ft_gt 649 (by decide +kernel) rfl, by decide +kernel, by decide +kernel, by decide +kernel⟩
theorem li_Cv_leaveUpTo : ft_g (.instanceMethod k_Cv_leaveUpTo.1) ∧ ft_g (.selects k_Cv_leaveUpTo.1.cls k_Cv_leaveUpTo.1 k_Cv_leaveUpTo.1) := ⟨ft_gt 648 (by decide +kernel) rfl, ft_gs 14 (by decide +kernel) rfl⟩
def k_Cv_walkTo : ftM := (⟨"ForwardingTable$Cover", "walkTo", "(JLForwardingTable$PrefixSet;)V"⟩, prog_4_method_6_code, 7, none, { frames := 1, cells := 0, slots := 0, locals := 20 })
theorem lw_Cv_walkTo : ft_lw k_Cv_walkTo 2 := ⟨ft_gt 7 (by decide +kernel) rfl, ft_gt 656 (by decide +kernel) rfl, by decide +kernel, by decide +kernel, by decide +kernel⟩
theorem li_Cv_walkTo : ft_g (.instanceMethod k_Cv_walkTo.1) ∧ ft_g (.selects k_Cv_walkTo.1.cls k_Cv_walkTo.1 k_Cv_walkTo.1) := ⟨ft_gt 655 (by decide +kernel) rfl, ft_gs 15 (by decide +kernel) rfl⟩
def k_Hi_forget : ftM := (⟨"ForwardingTable$History", "forget", "()V"⟩, prog_5_method_2_code, 1, none, { frames := 0, cells := 0, slots := 0, locals := 0 })
theorem lw_Hi_forget : ft_lw k_Hi_forget 0 := ⟨ft_gt 5 (by decide +kernel) rfl, ft_gt 580 (by decide +kernel) rfl, by decide +kernel, by decide +kernel, by decide +kernel⟩
theorem li_Hi_forget : ft_g (.instanceMethod k_Hi_forget.1) ∧ ft_g (.selects k_Hi_forget.1.cls k_Hi_forget.1 k_Hi_forget.1) := ⟨ft_gt 578 (by decide +kernel) rfl, ft_gt 579 (by decide +kernel) rfl⟩
def k_Hi_save : ftM := (⟨"ForwardingTable$History", "save", "(LForwardingTable$State;)V"⟩, prog_5_method_3_code, 2, none, { frames := 3, cells := 0, slots := 0, locals := 69 })
theorem lw_Hi_save : ft_lw k_Hi_save 1 := ⟨ft_gt 5 (by decide +kernel) rfl, ft_gt 605 (by decide +kernel) rfl, by decide +kernel, by decide +kernel, by decide +kernel⟩
theorem li_Hi_save : ft_g (.instanceMethod k_Hi_save.1) ∧ ft_g (.selects k_Hi_save.1.cls k_Hi_save.1 k_Hi_save.1) := ⟨ft_gt 603 (by decide +kernel) rfl, ft_gt 604 (by decide +kernel) rfl⟩
def k_Hi_restore : ftM := (⟨"ForwardingTable$History", "restore", "(LForwardingTable$State;)Z"⟩, prog_5_method_4_code, 2, some .boolean, { frames := 3, cells := 0, slots := 0, locals := 69 })
theorem lw_Hi_restore : ft_lw k_Hi_restore 1 := ⟨ft_gt 5 (by decide +kernel) rfl, ft_gt 1004 (by decide +kernel) rfl, by decide +kernel, by decide +kernel, by decide +kernel⟩
theorem li_Hi_restore : ft_g (.instanceMethod k_Hi_restore.1) ∧ ft_g (.selects k_Hi_restore.1.cls k_Hi_restore.1 k_Hi_restore.1) := ⟨ft_gt 1002 (by decide +kernel) rfl, ft_gt 1003 (by decide +kernel) rfl⟩
def k_PS_copyFrom : ftM := (⟨"ForwardingTable$PrefixSet", "copyFrom", "(LForwardingTable$PrefixSet;)V"⟩, prog_6_method_2_code, 3, none, { frames := 1, cells := 0, slots := 0, locals := 26 })
theorem lw_PS_copyFrom : ft_lw k_PS_copyFrom 1 := ⟨ft_gt 3 (by decide +kernel) rfl, ft_gt 570 (by decide +kernel) rfl, by decide +kernel, by decide +kernel, by decide +kernel⟩
theorem li_PS_copyFrom : ft_g (.instanceMethod k_PS_copyFrom.1) ∧ ft_g (.selects k_PS_copyFrom.1.cls k_PS_copyFrom.1 k_PS_copyFrom.1) := ⟨ft_gt 568 (by decide +kernel) rfl, ft_gt 569 (by decide +kernel) rfl⟩
def k_PS_placeOf : ftM := (⟨"ForwardingTable$PrefixSet", "placeOf", "(J)I"⟩, prog_6_method_3_code, 4, some .int, { frames := 0, cells := 0, slots := 0, locals := 0 })
theorem lw_PS_placeOf : ft_lw k_PS_placeOf 1 := ⟨ft_gt 3 (by decide +kernel) rfl, ft_gt 529 (by decide +kernel) rfl, by decide +kernel, by decide +kernel, by decide +kernel⟩
theorem li_PS_placeOf : ft_g (.instanceMethod k_PS_placeOf.1) ∧ ft_g (.selects k_PS_placeOf.1.cls k_PS_placeOf.1 k_PS_placeOf.1) := ⟨ft_gt 528 (by decide +kernel) rfl, ft_gs 8 (by decide +kernel) rfl⟩
def k_PS_indexOf : ftM := (⟨"ForwardingTable$PrefixSet", "indexOf", "(J)I"⟩, prog_6_method_4_code, 4, some .int, { frames := 1, cells := 0, slots := 0, locals := 23 })
theorem lw_PS_indexOf : ft_lw k_PS_indexOf 1 := ⟨ft_gt 3 (by decide +kernel) rfl, ft_gt 525 (by decide +kernel) rfl, by decide +kernel, by decide +kernel, by decide +kernel⟩
theorem li_PS_indexOf : ft_g (.instanceMethod k_PS_indexOf.1) ∧ ft_g (.selects k_PS_indexOf.1.cls k_PS_indexOf.1 k_PS_indexOf.1) := ⟨ft_gt 523 (by decide +kernel) rfl, ft_gt 524 (by decide +kernel) rfl⟩
def k_PS_longest : ftM := (⟨"ForwardingTable$PrefixSet", "longest", "(J)I"⟩, prog_6_method_5_code, 4, some .int, { frames := 2, cells := 0, slots := 0, locals := 44 })
theorem lw_PS_longest : ft_lw k_PS_longest 1 := ⟨ft_gt 3 (by decide +kernel) rfl, ft_gt 712 (by decide +kernel) rfl, by decide +kernel, by decide +kernel, by decide +kernel⟩
theorem li_PS_longest : ft_g (.instanceMethod k_PS_longest.1) ∧ ft_g (.selects k_PS_longest.1.cls k_PS_longest.1 k_PS_longest.1) := ⟨ft_gt 710 (by decide +kernel) rfl, ft_gt 711 (by decide +kernel) rfl⟩
def k_PS_answersByHop : ftM := (⟨"ForwardingTable$PrefixSet", "answersByHop", "(J)Z"⟩, prog_6_method_6_code, 4, some .boolean, { frames := 3, cells := 0, slots := 0, locals := 67 })
theorem lw_PS_answersByHop : ft_lw k_PS_answersByHop 1 := ⟨ft_gt 3 (by decide +kernel) rfl, ft_gt 826 (by decide +kernel) rfl, by decide +kernel, by decide +kernel, by decide +kernel⟩
theorem li_PS_answersByHop : ft_g (.instanceMethod k_PS_answersByHop.1) ∧ ft_g (.selects k_PS_answersByHop.1.cls k_PS_answersByHop.1 k_PS_answersByHop.1) := ⟨ft_gt 824 (by decide +kernel) rfl, ft_gt 825 (by decide +kernel) rfl⟩
def k_PS_put : ftM := (⟨"ForwardingTable$PrefixSet", "put", "(JI)V"⟩, prog_6_method_7_code, 5, none, { frames := 1, cells := 0, slots := 0, locals := 26 })
theorem lw_PS_put : ft_lw k_PS_put 2 := ⟨ft_gt 3 (by decide +kernel) rfl, ft_gt 533 (by decide +kernel) rfl, by decide +kernel, by decide +kernel, by decide +kernel⟩
theorem li_PS_put : ft_g (.instanceMethod k_PS_put.1) ∧ ft_g (.selects k_PS_put.1.cls k_PS_put.1 k_PS_put.1) := ⟨ft_gt 531 (by decide +kernel) rfl, ft_gt 532 (by decide +kernel) rfl⟩
def k_PS_removeAt : ftM := (⟨"ForwardingTable$PrefixSet", "removeAt", "(I)V"⟩, prog_6_method_8_code, 2, none, { frames := 1, cells := 0, slots := 0, locals := 26 })
theorem lw_PS_removeAt : ft_lw k_PS_removeAt 1 := ⟨ft_gt 3 (by decide +kernel) rfl, ft_gt 805 (by decide +kernel) rfl, by decide +kernel, by decide +kernel, by decide +kernel⟩
theorem li_PS_removeAt : ft_g (.instanceMethod k_PS_removeAt.1) ∧ ft_g (.selects k_PS_removeAt.1.cls k_PS_removeAt.1 k_PS_removeAt.1) := ⟨ft_gt 803 (by decide +kernel) rfl, ft_gt 804 (by decide +kernel) rfl⟩
def k_PS_removeInside : ftM := (⟨"ForwardingTable$PrefixSet", "removeInside", "(J)I"⟩, prog_6_method_9_code, 6, some .int, { frames := 2, cells := 0, slots := 0, locals := 44 })
theorem lw_PS_removeInside : ft_lw k_PS_removeInside 1 := ⟨ft_gt 3 (by decide +kernel) rfl, ft_gt 790 (by decide +kernel) rfl, by decide +kernel, by decide +kernel, by decide +kernel⟩
theorem li_PS_removeInside : ft_g (.instanceMethod k_PS_removeInside.1) ∧ ft_g (.selects k_PS_removeInside.1.cls k_PS_removeInside.1 k_PS_removeInside.1) := ⟨ft_gt 788 (by decide +kernel) rfl, ft_gt 789 (by decide +kernel) rfl⟩
def k_PS_hasProperlyAround : ftM := (⟨"ForwardingTable$PrefixSet", "hasProperlyAround", "(J)Z"⟩, prog_6_method_10_code, 4, some .boolean, { frames := 2, cells := 0, slots := 0, locals := 44 })
theorem lw_PS_hasProperlyAround : ft_lw k_PS_hasProperlyAround 1 := ⟨ft_gt 3 (by decide +kernel) rfl, ft_gt 794 (by decide +kernel) rfl, by decide +kernel, by decide +kernel, by decide +kernel⟩
theorem li_PS_hasProperlyAround : ft_g (.instanceMethod k_PS_hasProperlyAround.1) ∧ ft_g (.selects k_PS_hasProperlyAround.1.cls k_PS_hasProperlyAround.1 k_PS_hasProperlyAround.1) := ⟨ft_gt 792 (by decide +kernel) rfl, ft_gt 793 (by decide +kernel) rfl⟩
def k_PS_tell : ftM := (⟨"ForwardingTable$PrefixSet", "tell", "(II)J"⟩, prog_6_method_11_code, 3, some .long, { frames := 1, cells := 0, slots := 0, locals := 21 })
theorem lw_PS_tell : ft_lw k_PS_tell 2 := ⟨ft_gt 3 (by decide +kernel) rfl, ft_gt 629 (by decide +kernel) rfl, by decide +kernel, by decide +kernel, by decide +kernel⟩
theorem li_PS_tell : ft_g (.instanceMethod k_PS_tell.1) ∧ ft_g (.selects k_PS_tell.1.cls k_PS_tell.1 k_PS_tell.1) := ⟨ft_gt 627 (by decide +kernel) rfl, ft_gt 628 (by decide +kernel) rfl⟩
def k_Re_addPrefixes : ftM := (⟨"ForwardingTable$Report", "addPrefixes", "(LForwardingTable$PrefixSet;)V"⟩, prog_7_method_2_code, 3, none, { frames := 3, cells := 0, slots := 0, locals := 66 })
theorem lw_Re_addPrefixes : ft_lw k_Re_addPrefixes 1 := ⟨ft_gt 11 (by decide +kernel) rfl, ft_gt 1016 (by decide +kernel) rfl, by decide +kernel, by decide +kernel, by decide +kernel⟩
theorem li_Re_addPrefixes : ft_g (.instanceMethod k_Re_addPrefixes.1) ∧ ft_g (.selects k_Re_addPrefixes.1.cls k_Re_addPrefixes.1 k_Re_addPrefixes.1) := ⟨ft_gt 1014 (by decide +kernel) rfl, ft_gt 1015 (by decide +kernel) rfl⟩
def k_Re_addTraffic : ftM := (⟨"ForwardingTable$Report", "addTraffic", "(LForwardingTable$TrafficLog;)V"⟩, prog_7_method_3_code, 3, none, { frames := 3, cells := 0, slots := 0, locals := 66 })
theorem lw_Re_addTraffic : ft_lw k_Re_addTraffic 1 := ⟨ft_gt 11 (by decide +kernel) rfl, ft_gt 1036 (by decide +kernel) rfl, by decide +kernel, by decide +kernel, by decide +kernel⟩
theorem li_Re_addTraffic : ft_g (.instanceMethod k_Re_addTraffic.1) ∧ ft_g (.selects k_Re_addTraffic.1.cls k_Re_addTraffic.1 k_Re_addTraffic.1) := ⟨ft_gt 1034 (by decide +kernel) rfl, ft_gt 1035 (by decide +kernel) rfl⟩
def k_Re_addAddress : ftM := (⟨"ForwardingTable$Report", "addAddress", "(J)V"⟩, prog_7_method_4_code, 4, none, { frames := 2, cells := 0, slots := 0, locals := 43 })
theorem lw_Re_addAddress : ft_lw k_Re_addAddress 1 := ⟨ft_gt 11 (by decide +kernel) rfl, ft_gt 1021 (by decide +kernel) rfl, by decide +kernel, by decide +kernel, by decide +kernel⟩
theorem li_Re_addAddress : ft_g (.instanceMethod k_Re_addAddress.1) ∧ ft_g (.selects k_Re_addAddress.1.cls k_Re_addAddress.1 k_Re_addAddress.1) := ⟨ft_gt 1020 (by decide +kernel) rfl, ft_gs 30 (by decide +kernel) rfl⟩
def k_Re_addNumber : ftM := (⟨"ForwardingTable$Report", "addNumber", "(I)V"⟩, prog_7_method_5_code, 3, none, { frames := 1, cells := 0, slots := 0, locals := 21 })
theorem lw_Re_addNumber : ft_lw k_Re_addNumber 1 := ⟨ft_gt 11 (by decide +kernel) rfl, ft_gt 1026 (by decide +kernel) rfl, by decide +kernel, by decide +kernel, by decide +kernel⟩
theorem li_Re_addNumber : ft_g (.instanceMethod k_Re_addNumber.1) ∧ ft_g (.selects k_Re_addNumber.1.cls k_Re_addNumber.1 k_Re_addNumber.1) := ⟨ft_gt 1025 (by decide +kernel) rfl, ft_gs 31 (by decide +kernel) rfl⟩
def k_Re_addSign : ftM := (⟨"ForwardingTable$Report", "addSign", "(I)V"⟩, prog_7_method_6_code, 2, none, { frames := 0, cells := 0, slots := 0, locals := 0 })
theorem lw_Re_addSign : ft_lw k_Re_addSign 1 := ⟨ft_gt 11 (by decide +kernel) rfl, ft_gt 1031 (by decide +kernel) rfl, by decide +kernel, by decide +kernel, by decide +kernel⟩
theorem li_Re_addSign : ft_g (.instanceMethod k_Re_addSign.1) ∧ ft_g (.selects k_Re_addSign.1.cls k_Re_addSign.1 k_Re_addSign.1) := ⟨ft_gt 1030 (by decide +kernel) rfl, ft_gs 32 (by decide +kernel) rfl⟩
def k_St_reset : ftM := (⟨"ForwardingTable$State", "reset", "()V"⟩, prog_8_method_2_code, 2, none, { frames := 0, cells := 0, slots := 0, locals := 0 })
theorem lw_St_reset : ft_lw k_St_reset 0 := ⟨ft_gt 2 (by decide +kernel) rfl, ft_gt 419 (by decide +kernel) rfl, by decide +kernel, by decide +kernel, by decide +kernel⟩
theorem li_St_reset : ft_g (.instanceMethod k_St_reset.1) ∧ ft_g (.selects k_St_reset.1.cls k_St_reset.1 k_St_reset.1) := ⟨ft_gt 417 (by decide +kernel) rfl, ft_gt 418 (by decide +kernel) rfl⟩
def k_St_copyFrom : ftM := (⟨"ForwardingTable$State", "copyFrom", "(LForwardingTable$State;)V"⟩, prog_8_method_3_code, 2, none, { frames := 2, cells := 0, slots := 0, locals := 48 })
theorem lw_St_copyFrom : ft_lw k_St_copyFrom 1 := ⟨ft_gt 2 (by decide +kernel) rfl, ft_gt 566 (by decide +kernel) rfl, by decide +kernel, by decide +kernel, by decide +kernel⟩
theorem li_St_copyFrom : ft_g (.instanceMethod k_St_copyFrom.1) ∧ ft_g (.selects k_St_copyFrom.1.cls k_St_copyFrom.1 k_St_copyFrom.1) := ⟨ft_gt 564 (by decide +kernel) rfl, ft_gt 565 (by decide +kernel) rfl⟩
def k_St_room : ftM := (⟨"ForwardingTable$State", "room", "()I"⟩, prog_8_method_4_code, 1, some .int, { frames := 0, cells := 0, slots := 0, locals := 0 })
theorem lw_St_room : ft_lw k_St_room 0 := ⟨ft_gt 2 (by decide +kernel) rfl, ft_gt 611 (by decide +kernel) rfl, by decide +kernel, by decide +kernel, by decide +kernel⟩
theorem li_St_room : ft_g (.instanceMethod k_St_room.1) ∧ ft_g (.selects k_St_room.1.cls k_St_room.1 k_St_room.1) := ⟨ft_gt 609 (by decide +kernel) rfl, ft_gt 610 (by decide +kernel) rfl⟩
def k_St_emptyHardware : ftM := (⟨"ForwardingTable$State", "emptyHardware", "()V"⟩, prog_8_method_5_code, 1, none, { frames := 0, cells := 0, slots := 0, locals := 0 })
theorem lw_St_emptyHardware : ft_lw k_St_emptyHardware 0 := ⟨ft_gt 2 (by decide +kernel) rfl, ft_gt 615 (by decide +kernel) rfl, by decide +kernel, by decide +kernel, by decide +kernel⟩
theorem li_St_emptyHardware : ft_g (.instanceMethod k_St_emptyHardware.1) ∧ ft_g (.selects k_St_emptyHardware.1.cls k_St_emptyHardware.1 k_St_emptyHardware.1) := ⟨ft_gt 613 (by decide +kernel) rfl, ft_gt 614 (by decide +kernel) rfl⟩
def k_St_routeChanged : ftM := (⟨"ForwardingTable$State", "routeChanged", "(J)I"⟩, prog_8_method_6_code, 5, some .int, { frames := 3, cells := 0, slots := 0, locals := 69 })
theorem lw_St_routeChanged : ft_lw k_St_routeChanged 1 := ⟨ft_gt 2 (by decide +kernel) rfl, ft_gt 786 (by decide +kernel) rfl, by decide +kernel, by decide +kernel, by decide +kernel⟩
theorem li_St_routeChanged : ft_g (.instanceMethod k_St_routeChanged.1) ∧ ft_g (.selects k_St_routeChanged.1.cls k_St_routeChanged.1 k_St_routeChanged.1) := ⟨ft_gt 784 (by decide +kernel) rfl, ft_gt 785 (by decide +kernel) rfl⟩
def k_SP_make : ftM := (⟨"ForwardingTable$SyncPlan", "make", "(LForwardingTable$PrefixSet;LForwardingTable$PrefixSet;I)V"⟩, prog_9_method_2_code, 9, none, { frames := 3, cells := 0, slots := 0, locals := 69 })
theorem lw_SP_make : ft_lw k_SP_make 3 := ⟨ft_gt 10 (by decide +kernel) rfl, ft_gt 758 (by decide +kernel) rfl, by decide +kernel, by decide +kernel, by decide +kernel⟩
theorem li_SP_make : ft_g (.instanceMethod k_SP_make.1) ∧ ft_g (.selects k_SP_make.1.cls k_SP_make.1 k_SP_make.1) := ⟨ft_gt 756 (by decide +kernel) rfl, ft_gt 757 (by decide +kernel) rfl⟩
def k_SP_countTogether : ftM := (⟨"ForwardingTable$SyncPlan", "countTogether", "(LForwardingTable$PrefixSet;LForwardingTable$PrefixSet;)I"⟩, prog_9_method_3_code, 4, some .int, { frames := 2, cells := 0, slots := 0, locals := 46 })
theorem lw_SP_countTogether : ft_lw k_SP_countTogether 2 := ⟨ft_gt 10 (by decide +kernel) rfl, ft_gt 761 (by decide +kernel) rfl, by decide +kernel, by decide +kernel, by decide +kernel⟩
theorem lz_SP_countTogether : ft_g (.static k_SP_countTogether.1) := ft_gt 760 (by decide +kernel) rfl
def k_SP_add : ftM := (⟨"ForwardingTable$SyncPlan", "add", "(IJII)V"⟩, prog_9_method_4_code, 7, none, { frames := 0, cells := 0, slots := 0, locals := 0 })
theorem lw_SP_add : ft_lw k_SP_add 4 := ⟨ft_gt 10 (by decide +kernel) rfl, ft_gt 767 (by decide +kernel) rfl, by decide +kernel, by decide +kernel, by decide +kernel⟩
theorem li_SP_add : ft_g (.instanceMethod k_SP_add.1) ∧ ft_g (.selects k_SP_add.1.cls k_SP_add.1 k_SP_add.1) := ⟨ft_gt 766 (by decide +kernel) rfl, ft_gs 25 (by decide +kernel) rfl⟩
def k_SP_makeChanges : ftM := (⟨"ForwardingTable$SyncPlan", "makeChanges", "(LForwardingTable$PrefixSet;I)I"⟩, prog_9_method_5_code, 5, some .int, { frames := 2, cells := 0, slots := 0, locals := 50 })
theorem lw_SP_makeChanges : ft_lw k_SP_makeChanges 2 := ⟨ft_gt 10 (by decide +kernel) rfl, ft_gt 933 (by decide +kernel) rfl, by decide +kernel, by decide +kernel, by decide +kernel⟩
theorem li_SP_makeChanges : ft_g (.instanceMethod k_SP_makeChanges.1) ∧ ft_g (.selects k_SP_makeChanges.1.cls k_SP_makeChanges.1 k_SP_makeChanges.1) := ⟨ft_gt 931 (by decide +kernel) rfl, ft_gt 932 (by decide +kernel) rfl⟩
def k_Ta_addFour : ftM := (⟨"ForwardingTable$Tape", "addFour", "(I)V"⟩, prog_10_method_2_code, 3, none, { frames := 0, cells := 0, slots := 0, locals := 0 })
theorem lw_Ta_addFour : ft_lw k_Ta_addFour 1 := ⟨ft_gt 6 (by decide +kernel) rfl, ft_gt 407 (by decide +kernel) rfl, by decide +kernel, by decide +kernel, by decide +kernel⟩
theorem li_Ta_addFour : ft_g (.instanceMethod k_Ta_addFour.1) ∧ ft_g (.selects k_Ta_addFour.1.cls k_Ta_addFour.1 k_Ta_addFour.1) := ⟨ft_gt 405 (by decide +kernel) rfl, ft_gt 406 (by decide +kernel) rfl⟩
def k_Ta_readInto : ftM := (⟨"ForwardingTable$Tape", "readInto", "(LForwardingTable$State;)Z"⟩, prog_10_method_3_code, 3, some .boolean, { frames := 9, cells := 0, slots := 0, locals := 227 })
theorem lw_Ta_readInto : ft_lw k_Ta_readInto 1 := ⟨ft_gt 6 (by decide +kernel) rfl, ft_gt 423 (by decide +kernel) rfl, by decide +kernel, by decide +kernel, by decide +kernel⟩
theorem li_Ta_readInto : ft_g (.instanceMethod k_Ta_readInto.1) ∧ ft_g (.selects k_Ta_readInto.1.cls k_Ta_readInto.1 k_Ta_readInto.1) := ⟨ft_gt 421 (by decide +kernel) rfl, ft_gt 422 (by decide +kernel) rfl⟩
def k_Ta_readRoute : ftM := (⟨"ForwardingTable$Tape", "readRoute", "(LForwardingTable$PrefixSet;)Z"⟩, prog_10_method_4_code, 4, some .boolean, { frames := 8, cells := 0, slots := 0, locals := 204 })
theorem lw_Ta_readRoute : ft_lw k_Ta_readRoute 1 := ⟨ft_gt 6 (by decide +kernel) rfl, ft_gt 510 (by decide +kernel) rfl, by decide +kernel, by decide +kernel, by decide +kernel⟩
theorem li_Ta_readRoute : ft_g (.instanceMethod k_Ta_readRoute.1) ∧ ft_g (.selects k_Ta_readRoute.1.cls k_Ta_readRoute.1 k_Ta_readRoute.1) := ⟨ft_gt 509 (by decide +kernel) rfl, ft_gs 6 (by decide +kernel) rfl⟩
def k_Ta_readSeen : ftM := (⟨"ForwardingTable$Tape", "readSeen", "(LForwardingTable$TrafficLog;)Z"⟩, prog_10_method_5_code, 2, some .boolean, { frames := 8, cells := 0, slots := 0, locals := 204 })
theorem lw_Ta_readSeen : ft_lw k_Ta_readSeen 1 := ⟨ft_gt 6 (by decide +kernel) rfl, ft_gt 540 (by decide +kernel) rfl, by decide +kernel, by decide +kernel, by decide +kernel⟩
theorem li_Ta_readSeen : ft_g (.instanceMethod k_Ta_readSeen.1) ∧ ft_g (.selects k_Ta_readSeen.1.cls k_Ta_readSeen.1 k_Ta_readSeen.1) := ⟨ft_gt 539 (by decide +kernel) rfl, ft_gs 9 (by decide +kernel) rfl⟩
def k_Ta_readAddress : ftM := (⟨"ForwardingTable$Tape", "readAddress", "()Z"⟩, prog_10_method_6_code, 2, some .boolean, { frames := 7, cells := 0, slots := 0, locals := 183 })
theorem lw_Ta_readAddress : ft_lw k_Ta_readAddress 0 := ⟨ft_gt 6 (by decide +kernel) rfl, ft_gt 514 (by decide +kernel) rfl, by decide +kernel, by decide +kernel, by decide +kernel⟩
theorem li_Ta_readAddress : ft_g (.instanceMethod k_Ta_readAddress.1) ∧ ft_g (.selects k_Ta_readAddress.1.cls k_Ta_readAddress.1 k_Ta_readAddress.1) := ⟨ft_gt 513 (by decide +kernel) rfl, ft_gs 7 (by decide +kernel) rfl⟩
def k_Ta_isNumber : ftM := (⟨"ForwardingTable$Tape", "isNumber", "(II)Z"⟩, prog_10_method_7_code, 3, some .boolean, { frames := 0, cells := 0, slots := 0, locals := 0 })
theorem lw_Ta_isNumber : ft_lw k_Ta_isNumber 2 := ⟨ft_gt 6 (by decide +kernel) rfl, ft_gt 506 (by decide +kernel) rfl, by decide +kernel, by decide +kernel, by decide +kernel⟩
theorem li_Ta_isNumber : ft_g (.instanceMethod k_Ta_isNumber.1) ∧ ft_g (.selects k_Ta_isNumber.1.cls k_Ta_isNumber.1 k_Ta_isNumber.1) := ⟨ft_gt 505 (by decide +kernel) rfl, ft_gs 5 (by decide +kernel) rfl⟩
def k_Ta_take : ftM := (⟨"ForwardingTable$Tape", "take", "(I)Z"⟩, prog_10_method_8_code, 2, some .boolean, { frames := 7, cells := 0, slots := 0, locals := 183 })
theorem lw_Ta_take : ft_lw k_Ta_take 1 := ⟨ft_gt 6 (by decide +kernel) rfl, ft_gt 502 (by decide +kernel) rfl, by decide +kernel, by decide +kernel, by decide +kernel⟩
theorem li_Ta_take : ft_g (.instanceMethod k_Ta_take.1) ∧ ft_g (.selects k_Ta_take.1.cls k_Ta_take.1 k_Ta_take.1) := ⟨ft_gt 501 (by decide +kernel) rfl, ft_gs 4 (by decide +kernel) rfl⟩
def k_Ta_step : ftM := (⟨"ForwardingTable$Tape", "step", "()V"⟩, prog_10_method_9_code, 2, none, { frames := 6, cells := 0, slots := 0, locals := 162 })
theorem lw_Ta_step : ft_lw k_Ta_step 0 := ⟨ft_gt 6 (by decide +kernel) rfl, ft_gt 427 (by decide +kernel) rfl, by decide +kernel, by decide +kernel, by decide +kernel⟩
theorem li_Ta_step : ft_g (.instanceMethod k_Ta_step.1) ∧ ft_g (.selects k_Ta_step.1.cls k_Ta_step.1 k_Ta_step.1) := ⟨ft_gt 426 (by decide +kernel) rfl, ft_gs 0 (by decide +kernel) rfl⟩
def k_Ta_stepOverWord : ftM := (⟨"ForwardingTable$Tape", "stepOverWord", "()V"⟩, prog_10_method_10_code, 1, none, { frames := 5, cells := 0, slots := 0, locals := 142 })
theorem lw_Ta_stepOverWord : ft_lw k_Ta_stepOverWord 0 := ⟨ft_gt 6 (by decide +kernel) rfl, ft_gt 434 (by decide +kernel) rfl, by decide +kernel, by decide +kernel, by decide +kernel⟩
theorem li_Ta_stepOverWord : ft_g (.instanceMethod k_Ta_stepOverWord.1) ∧ ft_g (.selects k_Ta_stepOverWord.1.cls k_Ta_stepOverWord.1 k_Ta_stepOverWord.1) := ⟨ft_gt 433 (by decide +kernel) rfl, ft_gs 1 (by decide +kernel) rfl⟩
def k_Ta_spells : ftM := (⟨"ForwardingTable$Tape", "spells", "(Ljava/lang/String;)Z"⟩, prog_10_method_11_code, 3, some .boolean, { frames := 4, cells := 0, slots := 0, locals := 120 })
theorem lw_Ta_spells : ft_lw k_Ta_spells 1 := ⟨ft_gt 6 (by decide +kernel) rfl, ft_gt 439 (by decide +kernel) rfl, by decide +kernel, by decide +kernel, by decide +kernel⟩
theorem li_Ta_spells : ft_g (.instanceMethod k_Ta_spells.1) ∧ ft_g (.selects k_Ta_spells.1.cls k_Ta_spells.1 k_Ta_spells.1) := ⟨ft_gt 438 (by decide +kernel) rfl, ft_gs 2 (by decide +kernel) rfl⟩
def k_Ta_stepOverNumber : ftM := (⟨"ForwardingTable$Tape", "stepOverNumber", "()V"⟩, prog_10_method_12_code, 1, none, { frames := 1, cells := 0, slots := 0, locals := 20 })
theorem lw_Ta_stepOverNumber : ft_lw k_Ta_stepOverNumber 0 := ⟨ft_gt 6 (by decide +kernel) rfl, ft_gt 498 (by decide +kernel) rfl, by decide +kernel, by decide +kernel, by decide +kernel⟩
theorem li_Ta_stepOverNumber : ft_g (.instanceMethod k_Ta_stepOverNumber.1) ∧ ft_g (.selects k_Ta_stepOverNumber.1.cls k_Ta_stepOverNumber.1 k_Ta_stepOverNumber.1) := ⟨ft_gt 497 (by decide +kernel) rfl, ft_gs 3 (by decide +kernel) rfl⟩
def k_Ta_isLetter : ftM := (⟨"ForwardingTable$Tape", "isLetter", "(I)Z"⟩, prog_10_method_13_code, 1, some .boolean, { frames := 0, cells := 0, slots := 0, locals := 0 })
theorem lw_Ta_isLetter : ft_lw k_Ta_isLetter 1 := ⟨ft_gt 6 (by decide +kernel) rfl, ft_gt 430 (by decide +kernel) rfl, by decide +kernel, by decide +kernel, by decide +kernel⟩
theorem lz_Ta_isLetter : ft_g (.static k_Ta_isLetter.1) := ft_gt 429 (by decide +kernel) rfl
def k_Ta_isDigit : ftM := (⟨"ForwardingTable$Tape", "isDigit", "(I)Z"⟩, prog_10_method_14_code, 1, some .boolean, { frames := 0, cells := 0, slots := 0, locals := 0 })
theorem lw_Ta_isDigit : ft_lw k_Ta_isDigit 1 := ⟨ft_gt 6 (by decide +kernel) rfl, ft_gt 494 (by decide +kernel) rfl, by decide +kernel, by decide +kernel, by decide +kernel⟩
theorem lz_Ta_isDigit : ft_g (.static k_Ta_isDigit.1) := ft_gt 493 (by decide +kernel) rfl
def k_TL_copyFrom : ftM := (⟨"ForwardingTable$TrafficLog", "copyFrom", "(LForwardingTable$TrafficLog;)V"⟩, prog_11_method_2_code, 2, none, { frames := 1, cells := 0, slots := 0, locals := 26 })
theorem lw_TL_copyFrom : ft_lw k_TL_copyFrom 1 := ⟨ft_gt 4 (by decide +kernel) rfl, ft_gt 575 (by decide +kernel) rfl, by decide +kernel, by decide +kernel, by decide +kernel⟩
theorem li_TL_copyFrom : ft_g (.instanceMethod k_TL_copyFrom.1) ∧ ft_g (.selects k_TL_copyFrom.1.cls k_TL_copyFrom.1 k_TL_copyFrom.1) := ⟨ft_gt 573 (by decide +kernel) rfl, ft_gt 574 (by decide +kernel) rfl⟩
def k_TL_indexOf : ftM := (⟨"ForwardingTable$TrafficLog", "indexOf", "(J)I"⟩, prog_11_method_3_code, 4, some .int, { frames := 0, cells := 0, slots := 0, locals := 0 })
theorem lw_TL_indexOf : ft_lw k_TL_indexOf 1 := ⟨ft_gt 4 (by decide +kernel) rfl, ft_gt 544 (by decide +kernel) rfl, by decide +kernel, by decide +kernel, by decide +kernel⟩
theorem li_TL_indexOf : ft_g (.instanceMethod k_TL_indexOf.1) ∧ ft_g (.selects k_TL_indexOf.1.cls k_TL_indexOf.1 k_TL_indexOf.1) := ⟨ft_gt 542 (by decide +kernel) rfl, ft_gt 543 (by decide +kernel) rfl⟩
def k_TL_see : ftM := (⟨"ForwardingTable$TrafficLog", "see", "(JI)V"⟩, prog_11_method_4_code, 5, none, { frames := 2, cells := 0, slots := 0, locals := 47 })
theorem lw_TL_see : ft_lw k_TL_see 2 := ⟨ft_gt 4 (by decide +kernel) rfl, ft_gt 548 (by decide +kernel) rfl, by decide +kernel, by decide +kernel, by decide +kernel⟩
theorem li_TL_see : ft_g (.instanceMethod k_TL_see.1) ∧ ft_g (.selects k_TL_see.1.cls k_TL_see.1 k_TL_see.1) := ⟨ft_gt 546 (by decide +kernel) rfl, ft_gt 547 (by decide +kernel) rfl⟩
def k_TL_rarest : ftM := (⟨"ForwardingTable$TrafficLog", "rarest", "()I"⟩, prog_11_method_5_code, 3, some .int, { frames := 0, cells := 0, slots := 0, locals := 0 })
theorem lw_TL_rarest : ft_lw k_TL_rarest 0 := ⟨ft_gt 4 (by decide +kernel) rfl, ft_gt 557 (by decide +kernel) rfl, by decide +kernel, by decide +kernel, by decide +kernel⟩
theorem li_TL_rarest : ft_g (.instanceMethod k_TL_rarest.1) ∧ ft_g (.selects k_TL_rarest.1.cls k_TL_rarest.1 k_TL_rarest.1) := ⟨ft_gt 556 (by decide +kernel) rfl, ft_gs 10 (by decide +kernel) rfl⟩
def k_TL_removeAt : ftM := (⟨"ForwardingTable$TrafficLog", "removeAt", "(I)V"⟩, prog_11_method_6_code, 2, none, { frames := 1, cells := 0, slots := 0, locals := 26 })
theorem lw_TL_removeAt : ft_lw k_TL_removeAt 1 := ⟨ft_gt 4 (by decide +kernel) rfl, ft_gt 561 (by decide +kernel) rfl, by decide +kernel, by decide +kernel, by decide +kernel⟩
theorem li_TL_removeAt : ft_g (.instanceMethod k_TL_removeAt.1) ∧ ft_g (.selects k_TL_removeAt.1.cls k_TL_removeAt.1 k_TL_removeAt.1) := ⟨ft_gt 560 (by decide +kernel) rfl, ft_gs 11 (by decide +kernel) rfl⟩
def k_TL_halve : ftM := (⟨"ForwardingTable$TrafficLog", "halve", "()I"⟩, prog_11_method_7_code, 3, some .int, { frames := 0, cells := 0, slots := 0, locals := 0 })
theorem lw_TL_halve : ft_lw k_TL_halve 0 := ⟨ft_gt 4 (by decide +kernel) rfl, ft_gt 836 (by decide +kernel) rfl, by decide +kernel, by decide +kernel, by decide +kernel⟩
theorem li_TL_halve : ft_g (.instanceMethod k_TL_halve.1) ∧ ft_g (.selects k_TL_halve.1.cls k_TL_halve.1 k_TL_halve.1) := ⟨ft_gt 834 (by decide +kernel) rfl, ft_gt 835 (by decide +kernel) rfl⟩
def k_TL_missedBy : ftM := (⟨"ForwardingTable$TrafficLog", "missedBy", "(LForwardingTable$PrefixSet;)I"⟩, prog_11_method_8_code, 4, some .int, { frames := 4, cells := 0, slots := 0, locals := 90 })
theorem lw_TL_missedBy : ft_lw k_TL_missedBy 1 := ⟨ft_gt 4 (by decide +kernel) rfl, ft_gt 923 (by decide +kernel) rfl, by decide +kernel, by decide +kernel, by decide +kernel⟩
theorem li_TL_missedBy : ft_g (.instanceMethod k_TL_missedBy.1) ∧ ft_g (.selects k_TL_missedBy.1.cls k_TL_missedBy.1 k_TL_missedBy.1) := ⟨ft_gt 921 (by decide +kernel) rfl, ft_gt 922 (by decide +kernel) rfl⟩
theorem ml_La_13 : ft_g (.methodLink "ForwardingTableLaw" 13 k_FT_append.1) := ft_gt 400 (by decide +kernel) rfl
theorem ml_FT_99 : ft_g (.methodLink "ForwardingTable" 99 k_Ta_addFour.1) := ft_gt 404 (by decide +kernel) rfl
theorem ml_La_18 : ft_g (.methodLink "ForwardingTableLaw" 18 k_FT_truncate.1) := ft_gt 408 (by decide +kernel) rfl
theorem ml_La_23 : ft_g (.methodLink "ForwardingTableLaw" 23 k_FT_load.1) := ft_gt 412 (by decide +kernel) rfl
theorem ml_FT_102 : ft_g (.methodLink "ForwardingTable" 102 k_St_reset.1) := ft_gt 416 (by decide +kernel) rfl
theorem ml_FT_105 : ft_g (.methodLink "ForwardingTable" 105 k_Ta_readInto.1) := ft_gt 420 (by decide +kernel) rfl
theorem ml_Ta_22 : ft_g (.methodLink "ForwardingTable$Tape" 22 k_Ta_step.1) := ft_gt 424 (by decide +kernel) rfl
theorem ml_Ta_97 : ft_g (.methodLink "ForwardingTable$Tape" 97 k_Ta_isLetter.1) := ft_gt 428 (by decide +kernel) rfl
theorem ml_Ta_100 : ft_g (.methodLink "ForwardingTable$Tape" 100 k_Ta_stepOverWord.1) := ft_gt 431 (by decide +kernel) rfl
theorem ml_Ta_110 : ft_g (.methodLink "ForwardingTable$Tape" 110 k_Ta_spells.1) := ft_gt 436 (by decide +kernel) rfl
theorem ml_Ta_103 : ft_g (.methodLink "ForwardingTable$Tape" 103 k_Ta_isDigit.1) := ft_gt 492 (by decide +kernel) rfl
theorem ml_Ta_106 : ft_g (.methodLink "ForwardingTable$Tape" 106 k_Ta_stepOverNumber.1) := ft_gt 495 (by decide +kernel) rfl
theorem ml_Ta_25 : ft_g (.methodLink "ForwardingTable$Tape" 25 k_Ta_take.1) := ft_gt 499 (by decide +kernel) rfl
theorem ml_Ta_29 : ft_g (.methodLink "ForwardingTable$Tape" 29 k_Ta_isNumber.1) := ft_gt 503 (by decide +kernel) rfl
theorem ml_Ta_48 : ft_g (.methodLink "ForwardingTable$Tape" 48 k_Ta_readRoute.1) := ft_gt 507 (by decide +kernel) rfl
theorem ml_Ta_63 : ft_g (.methodLink "ForwardingTable$Tape" 63 k_Ta_readAddress.1) := ft_gt 511 (by decide +kernel) rfl
theorem ml_Ta_79 : ft_g (.methodLink "ForwardingTable$Tape" 79 k_PS_indexOf.1) := ft_gt 522 (by decide +kernel) rfl
theorem ml_PS_35 : ft_g (.methodLink "ForwardingTable$PrefixSet" 35 k_PS_placeOf.1) := ft_gt 526 (by decide +kernel) rfl
theorem ml_Ta_83 : ft_g (.methodLink "ForwardingTable$Tape" 83 k_PS_put.1) := ft_gt 530 (by decide +kernel) rfl
theorem ml_PS_29 : ft_g (.methodLink "ForwardingTable$PrefixSet" 29 arraycopyName) := ft_gt 534 (by decide +kernel) rfl
theorem ml_Ta_56 : ft_g (.methodLink "ForwardingTable$Tape" 56 k_Ta_readSeen.1) := ft_gt 537 (by decide +kernel) rfl
theorem ml_Ta_90 : ft_g (.methodLink "ForwardingTable$Tape" 90 k_TL_indexOf.1) := ft_gt 541 (by decide +kernel) rfl
theorem ml_Ta_91 : ft_g (.methodLink "ForwardingTable$Tape" 91 k_TL_see.1) := ft_gt 545 (by decide +kernel) rfl
theorem ml_TL_29 : ft_g (.methodLink "ForwardingTable$TrafficLog" 29 k_TL_indexOf.1) := ft_gt 549 (by decide +kernel) rfl
theorem ml_TL_34 : ft_g (.methodLink "ForwardingTable$TrafficLog" 34 Lib.Math.min.name) := ft_gt 551 (by decide +kernel) rfl
theorem ml_TL_40 : ft_g (.methodLink "ForwardingTable$TrafficLog" 40 k_TL_rarest.1) := ft_gt 554 (by decide +kernel) rfl
theorem ml_TL_44 : ft_g (.methodLink "ForwardingTable$TrafficLog" 44 k_TL_removeAt.1) := ft_gt 558 (by decide +kernel) rfl
theorem ml_TL_23 : ft_g (.methodLink "ForwardingTable$TrafficLog" 23 arraycopyName) := ft_gt 562 (by decide +kernel) rfl
theorem ml_FT_112 : ft_g (.methodLink "ForwardingTable" 112 k_St_copyFrom.1) := ft_gt 563 (by decide +kernel) rfl
theorem ml_St_42 : ft_g (.methodLink "ForwardingTable$State" 42 k_PS_copyFrom.1) := ft_gt 567 (by decide +kernel) rfl
theorem ml_PS_23 : ft_g (.methodLink "ForwardingTable$PrefixSet" 23 Lib.Math.min.name) := ft_gt 571 (by decide +kernel) rfl
theorem ml_St_46 : ft_g (.methodLink "ForwardingTable$State" 46 k_TL_copyFrom.1) := ft_gt 572 (by decide +kernel) rfl
theorem ml_St_49 : ft_g (.methodLink "ForwardingTable$State" 49 arraycopyName) := ft_gt 576 (by decide +kernel) rfl
theorem ml_FT_116 : ft_g (.methodLink "ForwardingTable" 116 k_Hi_forget.1) := ft_gt 577 (by decide +kernel) rfl
theorem ml_FT_119 : ft_g (.methodLink "ForwardingTable" 119 k_FT_unsettle.1) := ft_gt 581 (by decide +kernel) rfl
theorem ml_FT_331 : ft_g (.methodLink "ForwardingTable" 331 Lib.Math.min.name) := ft_gt 585 (by decide +kernel) rfl
theorem ml_La_28 : ft_g (.methodLink "ForwardingTableLaw" 28 k_FT_errorPosition.1) := ft_gt 586 (by decide +kernel) rfl
theorem ml_La_218 : ft_g (.methodLink "ForwardingTableLaw" 218 k_FT_tapeLength.1) := ft_gt 590 (by decide +kernel) rfl
theorem ml_La_32 : ft_g (.methodLink "ForwardingTableLaw" 32 k_FT_capacity.1) := ft_gt 594 (by decide +kernel) rfl
theorem ml_La_36 : ft_g (.methodLink "ForwardingTableLaw" 36 k_FT_setCapacity.1) := ft_gt 598 (by decide +kernel) rfl
theorem ml_FT_129 : ft_g (.methodLink "ForwardingTable" 129 k_Hi_save.1) := ft_gt 602 (by decide +kernel) rfl
theorem ml_Hi_25 : ft_g (.methodLink "ForwardingTable$History" 25 k_St_copyFrom.1) := ft_gt 606 (by decide +kernel) rfl
theorem ml_Hi_29 : ft_g (.methodLink "ForwardingTable$History" 29 Lib.Math.min.name) := ft_gt 607 (by decide +kernel) rfl
theorem ml_FT_135 : ft_g (.methodLink "ForwardingTable" 135 k_St_room.1) := ft_gt 608 (by decide +kernel) rfl
theorem ml_FT_139 : ft_g (.methodLink "ForwardingTable" 139 k_St_emptyHardware.1) := ft_gt 612 (by decide +kernel) rfl
theorem ml_La_41 : ft_g (.methodLink "ForwardingTableLaw" 41 k_FT_routes.1) := ft_gt 616 (by decide +kernel) rfl
theorem ml_La_45 : ft_g (.methodLink "ForwardingTableLaw" 45 k_FT_route.1) := ft_gt 620 (by decide +kernel) rfl
theorem ml_FT_146 : ft_g (.methodLink "ForwardingTable" 146 k_PS_tell.1) := ft_gt 626 (by decide +kernel) rfl
theorem ml_FT_150 : ft_g (.methodLink "ForwardingTable" 150 k_FT_settle.1) := ft_gt 637 (by decide +kernel) rfl
theorem ml_FT_285 : ft_g (.methodLink "ForwardingTable" 285 k_Cv_sweep.1) := ft_gt 641 (by decide +kernel) rfl
theorem ml_Cv_57 : ft_g (.methodLink "ForwardingTable$Cover" 57 k_Cv_leaveUpTo.1) := ft_gt 646 (by decide +kernel) rfl
theorem ml_Cv_61 : ft_g (.methodLink "ForwardingTable$Cover" 61 k_Cv_walkTo.1) := ft_gt 653 (by decide +kernel) rfl
theorem ml_Cv_64 : ft_g (.methodLink "ForwardingTable$Cover" 64 k_Cv_innermost.1) := ft_gt 657 (by decide +kernel) rfl
theorem ml_Cv_68 : ft_g (.methodLink "ForwardingTable$Cover" 68 Lib.Math.max.name) := ft_gt 661 (by decide +kernel) rfl
theorem ml_FT_309 : ft_g (.methodLink "ForwardingTable" 309 k_Co_compress.1) := ft_gt 665 (by decide +kernel) rfl
theorem ml_Co_57 : ft_g (.methodLink "ForwardingTable$Compressor" 57 k_Co_addNode.1) := ft_gt 670 (by decide +kernel) rfl
theorem ml_Co_61 : ft_g (.methodLink "ForwardingTable$Compressor" 61 k_Co_open.1) := ft_gt 675 (by decide +kernel) rfl
theorem ml_Co_89 : ft_g (.methodLink "ForwardingTable$Compressor" 89 k_Co_commonLength.1) := ft_gt 681 (by decide +kernel) rfl
theorem ml_Co_65 : ft_g (.methodLink "ForwardingTable$Compressor" 65 k_Co_gatherSets.1) := ft_gt 685 (by decide +kernel) rfl
theorem ml_Co_95 : ft_g (.methodLink "ForwardingTable$Compressor" 95 k_Co_setOf.1) := ft_gt 689 (by decide +kernel) rfl
theorem ml_Co_68 : ft_g (.methodLink "ForwardingTable$Compressor" 68 k_Co_handDown.1) := ft_gt 693 (by decide +kernel) rfl
theorem ml_Co_99 : ft_g (.methodLink "ForwardingTable$Compressor" 99 k_Co_smallestHop.1) := ft_gt 697 (by decide +kernel) rfl
theorem ml_FT_312 : ft_g (.methodLink "ForwardingTable" 312 k_Co_collect.1) := ft_gt 700 (by decide +kernel) rfl
theorem ml_Co_72 : ft_g (.methodLink "ForwardingTable$Compressor" 72 k_PS_put.1) := ft_gt 704 (by decide +kernel) rfl
theorem ml_FT_315 : ft_g (.methodLink "ForwardingTable" 315 k_Ch_countHits.1) := ft_gt 705 (by decide +kernel) rfl
theorem ml_Ch_57 : ft_g (.methodLink "ForwardingTable$Choice" 57 k_PS_longest.1) := ft_gt 709 (by decide +kernel) rfl
theorem ml_FT_244 : ft_g (.methodLink "ForwardingTable" 244 k_FT_startOf.1) := ft_gt 716 (by decide +kernel) rfl
theorem ml_FT_355 : ft_g (.methodLink "ForwardingTable" 355 k_FT_endOf.1) := ft_gt 717 (by decide +kernel) rfl
theorem ml_FT_319 : ft_g (.methodLink "ForwardingTable" 319 k_Ch_weigh.1) := ft_gt 718 (by decide +kernel) rfl
theorem ml_Ch_64 : ft_g (.methodLink "ForwardingTable$Choice" 64 k_Ch_emptyRows.1) := ft_gt 722 (by decide +kernel) rfl
theorem ml_Ch_72 : ft_g (.methodLink "ForwardingTable$Choice" 72 Lib.Math.min.name) := ft_gt 726 (by decide +kernel) rfl
theorem ml_Ch_78 : ft_g (.methodLink "ForwardingTable$Choice" 78 k_Ch_weighOne.1) := ft_gt 727 (by decide +kernel) rfl
theorem ml_Ch_85 : ft_g (.methodLink "ForwardingTable$Choice" 85 k_Ch_bitOf.1) := ft_gt 731 (by decide +kernel) rfl
theorem ml_Ch_89 : ft_g (.methodLink "ForwardingTable$Choice" 89 k_Ch_isBetter.1) := ft_gt 734 (by decide +kernel) rfl
theorem ml_Ch_82 : ft_g (.methodLink "ForwardingTable$Choice" 82 k_Ch_join.1) := ft_gt 737 (by decide +kernel) rfl
theorem ml_Ch_93 : ft_g (.methodLink "ForwardingTable$Choice" 93 Lib.Math.max.name) := ft_gt 741 (by decide +kernel) rfl
theorem ml_FT_323 : ft_g (.methodLink "ForwardingTable" 323 k_Ch_choose.1) := ft_gt 742 (by decide +kernel) rfl
theorem ml_Ch_96 : ft_g (.methodLink "ForwardingTable$Choice" 96 k_Ch_placesWith.1) := ft_gt 746 (by decide +kernel) rfl
theorem ml_Ch_107 : ft_g (.methodLink "ForwardingTable$Choice" 107 k_Ch_isKept.1) := ft_gt 750 (by decide +kernel) rfl
theorem ml_Ch_117 : ft_g (.methodLink "ForwardingTable$Choice" 117 k_PS_put.1) := ft_gt 754 (by decide +kernel) rfl
theorem ml_FT_327 : ft_g (.methodLink "ForwardingTable" 327 k_SP_make.1) := ft_gt 755 (by decide +kernel) rfl
theorem ml_SP_29 : ft_g (.methodLink "ForwardingTable$SyncPlan" 29 k_SP_countTogether.1) := ft_gt 759 (by decide +kernel) rfl
theorem ml_SP_44 : ft_g (.methodLink "ForwardingTable$SyncPlan" 44 k_PS_indexOf.1) := ft_gt 762 (by decide +kernel) rfl
theorem ml_SP_51 : ft_g (.methodLink "ForwardingTable$SyncPlan" 51 k_SP_add.1) := ft_gt 764 (by decide +kernel) rfl
theorem ml_FT_157 : ft_g (.methodLink "ForwardingTable" 157 k_FT_numberOrNotFound.1) := ft_gt 768 (by decide +kernel) rfl
theorem ml_La_50 : ft_g (.methodLink "ForwardingTableLaw" 50 k_FT_addRoute.1) := ft_gt 771 (by decide +kernel) rfl
theorem ml_FT_165 : ft_g (.methodLink "ForwardingTable" 165 k_FT_isPrefix.1) := ft_gt 775 (by decide +kernel) rfl
theorem ml_FT_347 : ft_g (.methodLink "ForwardingTable" 347 k_FT_isAligned.1) := ft_gt 779 (by decide +kernel) rfl
theorem ml_FT_171 : ft_g (.methodLink "ForwardingTable" 171 k_FT_keyOf.1) := ft_gt 780 (by decide +kernel) rfl
theorem ml_FT_175 : ft_g (.methodLink "ForwardingTable" 175 k_PS_indexOf.1) := ft_gt 781 (by decide +kernel) rfl
theorem ml_FT_182 : ft_g (.methodLink "ForwardingTable" 182 k_PS_put.1) := ft_gt 782 (by decide +kernel) rfl
theorem ml_FT_186 : ft_g (.methodLink "ForwardingTable" 186 k_St_routeChanged.1) := ft_gt 783 (by decide +kernel) rfl
theorem ml_St_55 : ft_g (.methodLink "ForwardingTable$State" 55 k_PS_removeInside.1) := ft_gt 787 (by decide +kernel) rfl
theorem ml_St_59 : ft_g (.methodLink "ForwardingTable$State" 59 k_PS_hasProperlyAround.1) := ft_gt 791 (by decide +kernel) rfl
theorem ml_St_63 : ft_g (.methodLink "ForwardingTable$State" 63 k_St_room.1) := ft_gt 795 (by decide +kernel) rfl
theorem ml_St_67 : ft_g (.methodLink "ForwardingTable$State" 67 k_PS_put.1) := ft_gt 796 (by decide +kernel) rfl
theorem ml_St_71 : ft_g (.methodLink "ForwardingTable$State" 71 k_St_emptyHardware.1) := ft_gt 797 (by decide +kernel) rfl
theorem ml_La_55 : ft_g (.methodLink "ForwardingTableLaw" 55 k_FT_removeRoute.1) := ft_gt 798 (by decide +kernel) rfl
theorem ml_FT_189 : ft_g (.methodLink "ForwardingTable" 189 k_PS_removeAt.1) := ft_gt 802 (by decide +kernel) rfl
theorem ml_La_60 : ft_g (.methodLink "ForwardingTableLaw" 60 k_FT_answer.1) := ft_gt 806 (by decide +kernel) rfl
theorem ml_FT_192 : ft_g (.methodLink "ForwardingTable" 192 k_FT_answerFor.1) := ft_gt 810 (by decide +kernel) rfl
theorem ml_FT_195 : ft_g (.methodLink "ForwardingTable" 195 k_PS_longest.1) := ft_gt 814 (by decide +kernel) rfl
theorem ml_La_64 : ft_g (.methodLink "ForwardingTableLaw" 64 k_FT_matching.1) := ft_gt 815 (by decide +kernel) rfl
theorem ml_La_68 : ft_g (.methodLink "ForwardingTableLaw" 68 k_FT_packet.1) := ft_gt 819 (by decide +kernel) rfl
theorem ml_FT_198 : ft_g (.methodLink "ForwardingTable" 198 k_PS_answersByHop.1) := ft_gt 823 (by decide +kernel) rfl
theorem ml_PS_43 : ft_g (.methodLink "ForwardingTable$PrefixSet" 43 k_PS_longest.1) := ft_gt 827 (by decide +kernel) rfl
theorem ml_FT_206 : ft_g (.methodLink "ForwardingTable" 206 k_TL_see.1) := ft_gt 828 (by decide +kernel) rfl
theorem ml_La_72 : ft_g (.methodLink "ForwardingTableLaw" 72 k_FT_age.1) := ft_gt 829 (by decide +kernel) rfl
theorem ml_FT_215 : ft_g (.methodLink "ForwardingTable" 215 k_TL_halve.1) := ft_gt 833 (by decide +kernel) rfl
theorem ml_La_76 : ft_g (.methodLink "ForwardingTableLaw" 76 k_FT_logged.1) := ft_gt 837 (by decide +kernel) rfl
theorem ml_La_80 : ft_g (.methodLink "ForwardingTableLaw" 80 k_FT_log.1) := ft_gt 841 (by decide +kernel) rfl
theorem ml_La_84 : ft_g (.methodLink "ForwardingTableLaw" 84 k_FT_compressed.1) := ft_gt 845 (by decide +kernel) rfl
theorem ml_La_88 : ft_g (.methodLink "ForwardingTableLaw" 88 k_FT_entry.1) := ft_gt 849 (by decide +kernel) rfl
theorem ml_FT_227 : ft_g (.methodLink "ForwardingTable" 227 k_Ch_isKept.1) := ft_gt 853 (by decide +kernel) rfl
theorem ml_La_92 : ft_g (.methodLink "ForwardingTableLaw" 92 k_FT_hopHits.1) := ft_gt 854 (by decide +kernel) rfl
theorem ml_La_96 : ft_g (.methodLink "ForwardingTableLaw" 96 k_FT_busiest.1) := ft_gt 858 (by decide +kernel) rfl
theorem ml_La_100 : ft_g (.methodLink "ForwardingTableLaw" 100 k_FT_coldest.1) := ft_gt 862 (by decide +kernel) rfl
theorem ml_La_104 : ft_g (.methodLink "ForwardingTableLaw" 104 k_FT_exceptions.1) := ft_gt 866 (by decide +kernel) rfl
theorem ml_La_108 : ft_g (.methodLink "ForwardingTableLaw" 108 k_FT_targetSize.1) := ft_gt 870 (by decide +kernel) rfl
theorem ml_La_112 : ft_g (.methodLink "ForwardingTableLaw" 112 k_FT_target.1) := ft_gt 874 (by decide +kernel) rfl
theorem ml_La_116 : ft_g (.methodLink "ForwardingTableLaw" 116 k_FT_lostHits.1) := ft_gt 878 (by decide +kernel) rfl
theorem ml_FT_234 : ft_g (.methodLink "ForwardingTable" 234 k_Ch_lostWith.1) := ft_gt 882 (by decide +kernel) rfl
theorem ml_La_120 : ft_g (.methodLink "ForwardingTableLaw" 120 k_FT_lostHitsWith.1) := ft_gt 886 (by decide +kernel) rfl
theorem ml_La_124 : ft_g (.methodLink "ForwardingTableLaw" 124 k_FT_enough.1) := ft_gt 890 (by decide +kernel) rfl
theorem ml_FT_237 : ft_g (.methodLink "ForwardingTable" 237 k_Ch_placesWith.1) := ft_gt 894 (by decide +kernel) rfl
theorem ml_La_128 : ft_g (.methodLink "ForwardingTableLaw" 128 k_FT_hardwareSize.1) := ft_gt 895 (by decide +kernel) rfl
theorem ml_La_132 : ft_g (.methodLink "ForwardingTableLaw" 132 k_FT_hardware.1) := ft_gt 899 (by decide +kernel) rfl
theorem ml_La_136 : ft_g (.methodLink "ForwardingTableLaw" 136 k_FT_action.1) := ft_gt 903 (by decide +kernel) rfl
theorem ml_La_140 : ft_g (.methodLink "ForwardingTableLaw" 140 k_FT_changes.1) := ft_gt 907 (by decide +kernel) rfl
theorem ml_La_144 : ft_g (.methodLink "ForwardingTableLaw" 144 k_FT_change.1) := ft_gt 911 (by decide +kernel) rfl
theorem ml_FT_248 : ft_g (.methodLink "ForwardingTable" 248 k_FT_lengthOf.1) := ft_gt 915 (by decide +kernel) rfl
theorem ml_La_148 : ft_g (.methodLink "ForwardingTableLaw" 148 k_FT_missed.1) := ft_gt 916 (by decide +kernel) rfl
theorem ml_FT_257 : ft_g (.methodLink "ForwardingTable" 257 k_TL_missedBy.1) := ft_gt 920 (by decide +kernel) rfl
theorem ml_TL_48 : ft_g (.methodLink "ForwardingTable$TrafficLog" 48 k_PS_answersByHop.1) := ft_gt 924 (by decide +kernel) rfl
theorem ml_La_152 : ft_g (.methodLink "ForwardingTableLaw" 152 k_FT_missedAfter.1) := ft_gt 925 (by decide +kernel) rfl
theorem ml_FT_261 : ft_g (.methodLink "ForwardingTable" 261 k_PS_copyFrom.1) := ft_gt 929 (by decide +kernel) rfl
theorem ml_FT_268 : ft_g (.methodLink "ForwardingTable" 268 k_SP_makeChanges.1) := ft_gt 930 (by decide +kernel) rfl
theorem ml_SP_55 : ft_g (.methodLink "ForwardingTable$SyncPlan" 55 Lib.Math.min.name) := ft_gt 934 (by decide +kernel) rfl
theorem ml_SP_61 : ft_g (.methodLink "ForwardingTable$SyncPlan" 61 k_PS_removeAt.1) := ft_gt 935 (by decide +kernel) rfl
theorem ml_SP_65 : ft_g (.methodLink "ForwardingTable$SyncPlan" 65 k_PS_put.1) := ft_gt 936 (by decide +kernel) rfl
theorem ml_La_156 : ft_g (.methodLink "ForwardingTableLaw" 156 k_FT_sync.1) := ft_gt 937 (by decide +kernel) rfl
theorem ml_La_160 : ft_g (.methodLink "ForwardingTableLaw" 160 k_FT_clear.1) := ft_gt 941 (by decide +kernel) rfl
theorem ml_La_164 : ft_g (.methodLink "ForwardingTableLaw" 164 k_FT_addresses.1) := ft_gt 945 (by decide +kernel) rfl
theorem ml_FT_278 : ft_g (.methodLink "ForwardingTable" 278 k_Cv_runEnd.1) := ft_gt 949 (by decide +kernel) rfl
theorem ml_La_169 : ft_g (.methodLink "ForwardingTableLaw" 169 k_FT_hardwareAddresses.1) := ft_gt 953 (by decide +kernel) rfl
theorem ml_La_174 : ft_g (.methodLink "ForwardingTableLaw" 174 k_FT_nextOther.1) := ft_gt 957 (by decide +kernel) rfl
theorem ml_La_178 : ft_g (.methodLink "ForwardingTableLaw" 178 k_FT_runs.1) := ft_gt 961 (by decide +kernel) rfl
theorem ml_La_182 : ft_g (.methodLink "ForwardingTableLaw" 182 k_FT_isRedundant.1) := ft_gt 965 (by decide +kernel) rfl
theorem ml_FT_288 : ft_g (.methodLink "ForwardingTable" 288 k_FT_changesNoAnswer.1) := ft_gt 969 (by decide +kernel) rfl
theorem ml_La_186 : ft_g (.methodLink "ForwardingTableLaw" 186 k_FT_redundant.1) := ft_gt 973 (by decide +kernel) rfl
theorem ml_La_190 : ft_g (.methodLink "ForwardingTableLaw" 190 k_FT_nesting.1) := ft_gt 977 (by decide +kernel) rfl
theorem ml_La_194 : ft_g (.methodLink "ForwardingTableLaw" 194 k_FT_compressedWithout.1) := ft_gt 981 (by decide +kernel) rfl
theorem ml_FT_294 : ft_g (.methodLink "ForwardingTable" 294 k_FT_entriesWithout.1) := ft_gt 985 (by decide +kernel) rfl
theorem ml_La_198 : ft_g (.methodLink "ForwardingTableLaw" 198 k_FT_costliest.1) := ft_gt 989 (by decide +kernel) rfl
theorem ml_La_202 : ft_g (.methodLink "ForwardingTableLaw" 202 k_FT_count.1) := ft_gt 993 (by decide +kernel) rfl
theorem ml_La_206 : ft_g (.methodLink "ForwardingTableLaw" 206 k_FT_undo.1) := ft_gt 997 (by decide +kernel) rfl
theorem ml_FT_297 : ft_g (.methodLink "ForwardingTable" 297 k_Hi_restore.1) := ft_gt 1001 (by decide +kernel) rfl
theorem ml_La_210 : ft_g (.methodLink "ForwardingTableLaw" 210 k_FT_reportLength.1) := ft_gt 1005 (by decide +kernel) rfl
theorem ml_FT_301 : ft_g (.methodLink "ForwardingTable" 301 k_FT_writeReport.1) := ft_gt 1009 (by decide +kernel) rfl
theorem ml_FT_340 : ft_g (.methodLink "ForwardingTable" 340 k_Re_addPrefixes.1) := ft_gt 1013 (by decide +kernel) rfl
theorem ml_Re_32 : ft_g (.methodLink "ForwardingTable$Report" 32 k_Re_addAddress.1) := ft_gt 1018 (by decide +kernel) rfl
theorem ml_Re_44 : ft_g (.methodLink "ForwardingTable$Report" 44 k_Re_addNumber.1) := ft_gt 1023 (by decide +kernel) rfl
theorem ml_Re_36 : ft_g (.methodLink "ForwardingTable$Report" 36 k_Re_addSign.1) := ft_gt 1028 (by decide +kernel) rfl
theorem ml_FT_343 : ft_g (.methodLink "ForwardingTable" 343 k_Re_addTraffic.1) := ft_gt 1033 (by decide +kernel) rfl
theorem ml_La_214 : ft_g (.methodLink "ForwardingTableLaw" 214 k_FT_reportByte.1) := ft_gt 1037 (by decide +kernel) rfl
theorem ml_La_209 : ft_g (.methodLink "ForwardingTableLaw" 209 k_Mo_undo.1) := ft_gt 1182 (by decide +kernel) rfl
theorem ml_La_35 : ft_g (.methodLink "ForwardingTableLaw" 35 k_Mo_capacity.1) := ft_gt 1186 (by decide +kernel) rfl
theorem ml_La_44 : ft_g (.methodLink "ForwardingTableLaw" 44 k_Mo_routes.1) := ft_gt 1190 (by decide +kernel) rfl
theorem ml_La_49 : ft_g (.methodLink "ForwardingTableLaw" 49 k_Mo_route.1) := ft_gt 1194 (by decide +kernel) rfl
theorem ml_Mo_106 : ft_g (.methodLink "ForwardingTableModel" 106 k_Mo_in.1) := ft_gt 1199 (by decide +kernel) rfl
theorem ml_Mo_141 : ft_g (.methodLink "ForwardingTableModel" 141 k_Mo_isRoute.1) := ft_gt 1203 (by decide +kernel) rfl
theorem ml_Mo_131 : ft_g (.methodLink "ForwardingTableModel" 131 k_Mo_valueOf.1) := ft_gt 1208 (by decide +kernel) rfl
theorem ml_Mo_100 : ft_g (.methodLink "ForwardingTableModel" 100 k_Mo_unsigned.1) := ft_gt 1212 (by decide +kernel) rfl
theorem ml_Mo_134 : ft_g (.methodLink "ForwardingTableModel" 134 k_Mo_lengthOf.1) := ft_gt 1216 (by decide +kernel) rfl
theorem ml_Mo_128 : ft_g (.methodLink "ForwardingTableModel" 128 k_Mo_hopOf.1) := ft_gt 1220 (by decide +kernel) rfl
theorem ml_Mo_147 : ft_g (.methodLink "ForwardingTableModel" 147 k_Mo_parentOf.1) := ft_gt 1224 (by decide +kernel) rfl
theorem ml_Mo_121 : ft_g (.methodLink "ForwardingTableModel" 121 k_Mo_longest.1) := ft_gt 1228 (by decide +kernel) rfl
theorem ml_Mo_110 : ft_g (.methodLink "ForwardingTableModel" 110 k_Mo_contains.1) := ft_gt 1232 (by decide +kernel) rfl
theorem ml_Mo_94 : ft_g (.methodLink "ForwardingTableModel" 94 k_Mo_maskOf.1) := ft_gt 1235 (by decide +kernel) rfl
theorem ml_Mo_150 : ft_g (.methodLink "ForwardingTableModel" 150 k_Mo_areaOf.1) := ft_gt 1238 (by decide +kernel) rfl
theorem ml_Mo_118 : ft_g (.methodLink "ForwardingTableModel" 118 k_Mo_sizeOf.1) := ft_gt 1242 (by decide +kernel) rfl
theorem ml_La_63 : ft_g (.methodLink "ForwardingTableLaw" 63 k_Mo_answer.1) := ft_gt 1245 (by decide +kernel) rfl
theorem ml_Mo_154 : ft_g (.methodLink "ForwardingTableModel" 154 k_Mo_answers.1) := ft_gt 1249 (by decide +kernel) rfl
theorem ml_Mo_125 : ft_g (.methodLink "ForwardingTableModel" 125 k_Mo_matches.1) := ft_gt 1253 (by decide +kernel) rfl
theorem ml_La_67 : ft_g (.methodLink "ForwardingTableLaw" 67 k_Mo_matching.1) := ft_gt 1257 (by decide +kernel) rfl
theorem ml_La_54 : ft_g (.methodLink "ForwardingTableLaw" 54 k_Mo_addRoute.1) := ft_gt 1261 (by decide +kernel) rfl
theorem ml_Mo_189 : ft_g (.methodLink "ForwardingTableModel" 189 k_Mo_isPrefix.1) := ft_gt 1265 (by decide +kernel) rfl
theorem ml_Mo_193 : ft_g (.methodLink "ForwardingTableModel" 193 k_Mo_placeOf.1) := ft_gt 1270 (by decide +kernel) rfl
theorem ml_Mo_196 : ft_g (.methodLink "ForwardingTableModel" 196 k_Mo_keepsPast.1) := ft_gt 1274 (by decide +kernel) rfl
theorem ml_Mo_165 : ft_g (.methodLink "ForwardingTableModel" 165 k_Mo_putsIn.1) := ft_gt 1278 (by decide +kernel) rfl
theorem ml_Mo_114 : ft_g (.methodLink "ForwardingTableModel" 114 k_Mo_isAhead.1) := ft_gt 1282 (by decide +kernel) rfl
theorem ml_Mo_199 : ft_g (.methodLink "ForwardingTableModel" 199 k_Mo_routeChanged.1) := ft_gt 1285 (by decide +kernel) rfl
theorem ml_Mo_173 : ft_g (.methodLink "ForwardingTableModel" 173 k_Mo_lengthIn.1) := ft_gt 1289 (by decide +kernel) rfl
theorem ml_Mo_176 : ft_g (.methodLink "ForwardingTableModel" 176 k_Mo_valueIn.1) := ft_gt 1293 (by decide +kernel) rfl
theorem ml_Mo_179 : ft_g (.methodLink "ForwardingTableModel" 179 k_Mo_takesHardware.1) := ft_gt 1297 (by decide +kernel) rfl
theorem ml_Mo_169 : ft_g (.methodLink "ForwardingTableModel" 169 k_Mo_takesOut.1) := ft_gt 1301 (by decide +kernel) rfl
theorem ml_Mo_183 : ft_g (.methodLink "ForwardingTableModel" 183 k_Mo_putsHardware.1) := ft_gt 1305 (by decide +kernel) rfl
theorem ml_Mo_186 : ft_g (.methodLink "ForwardingTableModel" 186 k_Mo_clears.1) := ft_gt 1309 (by decide +kernel) rfl
theorem ml_La_59 : ft_g (.methodLink "ForwardingTableLaw" 59 k_Mo_removeRoute.1) := ft_gt 1313 (by decide +kernel) rfl
theorem ml_La_40 : ft_g (.methodLink "ForwardingTableLaw" 40 k_Mo_setCapacity.1) := ft_gt 1317 (by decide +kernel) rfl
theorem ml_La_71 : ft_g (.methodLink "ForwardingTableLaw" 71 k_Mo_packet.1) := ft_gt 1322 (by decide +kernel) rfl
theorem ml_Mo_221 : ft_g (.methodLink "ForwardingTableModel" 221 k_Mo_logs.1) := ft_gt 1327 (by decide +kernel) rfl
theorem ml_Mo_208 : ft_g (.methodLink "ForwardingTableModel" 208 k_Mo_seenAt.1) := ft_gt 1331 (by decide +kernel) rfl
theorem ml_Mo_205 : ft_g (.methodLink "ForwardingTableModel" 205 k_Mo_timesAt.1) := ft_gt 1335 (by decide +kernel) rfl
theorem ml_Mo_212 : ft_g (.methodLink "ForwardingTableModel" 212 k_Mo_rarest.1) := ft_gt 1340 (by decide +kernel) rfl
theorem ml_Mo_216 : ft_g (.methodLink "ForwardingTableModel" 216 k_Mo_dropsSeen.1) := ft_gt 1344 (by decide +kernel) rfl
theorem ml_Mo_224 : ft_g (.methodLink "ForwardingTableModel" 224 k_Mo_isHard.1) := ft_gt 1348 (by decide +kernel) rfl
theorem ml_Mo_160 : ft_g (.methodLink "ForwardingTableModel" 160 k_Mo_actionFor.1) := ft_gt 1352 (by decide +kernel) rfl
theorem ml_Mo_157 : ft_g (.methodLink "ForwardingTableModel" 157 k_Mo_actionIn.1) := ft_gt 1356 (by decide +kernel) rfl
theorem ml_La_75 : ft_g (.methodLink "ForwardingTableLaw" 75 k_Mo_age.1) := ft_gt 1360 (by decide +kernel) rfl
theorem ml_La_79 : ft_g (.methodLink "ForwardingTableLaw" 79 k_Mo_logged.1) := ft_gt 1364 (by decide +kernel) rfl
theorem ml_La_83 : ft_g (.methodLink "ForwardingTableLaw" 83 k_Mo_log.1) := ft_gt 1368 (by decide +kernel) rfl
theorem ml_La_95 : ft_g (.methodLink "ForwardingTableLaw" 95 k_Mo_hopHits.1) := ft_gt 1372 (by decide +kernel) rfl
theorem ml_La_87 : ft_g (.methodLink "ForwardingTableLaw" 87 k_Mo_compressed.1) := ft_gt 1376 (by decide +kernel) rfl
theorem ml_Mo_287 : ft_g (.methodLink "ForwardingTableModel" 287 k_Mo_laysAll.1) := ft_gt 1380 (by decide +kernel) rfl
theorem ml_Mo_269 : ft_g (.methodLink "ForwardingTableModel" 269 k_Mo_laysEntries.1) := ft_gt 1384 (by decide +kernel) rfl
theorem ml_Mo_239 : ft_g (.methodLink "ForwardingTableModel" 239 k_Mo_laysParts.1) := ft_gt 1388 (by decide +kernel) rfl
theorem ml_Mo_230 : ft_g (.methodLink "ForwardingTableModel" 230 k_Mo_addsPart.1) := ft_gt 1392 (by decide +kernel) rfl
theorem ml_Mo_233 : ft_g (.methodLink "ForwardingTableModel" 233 k_Mo_hasRoutes.1) := ft_gt 1396 (by decide +kernel) rfl
theorem ml_Mo_242 : ft_g (.methodLink "ForwardingTableModel" 242 k_Mo_least.1) := ft_gt 1400 (by decide +kernel) rfl
theorem ml_Mo_245 : ft_g (.methodLink "ForwardingTableModel" 245 k_Mo_addsEntry.1) := ft_gt 1403 (by decide +kernel) rfl
theorem ml_Mo_272 : ft_g (.methodLink "ForwardingTableModel" 272 k_Mo_laysHits.1) := ft_gt 1407 (by decide +kernel) rfl
theorem ml_Mo_265 : ft_g (.methodLink "ForwardingTableModel" 265 k_Mo_entryFor.1) := ft_gt 1411 (by decide +kernel) rfl
theorem ml_Mo_275 : ft_g (.methodLink "ForwardingTableModel" 275 k_Mo_laysLost.1) := ft_gt 1415 (by decide +kernel) rfl
theorem ml_Mo_256 : ft_g (.methodLink "ForwardingTableModel" 256 k_Mo_startsLost.1) := ft_gt 1419 (by decide +kernel) rfl
theorem ml_Mo_248 : ft_g (.methodLink "ForwardingTableModel" 248 k_Mo_at.1) := ft_gt 1423 (by decide +kernel) rfl
theorem ml_Mo_259 : ft_g (.methodLink "ForwardingTableModel" 259 k_Mo_joins.1) := ft_gt 1427 (by decide +kernel) rfl
theorem ml_Mo_253 : ft_g (.methodLink "ForwardingTableModel" 253 k_Mo_under.1) := ft_gt 1431 (by decide +kernel) rfl
theorem ml_Mo_278 : ft_g (.methodLink "ForwardingTableModel" 278 k_Mo_lostBy.1) := ft_gt 1435 (by decide +kernel) rfl
theorem ml_Mo_281 : ft_g (.methodLink "ForwardingTableModel" 281 k_Mo_fewestPlaces.1) := ft_gt 1439 (by decide +kernel) rfl
theorem ml_La_91 : ft_g (.methodLink "ForwardingTableLaw" 91 k_Mo_entry.1) := ft_gt 1443 (by decide +kernel) rfl
theorem ml_La_99 : ft_g (.methodLink "ForwardingTableLaw" 99 k_Mo_busiest.1) := ft_gt 1448 (by decide +kernel) rfl
theorem ml_La_103 : ft_g (.methodLink "ForwardingTableLaw" 103 k_Mo_coldest.1) := ft_gt 1452 (by decide +kernel) rfl
theorem ml_La_107 : ft_g (.methodLink "ForwardingTableLaw" 107 k_Mo_exceptions.1) := ft_gt 1456 (by decide +kernel) rfl
theorem ml_Mo_295 : ft_g (.methodLink "ForwardingTableModel" 295 k_Mo_laysTarget.1) := ft_gt 1460 (by decide +kernel) rfl
theorem ml_La_111 : ft_g (.methodLink "ForwardingTableLaw" 111 k_Mo_targetSize.1) := ft_gt 1464 (by decide +kernel) rfl
theorem ml_La_115 : ft_g (.methodLink "ForwardingTableLaw" 115 k_Mo_target.1) := ft_gt 1468 (by decide +kernel) rfl
theorem ml_La_119 : ft_g (.methodLink "ForwardingTableLaw" 119 k_Mo_lostHits.1) := ft_gt 1473 (by decide +kernel) rfl
theorem ml_La_123 : ft_g (.methodLink "ForwardingTableLaw" 123 k_Mo_lostHitsWith.1) := ft_gt 1477 (by decide +kernel) rfl
theorem ml_Mo_302 : ft_g (.methodLink "ForwardingTableModel" 302 k_Mo_laysOpen.1) := ft_gt 1482 (by decide +kernel) rfl
theorem ml_La_127 : ft_g (.methodLink "ForwardingTableLaw" 127 k_Mo_enough.1) := ft_gt 1486 (by decide +kernel) rfl
theorem ml_La_131 : ft_g (.methodLink "ForwardingTableLaw" 131 k_Mo_hardwareSize.1) := ft_gt 1490 (by decide +kernel) rfl
theorem ml_La_135 : ft_g (.methodLink "ForwardingTableLaw" 135 k_Mo_hardware.1) := ft_gt 1494 (by decide +kernel) rfl
theorem ml_La_139 : ft_g (.methodLink "ForwardingTableLaw" 139 k_Mo_action.1) := ft_gt 1498 (by decide +kernel) rfl
theorem ml_La_151 : ft_g (.methodLink "ForwardingTableLaw" 151 k_Mo_missed.1) := ft_gt 1502 (by decide +kernel) rfl
theorem ml_Mo_305 : ft_g (.methodLink "ForwardingTableModel" 305 k_Mo_missedNow.1) := ft_gt 1506 (by decide +kernel) rfl
theorem ml_La_143 : ft_g (.methodLink "ForwardingTableLaw" 143 k_Mo_changes.1) := ft_gt 1510 (by decide +kernel) rfl
theorem ml_Mo_333 : ft_g (.methodLink "ForwardingTableModel" 333 k_Mo_laysAside.1) := ft_gt 1514 (by decide +kernel) rfl
theorem ml_Mo_336 : ft_g (.methodLink "ForwardingTableModel" 336 k_Mo_syncs.1) := ft_gt 1518 (by decide +kernel) rfl
theorem ml_Mo_327 : ft_g (.methodLink "ForwardingTableModel" 327 k_Mo_preparesSync.1) := ft_gt 1522 (by decide +kernel) rfl
theorem ml_Mo_330 : ft_g (.methodLink "ForwardingTableModel" 330 k_Mo_changesOne.1) := ft_gt 1526 (by decide +kernel) rfl
theorem ml_Mo_308 : ft_g (.methodLink "ForwardingTableModel" 308 k_Mo_removesOne.1) := ft_gt 1530 (by decide +kernel) rfl
theorem ml_Mo_324 : ft_g (.methodLink "ForwardingTableModel" 324 k_Mo_targetAt.1) := ft_gt 1534 (by decide +kernel) rfl
theorem ml_Mo_339 : ft_g (.methodLink "ForwardingTableModel" 339 k_Mo_comesBack.1) := ft_gt 1538 (by decide +kernel) rfl
theorem ml_La_147 : ft_g (.methodLink "ForwardingTableLaw" 147 k_Mo_change.1) := ft_gt 1542 (by decide +kernel) rfl
theorem ml_La_155 : ft_g (.methodLink "ForwardingTableLaw" 155 k_Mo_missedAfter.1) := ft_gt 1547 (by decide +kernel) rfl
theorem ml_La_159 : ft_g (.methodLink "ForwardingTableLaw" 159 k_Mo_sync.1) := ft_gt 1552 (by decide +kernel) rfl
theorem ml_La_163 : ft_g (.methodLink "ForwardingTableLaw" 163 k_Mo_clear.1) := ft_gt 1556 (by decide +kernel) rfl
theorem ml_La_168 : ft_g (.methodLink "ForwardingTableLaw" 168 k_Mo_addresses.1) := ft_gt 1560 (by decide +kernel) rfl
theorem ml_La_173 : ft_g (.methodLink "ForwardingTableLaw" 173 k_Mo_hardwareAddresses.1) := ft_gt 1565 (by decide +kernel) rfl
theorem ml_La_177 : ft_g (.methodLink "ForwardingTableLaw" 177 k_Mo_nextOther.1) := ft_gt 1569 (by decide +kernel) rfl
theorem ml_Mo_348 : ft_g (.methodLink "ForwardingTableModel" 348 k_Mo_edgeAbove.1) := ft_gt 1573 (by decide +kernel) rfl
theorem ml_La_181 : ft_g (.methodLink "ForwardingTableLaw" 181 k_Mo_runs.1) := ft_gt 1577 (by decide +kernel) rfl
theorem ml_La_185 : ft_g (.methodLink "ForwardingTableLaw" 185 k_Mo_isRedundant.1) := ft_gt 1581 (by decide +kernel) rfl
theorem ml_Mo_352 : ft_g (.methodLink "ForwardingTableModel" 352 k_Mo_isIdle.1) := ft_gt 1585 (by decide +kernel) rfl
theorem ml_La_189 : ft_g (.methodLink "ForwardingTableLaw" 189 k_Mo_redundant.1) := ft_gt 1589 (by decide +kernel) rfl
theorem ml_La_193 : ft_g (.methodLink "ForwardingTableLaw" 193 k_Mo_nesting.1) := ft_gt 1593 (by decide +kernel) rfl
theorem ml_La_197 : ft_g (.methodLink "ForwardingTableLaw" 197 k_Mo_compressedWithout.1) := ft_gt 1597 (by decide +kernel) rfl
theorem ml_Mo_355 : ft_g (.methodLink "ForwardingTableModel" 355 k_Mo_entriesWithout.1) := ft_gt 1601 (by decide +kernel) rfl
theorem ml_La_201 : ft_g (.methodLink "ForwardingTableLaw" 201 k_Mo_costliest.1) := ft_gt 1605 (by decide +kernel) rfl
theorem ml_La_205 : ft_g (.methodLink "ForwardingTableLaw" 205 k_Mo_count.1) := ft_gt 1609 (by decide +kernel) rfl
theorem ml_La_213 : ft_g (.methodLink "ForwardingTableLaw" 213 k_Mo_reportLength.1) := ft_gt 1613 (by decide +kernel) rfl
theorem ml_Mo_373 : ft_g (.methodLink "ForwardingTableModel" 373 k_Mo_writesReport.1) := ft_gt 1617 (by decide +kernel) rfl
theorem ml_Mo_370 : ft_g (.methodLink "ForwardingTableModel" 370 k_Mo_writesLine.1) := ft_gt 1621 (by decide +kernel) rfl
theorem ml_Mo_367 : ft_g (.methodLink "ForwardingTableModel" 367 k_Mo_writesAddress.1) := ft_gt 1625 (by decide +kernel) rfl
theorem ml_Mo_364 : ft_g (.methodLink "ForwardingTableModel" 364 k_Mo_writesNumber.1) := ft_gt 1629 (by decide +kernel) rfl
theorem ml_Mo_361 : ft_g (.methodLink "ForwardingTableModel" 361 k_Mo_writesSign.1) := ft_gt 1633 (by decide +kernel) rfl
theorem ml_La_217 : ft_g (.methodLink "ForwardingTableLaw" 217 k_Mo_reportByte.1) := ft_gt 1637 (by decide +kernel) rfl
theorem ml_La_221 : ft_g (.methodLink "ForwardingTableLaw" 221 k_Mo_tapeLength.1) := ft_gt 1641 (by decide +kernel) rfl
theorem ml_La_17 : ft_g (.methodLink "ForwardingTableLaw" 17 k_Mo_append.1) := ft_gt 1645 (by decide +kernel) rfl
theorem ml_La_22 : ft_g (.methodLink "ForwardingTableLaw" 22 k_Mo_truncate.1) := ft_gt 1649 (by decide +kernel) rfl
theorem ml_La_27 : ft_g (.methodLink "ForwardingTableLaw" 27 k_Mo_load.1) := ft_gt 1653 (by decide +kernel) rfl
theorem ml_Mo_420 : ft_g (.methodLink "ForwardingTableModel" 420 k_Mo_goesOn.1) := ft_gt 1657 (by decide +kernel) rfl
theorem ml_Mo_388 : ft_g (.methodLink "ForwardingTableModel" 388 k_Mo_here.1) := ft_gt 1661 (by decide +kernel) rfl
theorem ml_Mo_398 : ft_g (.methodLink "ForwardingTableModel" 398 k_Mo_isSpelt.1) := ft_gt 1667 (by decide +kernel) rfl
theorem ml_Mo_382 : ft_g (.methodLink "ForwardingTableModel" 382 k_Mo_wordFrom.1) := ft_gt 1671 (by decide +kernel) rfl
theorem ml_Mo_438 : ft_g (.methodLink "ForwardingTableModel" 438 k_Mo_needsWord.1) := ft_gt 1677 (by decide +kernel) rfl
theorem ml_Mo_417 : ft_g (.methodLink "ForwardingTableModel" 417 k_Mo_isWord.1) := ft_gt 1681 (by decide +kernel) rfl
theorem ml_Mo_423 : ft_g (.methodLink "ForwardingTableModel" 423 k_Mo_fails.1) := ft_gt 1685 (by decide +kernel) rfl
theorem ml_Mo_426 : ft_g (.methodLink "ForwardingTableModel" 426 k_Mo_needsNumber.1) := ft_gt 1689 (by decide +kernel) rfl
theorem ml_Mo_429 : ft_g (.methodLink "ForwardingTableModel" 429 k_Mo_needsSign.1) := ft_gt 1693 (by decide +kernel) rfl
theorem ml_Mo_446 : ft_g (.methodLink "ForwardingTableModel" 446 k_Mo_readsRoute.1) := ft_gt 1697 (by decide +kernel) rfl
theorem ml_Mo_432 : ft_g (.methodLink "ForwardingTableModel" 432 k_Mo_readsBytes.1) := ft_gt 1701 (by decide +kernel) rfl
theorem ml_Mo_435 : ft_g (.methodLink "ForwardingTableModel" 435 k_Mo_isTold.1) := ft_gt 1705 (by decide +kernel) rfl
theorem ml_Mo_449 : ft_g (.methodLink "ForwardingTableModel" 449 k_Mo_readsSeen.1) := ft_gt 1709 (by decide +kernel) rfl
theorem ml_Mo_443 : ft_g (.methodLink "ForwardingTableModel" 443 k_Mo_isSeen.1) := ft_gt 1714 (by decide +kernel) rfl
theorem ml_La_31 : ft_g (.methodLink "ForwardingTableLaw" 31 k_Mo_errorPosition.1) := ft_gt 1718 (by decide +kernel) rfl

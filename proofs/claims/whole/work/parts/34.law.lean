theorem cw_99_13 : CW [.methodLink RX99 13 yX8_facts, .instanceMethod yX8_facts, .selects yX8_facts.cls yX8_facts yX8_facts, .initialized yX8_facts.cls, .code yX8_facts cX8_facts 3 (some .int)] yX8_facts 1 := ⟨List.forall_mem_cons.mpr ⟨lw_in 291 (by decide +kernel) rfl, List.forall_mem_cons.mpr ⟨lw_in 292 (by decide +kernel) rfl, List.forall_mem_cons.mpr ⟨lw_in 293 (by decide +kernel) rfl, List.forall_mem_cons.mpr ⟨lw_in 51 (by decide +kernel) rfl, List.forall_mem_cons.mpr ⟨lw_in 294 (by decide +kernel) rfl, fun w hw => absurd hw List.not_mem_nil⟩⟩⟩⟩⟩, by decide +kernel⟩
theorem cw_99_17 : CW [.methodLink RX99 17 yX9_facts, .instanceMethod yX9_facts, .selects yX9_facts.cls yX9_facts yX9_facts, .initialized yX9_facts.cls, .code yX9_facts cX9_facts 3 (some .int)] yX9_facts 1 := ⟨List.forall_mem_cons.mpr ⟨lw_in 842 (by decide +kernel) rfl, List.forall_mem_cons.mpr ⟨lw_in 843 (by decide +kernel) rfl, List.forall_mem_cons.mpr ⟨lw_in 844 (by decide +kernel) rfl, List.forall_mem_cons.mpr ⟨lw_in 60 (by decide +kernel) rfl, List.forall_mem_cons.mpr ⟨lw_in 845 (by decide +kernel) rfl, fun w hw => absurd hw List.not_mem_nil⟩⟩⟩⟩⟩, by decide +kernel⟩
theorem cw_99_18 : CW [.methodLink RX99 18 yX8_fact, .instanceMethod yX8_fact, .selects yX8_fact.cls yX8_fact yX8_fact, .initialized yX8_fact.cls, .code yX8_fact cX8_fact 4 (some .int)] yX8_fact 2 := ⟨List.forall_mem_cons.mpr ⟨lw_in 309 (by decide +kernel) rfl, List.forall_mem_cons.mpr ⟨lw_in 310 (by decide +kernel) rfl, List.forall_mem_cons.mpr ⟨lw_in 311 (by decide +kernel) rfl, List.forall_mem_cons.mpr ⟨lw_in 51 (by decide +kernel) rfl, List.forall_mem_cons.mpr ⟨lw_in 312 (by decide +kernel) rfl, fun w hw => absurd hw List.not_mem_nil⟩⟩⟩⟩⟩, by decide +kernel⟩
theorem cw_99_22 : CW [.methodLink RX99 22 yX9_fact, .instanceMethod yX9_fact, .selects yX9_fact.cls yX9_fact yX9_fact, .initialized yX9_fact.cls, .code yX9_fact cX9_fact 3 (some .int)] yX9_fact 2 := ⟨List.forall_mem_cons.mpr ⟨lw_in 850 (by decide +kernel) rfl, List.forall_mem_cons.mpr ⟨lw_in 851 (by decide +kernel) rfl, List.forall_mem_cons.mpr ⟨lw_in 852 (by decide +kernel) rfl, List.forall_mem_cons.mpr ⟨lw_in 60 (by decide +kernel) rfl, List.forall_mem_cons.mpr ⟨lw_in 853 (by decide +kernel) rfl, fun w hw => absurd hw List.not_mem_nil⟩⟩⟩⟩⟩, by decide +kernel⟩
theorem cw_99_23 : CW [.methodLink RX99 23 yX8_temper, .instanceMethod yX8_temper, .selects yX8_temper.cls yX8_temper yX8_temper, .initialized yX8_temper.cls, .code yX8_temper cX8_temper 4 (some .int)] yX8_temper 2 := ⟨List.forall_mem_cons.mpr ⟨lw_in 313 (by decide +kernel) rfl, List.forall_mem_cons.mpr ⟨lw_in 314 (by decide +kernel) rfl, List.forall_mem_cons.mpr ⟨lw_in 315 (by decide +kernel) rfl, List.forall_mem_cons.mpr ⟨lw_in 51 (by decide +kernel) rfl, List.forall_mem_cons.mpr ⟨lw_in 316 (by decide +kernel) rfl, fun w hw => absurd hw List.not_mem_nil⟩⟩⟩⟩⟩, by decide +kernel⟩
theorem cw_99_27 : CW [.methodLink RX99 27 yX9_temper, .instanceMethod yX9_temper, .selects yX9_temper.cls yX9_temper yX9_temper, .initialized yX9_temper.cls, .code yX9_temper cX9_temper 4 (some .int)] yX9_temper 2 := ⟨List.forall_mem_cons.mpr ⟨lw_in 858 (by decide +kernel) rfl, List.forall_mem_cons.mpr ⟨lw_in 859 (by decide +kernel) rfl, List.forall_mem_cons.mpr ⟨lw_in 860 (by decide +kernel) rfl, List.forall_mem_cons.mpr ⟨lw_in 60 (by decide +kernel) rfl, List.forall_mem_cons.mpr ⟨lw_in 861 (by decide +kernel) rfl, fun w hw => absurd hw List.not_mem_nil⟩⟩⟩⟩⟩, by decide +kernel⟩
theorem cw_99_28 : CW [.methodLink RX99 28 yX8_width, .instanceMethod yX8_width, .selects yX8_width.cls yX8_width yX8_width, .initialized yX8_width.cls, .code yX8_width cX8_width 3 (some .int)] yX8_width 1 := ⟨List.forall_mem_cons.mpr ⟨lw_in 328 (by decide +kernel) rfl, List.forall_mem_cons.mpr ⟨lw_in 329 (by decide +kernel) rfl, List.forall_mem_cons.mpr ⟨lw_in 330 (by decide +kernel) rfl, List.forall_mem_cons.mpr ⟨lw_in 51 (by decide +kernel) rfl, List.forall_mem_cons.mpr ⟨lw_in 331 (by decide +kernel) rfl, fun w hw => absurd hw List.not_mem_nil⟩⟩⟩⟩⟩, by decide +kernel⟩
theorem cw_99_31 : CW [.methodLink RX99 31 yX9_width, .instanceMethod yX9_width, .selects yX9_width.cls yX9_width yX9_width, .initialized yX9_width.cls, .code yX9_width cX9_width 3 (some .int)] yX9_width 1 := ⟨List.forall_mem_cons.mpr ⟨lw_in 867 (by decide +kernel) rfl, List.forall_mem_cons.mpr ⟨lw_in 868 (by decide +kernel) rfl, List.forall_mem_cons.mpr ⟨lw_in 869 (by decide +kernel) rfl, List.forall_mem_cons.mpr ⟨lw_in 60 (by decide +kernel) rfl, List.forall_mem_cons.mpr ⟨lw_in 870 (by decide +kernel) rfl, fun w hw => absurd hw List.not_mem_nil⟩⟩⟩⟩⟩, by decide +kernel⟩
theorem cw_99_32 : CW [.methodLink RX99 32 yX8_say, .instanceMethod yX8_say, .selects yX8_say.cls yX8_say yX8_say, .initialized yX8_say.cls, .code yX8_say cX8_say 2 (some .int)] yX8_say 1 := ⟨List.forall_mem_cons.mpr ⟨lw_in 332 (by decide +kernel) rfl, List.forall_mem_cons.mpr ⟨lw_in 333 (by decide +kernel) rfl, List.forall_mem_cons.mpr ⟨lw_in 334 (by decide +kernel) rfl, List.forall_mem_cons.mpr ⟨lw_in 51 (by decide +kernel) rfl, List.forall_mem_cons.mpr ⟨lw_in 335 (by decide +kernel) rfl, fun w hw => absurd hw List.not_mem_nil⟩⟩⟩⟩⟩, by decide +kernel⟩
theorem cw_99_35 : CW [.methodLink RX99 35 yX9_say, .instanceMethod yX9_say, .selects yX9_say.cls yX9_say yX9_say, .initialized yX9_say.cls, .code yX9_say cX9_say 2 (some .int)] yX9_say 1 := ⟨List.forall_mem_cons.mpr ⟨lw_in 872 (by decide +kernel) rfl, List.forall_mem_cons.mpr ⟨lw_in 873 (by decide +kernel) rfl, List.forall_mem_cons.mpr ⟨lw_in 874 (by decide +kernel) rfl, List.forall_mem_cons.mpr ⟨lw_in 60 (by decide +kernel) rfl, List.forall_mem_cons.mpr ⟨lw_in 875 (by decide +kernel) rfl, fun w hw => absurd hw List.not_mem_nil⟩⟩⟩⟩⟩, by decide +kernel⟩
theorem cw_99_36 : CW [.methodLink RX99 36 yX8_wipe, .instanceMethod yX8_wipe, .selects yX8_wipe.cls yX8_wipe yX8_wipe, .initialized yX8_wipe.cls, .code yX8_wipe cX8_wipe 2 (some .int)] yX8_wipe 0 := ⟨List.forall_mem_cons.mpr ⟨lw_in 341 (by decide +kernel) rfl, List.forall_mem_cons.mpr ⟨lw_in 342 (by decide +kernel) rfl, List.forall_mem_cons.mpr ⟨lw_in 343 (by decide +kernel) rfl, List.forall_mem_cons.mpr ⟨lw_in 51 (by decide +kernel) rfl, List.forall_mem_cons.mpr ⟨lw_in 344 (by decide +kernel) rfl, fun w hw => absurd hw List.not_mem_nil⟩⟩⟩⟩⟩, by decide +kernel⟩
theorem cw_99_40 : CW [.methodLink RX99 40 yX9_wipe, .instanceMethod yX9_wipe, .selects yX9_wipe.cls yX9_wipe yX9_wipe, .initialized yX9_wipe.cls, .code yX9_wipe cX9_wipe 2 (some .int)] yX9_wipe 0 := ⟨List.forall_mem_cons.mpr ⟨lw_in 878 (by decide +kernel) rfl, List.forall_mem_cons.mpr ⟨lw_in 879 (by decide +kernel) rfl, List.forall_mem_cons.mpr ⟨lw_in 880 (by decide +kernel) rfl, List.forall_mem_cons.mpr ⟨lw_in 60 (by decide +kernel) rfl, List.forall_mem_cons.mpr ⟨lw_in 881 (by decide +kernel) rfl, fun w hw => absurd hw List.not_mem_nil⟩⟩⟩⟩⟩, by decide +kernel⟩
theorem cw_99_41 : CW [.methodLink RX99 41 yX8_fault, .instanceMethod yX8_fault, .selects yX8_fault.cls yX8_fault yX8_fault, .initialized yX8_fault.cls, .code yX8_fault cX8_fault 2 (some .int)] yX8_fault 1 := ⟨List.forall_mem_cons.mpr ⟨lw_in 345 (by decide +kernel) rfl, List.forall_mem_cons.mpr ⟨lw_in 346 (by decide +kernel) rfl, List.forall_mem_cons.mpr ⟨lw_in 347 (by decide +kernel) rfl, List.forall_mem_cons.mpr ⟨lw_in 51 (by decide +kernel) rfl, List.forall_mem_cons.mpr ⟨lw_in 348 (by decide +kernel) rfl, fun w hw => absurd hw List.not_mem_nil⟩⟩⟩⟩⟩, by decide +kernel⟩
theorem cw_99_44 : CW [.methodLink RX99 44 yX9_fault, .instanceMethod yX9_fault, .selects yX9_fault.cls yX9_fault yX9_fault, .initialized yX9_fault.cls, .code yX9_fault cX9_fault 2 (some .int)] yX9_fault 1 := ⟨List.forall_mem_cons.mpr ⟨lw_in 882 (by decide +kernel) rfl, List.forall_mem_cons.mpr ⟨lw_in 883 (by decide +kernel) rfl, List.forall_mem_cons.mpr ⟨lw_in 884 (by decide +kernel) rfl, List.forall_mem_cons.mpr ⟨lw_in 60 (by decide +kernel) rfl, List.forall_mem_cons.mpr ⟨lw_in 885 (by decide +kernel) rfl, fun w hw => absurd hw List.not_mem_nil⟩⟩⟩⟩⟩, by decide +kernel⟩
theorem cw_99_45 : CW [.methodLink RX99 45 yX8_judge, .instanceMethod yX8_judge, .selects yX8_judge.cls yX8_judge yX8_judge, .initialized yX8_judge.cls, .code yX8_judge cX8_judge 3 (some .int)] yX8_judge 1 := ⟨List.forall_mem_cons.mpr ⟨lw_in 378 (by decide +kernel) rfl, List.forall_mem_cons.mpr ⟨lw_in 379 (by decide +kernel) rfl, List.forall_mem_cons.mpr ⟨lw_in 380 (by decide +kernel) rfl, List.forall_mem_cons.mpr ⟨lw_in 51 (by decide +kernel) rfl, List.forall_mem_cons.mpr ⟨lw_in 381 (by decide +kernel) rfl, fun w hw => absurd hw List.not_mem_nil⟩⟩⟩⟩⟩, by decide +kernel⟩
theorem cw_99_48 : CW [.methodLink RX99 48 yX9_judge, .instanceMethod yX9_judge, .selects yX9_judge.cls yX9_judge yX9_judge, .initialized yX9_judge.cls, .code yX9_judge cX9_judge 3 (some .int)] yX9_judge 1 := ⟨List.forall_mem_cons.mpr ⟨lw_in 897 (by decide +kernel) rfl, List.forall_mem_cons.mpr ⟨lw_in 898 (by decide +kernel) rfl, List.forall_mem_cons.mpr ⟨lw_in 899 (by decide +kernel) rfl, List.forall_mem_cons.mpr ⟨lw_in 60 (by decide +kernel) rfl, List.forall_mem_cons.mpr ⟨lw_in 900 (by decide +kernel) rfl, fun w hw => absurd hw List.not_mem_nil⟩⟩⟩⟩⟩, by decide +kernel⟩
theorem cw_99_49 : CW [.methodLink RX99 49 yX8_behind, .instanceMethod yX8_behind, .selects yX8_behind.cls yX8_behind yX8_behind, .initialized yX8_behind.cls, .code yX8_behind cX8_behind 3 (some .int)] yX8_behind 1 := ⟨List.forall_mem_cons.mpr ⟨lw_in 439 (by decide +kernel) rfl, List.forall_mem_cons.mpr ⟨lw_in 440 (by decide +kernel) rfl, List.forall_mem_cons.mpr ⟨lw_in 441 (by decide +kernel) rfl, List.forall_mem_cons.mpr ⟨lw_in 51 (by decide +kernel) rfl, List.forall_mem_cons.mpr ⟨lw_in 442 (by decide +kernel) rfl, fun w hw => absurd hw List.not_mem_nil⟩⟩⟩⟩⟩, by decide +kernel⟩
theorem cw_99_52 : CW [.methodLink RX99 52 yX9_behind, .instanceMethod yX9_behind, .selects yX9_behind.cls yX9_behind yX9_behind, .initialized yX9_behind.cls, .code yX9_behind cX9_behind 3 (some .int)] yX9_behind 1 := ⟨List.forall_mem_cons.mpr ⟨lw_in 962 (by decide +kernel) rfl, List.forall_mem_cons.mpr ⟨lw_in 963 (by decide +kernel) rfl, List.forall_mem_cons.mpr ⟨lw_in 964 (by decide +kernel) rfl, List.forall_mem_cons.mpr ⟨lw_in 60 (by decide +kernel) rfl, List.forall_mem_cons.mpr ⟨lw_in 965 (by decide +kernel) rfl, fun w hw => absurd hw List.not_mem_nil⟩⟩⟩⟩⟩, by decide +kernel⟩
theorem cw_99_53 : CW [.methodLink RX99 53 yX8_row, .instanceMethod yX8_row, .selects yX8_row.cls yX8_row yX8_row, .initialized yX8_row.cls, .code yX8_row cX8_row 4 (some .int)] yX8_row 2 := ⟨List.forall_mem_cons.mpr ⟨lw_in 455 (by decide +kernel) rfl, List.forall_mem_cons.mpr ⟨lw_in 456 (by decide +kernel) rfl, List.forall_mem_cons.mpr ⟨lw_in 457 (by decide +kernel) rfl, List.forall_mem_cons.mpr ⟨lw_in 51 (by decide +kernel) rfl, List.forall_mem_cons.mpr ⟨lw_in 458 (by decide +kernel) rfl, fun w hw => absurd hw List.not_mem_nil⟩⟩⟩⟩⟩, by decide +kernel⟩
theorem cw_99_56 : CW [.methodLink RX99 56 yX9_row, .instanceMethod yX9_row, .selects yX9_row.cls yX9_row yX9_row, .initialized yX9_row.cls, .code yX9_row cX9_row 4 (some .int)] yX9_row 2 := ⟨List.forall_mem_cons.mpr ⟨lw_in 966 (by decide +kernel) rfl, List.forall_mem_cons.mpr ⟨lw_in 967 (by decide +kernel) rfl, List.forall_mem_cons.mpr ⟨lw_in 968 (by decide +kernel) rfl, List.forall_mem_cons.mpr ⟨lw_in 60 (by decide +kernel) rfl, List.forall_mem_cons.mpr ⟨lw_in 969 (by decide +kernel) rfl, fun w hw => absurd hw List.not_mem_nil⟩⟩⟩⟩⟩, by decide +kernel⟩
theorem cw_99_57 : CW [.methodLink RX99 57 yX8_lost, .instanceMethod yX8_lost, .selects yX8_lost.cls yX8_lost yX8_lost, .initialized yX8_lost.cls, .code yX8_lost cX8_lost 3 (some .int)] yX8_lost 1 := ⟨List.forall_mem_cons.mpr ⟨lw_in 471 (by decide +kernel) rfl, List.forall_mem_cons.mpr ⟨lw_in 472 (by decide +kernel) rfl, List.forall_mem_cons.mpr ⟨lw_in 473 (by decide +kernel) rfl, List.forall_mem_cons.mpr ⟨lw_in 51 (by decide +kernel) rfl, List.forall_mem_cons.mpr ⟨lw_in 474 (by decide +kernel) rfl, fun w hw => absurd hw List.not_mem_nil⟩⟩⟩⟩⟩, by decide +kernel⟩
theorem cw_99_60 : CW [.methodLink RX99 60 yX9_lost, .instanceMethod yX9_lost, .selects yX9_lost.cls yX9_lost yX9_lost, .initialized yX9_lost.cls, .code yX9_lost cX9_lost 3 (some .int)] yX9_lost 1 := ⟨List.forall_mem_cons.mpr ⟨lw_in 970 (by decide +kernel) rfl, List.forall_mem_cons.mpr ⟨lw_in 971 (by decide +kernel) rfl, List.forall_mem_cons.mpr ⟨lw_in 972 (by decide +kernel) rfl, List.forall_mem_cons.mpr ⟨lw_in 60 (by decide +kernel) rfl, List.forall_mem_cons.mpr ⟨lw_in 973 (by decide +kernel) rfl, fun w hw => absurd hw List.not_mem_nil⟩⟩⟩⟩⟩, by decide +kernel⟩
theorem cw_99_61 : CW [.methodLink RX99 61 yX8_done, .instanceMethod yX8_done, .selects yX8_done.cls yX8_done yX8_done, .initialized yX8_done.cls, .code yX8_done cX8_done 2 (some .int)] yX8_done 0 := ⟨List.forall_mem_cons.mpr ⟨lw_in 479 (by decide +kernel) rfl, List.forall_mem_cons.mpr ⟨lw_in 480 (by decide +kernel) rfl, List.forall_mem_cons.mpr ⟨lw_in 481 (by decide +kernel) rfl, List.forall_mem_cons.mpr ⟨lw_in 51 (by decide +kernel) rfl, List.forall_mem_cons.mpr ⟨lw_in 482 (by decide +kernel) rfl, fun w hw => absurd hw List.not_mem_nil⟩⟩⟩⟩⟩, by decide +kernel⟩
theorem cw_99_64 : CW [.methodLink RX99 64 yX9_done, .instanceMethod yX9_done, .selects yX9_done.cls yX9_done yX9_done, .initialized yX9_done.cls, .code yX9_done cX9_done 2 (some .int)] yX9_done 0 := ⟨List.forall_mem_cons.mpr ⟨lw_in 978 (by decide +kernel) rfl, List.forall_mem_cons.mpr ⟨lw_in 979 (by decide +kernel) rfl, List.forall_mem_cons.mpr ⟨lw_in 980 (by decide +kernel) rfl, List.forall_mem_cons.mpr ⟨lw_in 60 (by decide +kernel) rfl, List.forall_mem_cons.mpr ⟨lw_in 981 (by decide +kernel) rfl, fun w hw => absurd hw List.not_mem_nil⟩⟩⟩⟩⟩, by decide +kernel⟩
theorem cw_99_65 : CW [.methodLink RX99 65 yX8_state, .instanceMethod yX8_state, .selects yX8_state.cls yX8_state yX8_state, .initialized yX8_state.cls, .code yX8_state cX8_state 3 (some .int)] yX8_state 2 := ⟨List.forall_mem_cons.mpr ⟨lw_in 484 (by decide +kernel) rfl, List.forall_mem_cons.mpr ⟨lw_in 485 (by decide +kernel) rfl, List.forall_mem_cons.mpr ⟨lw_in 486 (by decide +kernel) rfl, List.forall_mem_cons.mpr ⟨lw_in 51 (by decide +kernel) rfl, List.forall_mem_cons.mpr ⟨lw_in 487 (by decide +kernel) rfl, fun w hw => absurd hw List.not_mem_nil⟩⟩⟩⟩⟩, by decide +kernel⟩
theorem cw_99_68 : CW [.methodLink RX99 68 yX9_state, .instanceMethod yX9_state, .selects yX9_state.cls yX9_state yX9_state, .initialized yX9_state.cls, .code yX9_state cX9_state 3 (some .int)] yX9_state 2 := ⟨List.forall_mem_cons.mpr ⟨lw_in 982 (by decide +kernel) rfl, List.forall_mem_cons.mpr ⟨lw_in 983 (by decide +kernel) rfl, List.forall_mem_cons.mpr ⟨lw_in 984 (by decide +kernel) rfl, List.forall_mem_cons.mpr ⟨lw_in 60 (by decide +kernel) rfl, List.forall_mem_cons.mpr ⟨lw_in 985 (by decide +kernel) rfl, fun w hw => absurd hw List.not_mem_nil⟩⟩⟩⟩⟩, by decide +kernel⟩
theorem cw_99_69 : CW [.methodLink RX99 69 yX8_made, .instanceMethod yX8_made, .selects yX8_made.cls yX8_made yX8_made, .initialized yX8_made.cls, .code yX8_made cX8_made 2 (some .int)] yX8_made 0 := ⟨List.forall_mem_cons.mpr ⟨lw_in 488 (by decide +kernel) rfl, List.forall_mem_cons.mpr ⟨lw_in 489 (by decide +kernel) rfl, List.forall_mem_cons.mpr ⟨lw_in 490 (by decide +kernel) rfl, List.forall_mem_cons.mpr ⟨lw_in 51 (by decide +kernel) rfl, List.forall_mem_cons.mpr ⟨lw_in 491 (by decide +kernel) rfl, fun w hw => absurd hw List.not_mem_nil⟩⟩⟩⟩⟩, by decide +kernel⟩
theorem cw_99_72 : CW [.methodLink RX99 72 yX9_made, .instanceMethod yX9_made, .selects yX9_made.cls yX9_made yX9_made, .initialized yX9_made.cls, .code yX9_made cX9_made 1 (some .int)] yX9_made 0 := ⟨List.forall_mem_cons.mpr ⟨lw_in 986 (by decide +kernel) rfl, List.forall_mem_cons.mpr ⟨lw_in 987 (by decide +kernel) rfl, List.forall_mem_cons.mpr ⟨lw_in 988 (by decide +kernel) rfl, List.forall_mem_cons.mpr ⟨lw_in 60 (by decide +kernel) rfl, List.forall_mem_cons.mpr ⟨lw_in 989 (by decide +kernel) rfl, fun w hw => absurd hw List.not_mem_nil⟩⟩⟩⟩⟩, by decide +kernel⟩
theorem cw_99_73 : CW [.methodLink RX99 73 yX8_bars, .instanceMethod yX8_bars, .selects yX8_bars.cls yX8_bars yX8_bars, .initialized yX8_bars.cls, .code yX8_bars cX8_bars 3 (some .int)] yX8_bars 0 := ⟨List.forall_mem_cons.mpr ⟨lw_in 520 (by decide +kernel) rfl, List.forall_mem_cons.mpr ⟨lw_in 521 (by decide +kernel) rfl, List.forall_mem_cons.mpr ⟨lw_in 522 (by decide +kernel) rfl, List.forall_mem_cons.mpr ⟨lw_in 51 (by decide +kernel) rfl, List.forall_mem_cons.mpr ⟨lw_in 523 (by decide +kernel) rfl, fun w hw => absurd hw List.not_mem_nil⟩⟩⟩⟩⟩, by decide +kernel⟩
theorem cw_99_76 : CW [.methodLink RX99 76 yX9_bars, .instanceMethod yX9_bars, .selects yX9_bars.cls yX9_bars yX9_bars, .initialized yX9_bars.cls, .code yX9_bars cX9_bars 2 (some .int)] yX9_bars 0 := ⟨List.forall_mem_cons.mpr ⟨lw_in 1011 (by decide +kernel) rfl, List.forall_mem_cons.mpr ⟨lw_in 1012 (by decide +kernel) rfl, List.forall_mem_cons.mpr ⟨lw_in 1013 (by decide +kernel) rfl, List.forall_mem_cons.mpr ⟨lw_in 60 (by decide +kernel) rfl, List.forall_mem_cons.mpr ⟨lw_in 1014 (by decide +kernel) rfl, fun w hw => absurd hw List.not_mem_nil⟩⟩⟩⟩⟩, by decide +kernel⟩
theorem cw_99_77 : CW [.methodLink RX99 77 yX8_seen, .instanceMethod yX8_seen, .selects yX8_seen.cls yX8_seen yX8_seen, .initialized yX8_seen.cls, .code yX8_seen cX8_seen 3 (some .int)] yX8_seen 2 := ⟨List.forall_mem_cons.mpr ⟨lw_in 524 (by decide +kernel) rfl, List.forall_mem_cons.mpr ⟨lw_in 525 (by decide +kernel) rfl, List.forall_mem_cons.mpr ⟨lw_in 526 (by decide +kernel) rfl, List.forall_mem_cons.mpr ⟨lw_in 51 (by decide +kernel) rfl, List.forall_mem_cons.mpr ⟨lw_in 527 (by decide +kernel) rfl, fun w hw => absurd hw List.not_mem_nil⟩⟩⟩⟩⟩, by decide +kernel⟩
theorem cw_99_80 : CW [.methodLink RX99 80 yX9_seen, .instanceMethod yX9_seen, .selects yX9_seen.cls yX9_seen yX9_seen, .initialized yX9_seen.cls, .code yX9_seen cX9_seen 3 (some .int)] yX9_seen 2 := ⟨List.forall_mem_cons.mpr ⟨lw_in 1015 (by decide +kernel) rfl, List.forall_mem_cons.mpr ⟨lw_in 1016 (by decide +kernel) rfl, List.forall_mem_cons.mpr ⟨lw_in 1017 (by decide +kernel) rfl, List.forall_mem_cons.mpr ⟨lw_in 60 (by decide +kernel) rfl, List.forall_mem_cons.mpr ⟨lw_in 1018 (by decide +kernel) rfl, fun w hw => absurd hw List.not_mem_nil⟩⟩⟩⟩⟩, by decide +kernel⟩
theorem cw_99_81 : CW [.methodLink RX99 81 yX8_forget, .instanceMethod yX8_forget, .selects yX8_forget.cls yX8_forget yX8_forget, .initialized yX8_forget.cls, .code yX8_forget cX8_forget 2 (some .int)] yX8_forget 0 := ⟨List.forall_mem_cons.mpr ⟨lw_in 532 (by decide +kernel) rfl, List.forall_mem_cons.mpr ⟨lw_in 533 (by decide +kernel) rfl, List.forall_mem_cons.mpr ⟨lw_in 534 (by decide +kernel) rfl, List.forall_mem_cons.mpr ⟨lw_in 51 (by decide +kernel) rfl, List.forall_mem_cons.mpr ⟨lw_in 535 (by decide +kernel) rfl, fun w hw => absurd hw List.not_mem_nil⟩⟩⟩⟩⟩, by decide +kernel⟩
theorem cw_99_84 : CW [.methodLink RX99 84 yX9_forget, .instanceMethod yX9_forget, .selects yX9_forget.cls yX9_forget yX9_forget, .initialized yX9_forget.cls, .code yX9_forget cX9_forget 2 (some .int)] yX9_forget 0 := ⟨List.forall_mem_cons.mpr ⟨lw_in 1021 (by decide +kernel) rfl, List.forall_mem_cons.mpr ⟨lw_in 1022 (by decide +kernel) rfl, List.forall_mem_cons.mpr ⟨lw_in 1023 (by decide +kernel) rfl, List.forall_mem_cons.mpr ⟨lw_in 60 (by decide +kernel) rfl, List.forall_mem_cons.mpr ⟨lw_in 1024 (by decide +kernel) rfl, fun w hw => absurd hw List.not_mem_nil⟩⟩⟩⟩⟩, by decide +kernel⟩
theorem cw_99_85 : CW [.methodLink RX99 85 yX8_worlds, .instanceMethod yX8_worlds, .selects yX8_worlds.cls yX8_worlds yX8_worlds, .initialized yX8_worlds.cls, .code yX8_worlds cX8_worlds 2 (some .int)] yX8_worlds 1 := ⟨List.forall_mem_cons.mpr ⟨lw_in 536 (by decide +kernel) rfl, List.forall_mem_cons.mpr ⟨lw_in 537 (by decide +kernel) rfl, List.forall_mem_cons.mpr ⟨lw_in 538 (by decide +kernel) rfl, List.forall_mem_cons.mpr ⟨lw_in 51 (by decide +kernel) rfl, List.forall_mem_cons.mpr ⟨lw_in 539 (by decide +kernel) rfl, fun w hw => absurd hw List.not_mem_nil⟩⟩⟩⟩⟩, by decide +kernel⟩
theorem cw_99_88 : CW [.methodLink RX99 88 yX9_worlds, .instanceMethod yX9_worlds, .selects yX9_worlds.cls yX9_worlds yX9_worlds, .initialized yX9_worlds.cls, .code yX9_worlds cX9_worlds 2 (some .int)] yX9_worlds 1 := ⟨List.forall_mem_cons.mpr ⟨lw_in 1025 (by decide +kernel) rfl, List.forall_mem_cons.mpr ⟨lw_in 1026 (by decide +kernel) rfl, List.forall_mem_cons.mpr ⟨lw_in 1027 (by decide +kernel) rfl, List.forall_mem_cons.mpr ⟨lw_in 60 (by decide +kernel) rfl, List.forall_mem_cons.mpr ⟨lw_in 1028 (by decide +kernel) rfl, fun w hw => absurd hw List.not_mem_nil⟩⟩⟩⟩⟩, by decide +kernel⟩
theorem cw_99_89 : CW [.methodLink RX99 89 yX8_tell, .instanceMethod yX8_tell, .selects yX8_tell.cls yX8_tell yX8_tell, .initialized yX8_tell.cls, .code yX8_tell cX8_tell 3 (some .int)] yX8_tell 1 := ⟨List.forall_mem_cons.mpr ⟨lw_in 558 (by decide +kernel) rfl, List.forall_mem_cons.mpr ⟨lw_in 559 (by decide +kernel) rfl, List.forall_mem_cons.mpr ⟨lw_in 560 (by decide +kernel) rfl, List.forall_mem_cons.mpr ⟨lw_in 51 (by decide +kernel) rfl, List.forall_mem_cons.mpr ⟨lw_in 561 (by decide +kernel) rfl, fun w hw => absurd hw List.not_mem_nil⟩⟩⟩⟩⟩, by decide +kernel⟩
theorem cw_99_92 : CW [.methodLink RX99 92 yX9_tell, .instanceMethod yX9_tell, .selects yX9_tell.cls yX9_tell yX9_tell, .initialized yX9_tell.cls, .code yX9_tell cX9_tell 4 (some .int)] yX9_tell 1 := ⟨List.forall_mem_cons.mpr ⟨lw_in 1037 (by decide +kernel) rfl, List.forall_mem_cons.mpr ⟨lw_in 1038 (by decide +kernel) rfl, List.forall_mem_cons.mpr ⟨lw_in 1039 (by decide +kernel) rfl, List.forall_mem_cons.mpr ⟨lw_in 60 (by decide +kernel) rfl, List.forall_mem_cons.mpr ⟨lw_in 1040 (by decide +kernel) rfl, fun w hw => absurd hw List.not_mem_nil⟩⟩⟩⟩⟩, by decide +kernel⟩
theorem cw_99_93 : CW [.methodLink RX99 93 yX8_says, .instanceMethod yX8_says, .selects yX8_says.cls yX8_says yX8_says, .initialized yX8_says.cls, .code yX8_says cX8_says 2 (some .int)] yX8_says 1 := ⟨List.forall_mem_cons.mpr ⟨lw_in 572 (by decide +kernel) rfl, List.forall_mem_cons.mpr ⟨lw_in 573 (by decide +kernel) rfl, List.forall_mem_cons.mpr ⟨lw_in 574 (by decide +kernel) rfl, List.forall_mem_cons.mpr ⟨lw_in 51 (by decide +kernel) rfl, List.forall_mem_cons.mpr ⟨lw_in 575 (by decide +kernel) rfl, fun w hw => absurd hw List.not_mem_nil⟩⟩⟩⟩⟩, by decide +kernel⟩
theorem cw_99_96 : CW [.methodLink RX99 96 yX9_says, .instanceMethod yX9_says, .selects yX9_says.cls yX9_says yX9_says, .initialized yX9_says.cls, .code yX9_says cX9_says 5 (some .int)] yX9_says 1 := ⟨List.forall_mem_cons.mpr ⟨lw_in 1045 (by decide +kernel) rfl, List.forall_mem_cons.mpr ⟨lw_in 1046 (by decide +kernel) rfl, List.forall_mem_cons.mpr ⟨lw_in 1047 (by decide +kernel) rfl, List.forall_mem_cons.mpr ⟨lw_in 60 (by decide +kernel) rfl, List.forall_mem_cons.mpr ⟨lw_in 1048 (by decide +kernel) rfl, fun w hw => absurd hw List.not_mem_nil⟩⟩⟩⟩⟩, by decide +kernel⟩
theorem cw_99_97 : CW [.methodLink RX99 97 yX8_orders, .instanceMethod yX8_orders, .selects yX8_orders.cls yX8_orders yX8_orders, .initialized yX8_orders.cls, .code yX8_orders cX8_orders 5 (some .long)] yX8_orders 4 := ⟨List.forall_mem_cons.mpr ⟨lw_in 583 (by decide +kernel) rfl, List.forall_mem_cons.mpr ⟨lw_in 584 (by decide +kernel) rfl, List.forall_mem_cons.mpr ⟨lw_in 585 (by decide +kernel) rfl, List.forall_mem_cons.mpr ⟨lw_in 51 (by decide +kernel) rfl, List.forall_mem_cons.mpr ⟨lw_in 586 (by decide +kernel) rfl, fun w hw => absurd hw List.not_mem_nil⟩⟩⟩⟩⟩, by decide +kernel⟩
theorem cw_99_101 : CW [.methodLink RX99 101 yX9_orders, .instanceMethod yX9_orders, .selects yX9_orders.cls yX9_orders yX9_orders, .initialized yX9_orders.cls, .code yX9_orders cX9_orders 9 (some .long)] yX9_orders 4 := ⟨List.forall_mem_cons.mpr ⟨lw_in 1049 (by decide +kernel) rfl, List.forall_mem_cons.mpr ⟨lw_in 1050 (by decide +kernel) rfl, List.forall_mem_cons.mpr ⟨lw_in 1051 (by decide +kernel) rfl, List.forall_mem_cons.mpr ⟨lw_in 60 (by decide +kernel) rfl, List.forall_mem_cons.mpr ⟨lw_in 1052 (by decide +kernel) rfl, fun w hw => absurd hw List.not_mem_nil⟩⟩⟩⟩⟩, by decide +kernel⟩
theorem cw_99_102 : CW [.methodLink RX99 102 yX8_left, .instanceMethod yX8_left, .selects yX8_left.cls yX8_left yX8_left, .initialized yX8_left.cls, .code yX8_left cX8_left 5 (some .int)] yX8_left 4 := ⟨List.forall_mem_cons.mpr ⟨lw_in 610 (by decide +kernel) rfl, List.forall_mem_cons.mpr ⟨lw_in 611 (by decide +kernel) rfl, List.forall_mem_cons.mpr ⟨lw_in 612 (by decide +kernel) rfl, List.forall_mem_cons.mpr ⟨lw_in 51 (by decide +kernel) rfl, List.forall_mem_cons.mpr ⟨lw_in 613 (by decide +kernel) rfl, fun w hw => absurd hw List.not_mem_nil⟩⟩⟩⟩⟩, by decide +kernel⟩
theorem cw_99_106 : CW [.methodLink RX99 106 yX9_left, .instanceMethod yX9_left, .selects yX9_left.cls yX9_left yX9_left, .initialized yX9_left.cls, .code yX9_left cX9_left 5 (some .int)] yX9_left 4 := ⟨List.forall_mem_cons.mpr ⟨lw_in 1063 (by decide +kernel) rfl, List.forall_mem_cons.mpr ⟨lw_in 1064 (by decide +kernel) rfl, List.forall_mem_cons.mpr ⟨lw_in 1065 (by decide +kernel) rfl, List.forall_mem_cons.mpr ⟨lw_in 60 (by decide +kernel) rfl, List.forall_mem_cons.mpr ⟨lw_in 1066 (by decide +kernel) rfl, fun w hw => absurd hw List.not_mem_nil⟩⟩⟩⟩⟩, by decide +kernel⟩
theorem cw_99_107 : CW [.methodLink RX99 107 yX8_chance, .instanceMethod yX8_chance, .selects yX8_chance.cls yX8_chance yX8_chance, .initialized yX8_chance.cls, .code yX8_chance cX8_chance 11 (some .long)] yX8_chance 4 := ⟨List.forall_mem_cons.mpr ⟨lw_in 615 (by decide +kernel) rfl, List.forall_mem_cons.mpr ⟨lw_in 616 (by decide +kernel) rfl, List.forall_mem_cons.mpr ⟨lw_in 617 (by decide +kernel) rfl, List.forall_mem_cons.mpr ⟨lw_in 51 (by decide +kernel) rfl, List.forall_mem_cons.mpr ⟨lw_in 618 (by decide +kernel) rfl, fun w hw => absurd hw List.not_mem_nil⟩⟩⟩⟩⟩, by decide +kernel⟩
theorem cw_99_110 : CW [.methodLink RX99 110 yX9_chance, .instanceMethod yX9_chance, .selects yX9_chance.cls yX9_chance yX9_chance, .initialized yX9_chance.cls, .code yX9_chance cX9_chance 8 (some .long)] yX9_chance 4 := ⟨List.forall_mem_cons.mpr ⟨lw_in 1067 (by decide +kernel) rfl, List.forall_mem_cons.mpr ⟨lw_in 1068 (by decide +kernel) rfl, List.forall_mem_cons.mpr ⟨lw_in 1069 (by decide +kernel) rfl, List.forall_mem_cons.mpr ⟨lw_in 60 (by decide +kernel) rfl, List.forall_mem_cons.mpr ⟨lw_in 1070 (by decide +kernel) rfl, fun w hw => absurd hw List.not_mem_nil⟩⟩⟩⟩⟩, by decide +kernel⟩
theorem cw_99_111 : CW [.methodLink RX99 111 yX8_over, .instanceMethod yX8_over, .selects yX8_over.cls yX8_over yX8_over, .initialized yX8_over.cls, .code yX8_over cX8_over 9 (some .int)] yX8_over 5 := ⟨List.forall_mem_cons.mpr ⟨lw_in 648 (by decide +kernel) rfl, List.forall_mem_cons.mpr ⟨lw_in 649 (by decide +kernel) rfl, List.forall_mem_cons.mpr ⟨lw_in 650 (by decide +kernel) rfl, List.forall_mem_cons.mpr ⟨lw_in 51 (by decide +kernel) rfl, List.forall_mem_cons.mpr ⟨lw_in 651 (by decide +kernel) rfl, fun w hw => absurd hw List.not_mem_nil⟩⟩⟩⟩⟩, by decide +kernel⟩
theorem cw_99_115 : CW [.methodLink RX99 115 yX9_over, .instanceMethod yX9_over, .selects yX9_over.cls yX9_over yX9_over, .initialized yX9_over.cls, .code yX9_over cX9_over 9 (some .int)] yX9_over 5 := ⟨List.forall_mem_cons.mpr ⟨lw_in 1087 (by decide +kernel) rfl, List.forall_mem_cons.mpr ⟨lw_in 1088 (by decide +kernel) rfl, List.forall_mem_cons.mpr ⟨lw_in 1089 (by decide +kernel) rfl, List.forall_mem_cons.mpr ⟨lw_in 60 (by decide +kernel) rfl, List.forall_mem_cons.mpr ⟨lw_in 1090 (by decide +kernel) rfl, fun w hw => absurd hw List.not_mem_nil⟩⟩⟩⟩⟩, by decide +kernel⟩
theorem cw_99_116 : CW [.methodLink RX99 116 yX8_patterns, .instanceMethod yX8_patterns, .selects yX8_patterns.cls yX8_patterns yX8_patterns, .initialized yX8_patterns.cls, .code yX8_patterns cX8_patterns 7 (some .int)] yX8_patterns 1 := ⟨List.forall_mem_cons.mpr ⟨lw_in 652 (by decide +kernel) rfl, List.forall_mem_cons.mpr ⟨lw_in 653 (by decide +kernel) rfl, List.forall_mem_cons.mpr ⟨lw_in 654 (by decide +kernel) rfl, List.forall_mem_cons.mpr ⟨lw_in 51 (by decide +kernel) rfl, List.forall_mem_cons.mpr ⟨lw_in 655 (by decide +kernel) rfl, fun w hw => absurd hw List.not_mem_nil⟩⟩⟩⟩⟩, by decide +kernel⟩
theorem cw_99_119 : CW [.methodLink RX99 119 yX9_patterns, .instanceMethod yX9_patterns, .selects yX9_patterns.cls yX9_patterns yX9_patterns, .initialized yX9_patterns.cls, .code yX9_patterns cX9_patterns 7 (some .int)] yX9_patterns 1 := ⟨List.forall_mem_cons.mpr ⟨lw_in 1092 (by decide +kernel) rfl, List.forall_mem_cons.mpr ⟨lw_in 1093 (by decide +kernel) rfl, List.forall_mem_cons.mpr ⟨lw_in 1094 (by decide +kernel) rfl, List.forall_mem_cons.mpr ⟨lw_in 60 (by decide +kernel) rfl, List.forall_mem_cons.mpr ⟨lw_in 1095 (by decide +kernel) rfl, fun w hw => absurd hw List.not_mem_nil⟩⟩⟩⟩⟩, by decide +kernel⟩
theorem cw_99_120 : CW [.methodLink RX99 120 yX8_draws, .instanceMethod yX8_draws, .selects yX8_draws.cls yX8_draws yX8_draws, .initialized yX8_draws.cls, .code yX8_draws cX8_draws 8 (some .int)] yX8_draws 3 := ⟨List.forall_mem_cons.mpr ⟨lw_in 656 (by decide +kernel) rfl, List.forall_mem_cons.mpr ⟨lw_in 657 (by decide +kernel) rfl, List.forall_mem_cons.mpr ⟨lw_in 658 (by decide +kernel) rfl, List.forall_mem_cons.mpr ⟨lw_in 51 (by decide +kernel) rfl, List.forall_mem_cons.mpr ⟨lw_in 659 (by decide +kernel) rfl, fun w hw => absurd hw List.not_mem_nil⟩⟩⟩⟩⟩, by decide +kernel⟩
theorem cw_99_124 : CW [.methodLink RX99 124 yX9_draws, .instanceMethod yX9_draws, .selects yX9_draws.cls yX9_draws yX9_draws, .initialized yX9_draws.cls, .code yX9_draws cX9_draws 6 (some .int)] yX9_draws 3 := ⟨List.forall_mem_cons.mpr ⟨lw_in 1096 (by decide +kernel) rfl, List.forall_mem_cons.mpr ⟨lw_in 1097 (by decide +kernel) rfl, List.forall_mem_cons.mpr ⟨lw_in 1098 (by decide +kernel) rfl, List.forall_mem_cons.mpr ⟨lw_in 60 (by decide +kernel) rfl, List.forall_mem_cons.mpr ⟨lw_in 1099 (by decide +kernel) rfl, fun w hw => absurd hw List.not_mem_nil⟩⟩⟩⟩⟩, by decide +kernel⟩
theorem cw_99_125 : CW [.methodLink RX99 125 yX8_image, .instanceMethod yX8_image, .selects yX8_image.cls yX8_image yX8_image, .initialized yX8_image.cls, .code yX8_image cX8_image 3 (some .int)] yX8_image 1 := ⟨List.forall_mem_cons.mpr ⟨lw_in 667 (by decide +kernel) rfl, List.forall_mem_cons.mpr ⟨lw_in 668 (by decide +kernel) rfl, List.forall_mem_cons.mpr ⟨lw_in 669 (by decide +kernel) rfl, List.forall_mem_cons.mpr ⟨lw_in 51 (by decide +kernel) rfl, List.forall_mem_cons.mpr ⟨lw_in 670 (by decide +kernel) rfl, fun w hw => absurd hw List.not_mem_nil⟩⟩⟩⟩⟩, by decide +kernel⟩
theorem cw_99_128 : CW [.methodLink RX99 128 yX9_image, .instanceMethod yX9_image, .selects yX9_image.cls yX9_image yX9_image, .initialized yX9_image.cls, .code yX9_image cX9_image 2 (some .int)] yX9_image 1 := ⟨List.forall_mem_cons.mpr ⟨lw_in 1109 (by decide +kernel) rfl, List.forall_mem_cons.mpr ⟨lw_in 1110 (by decide +kernel) rfl, List.forall_mem_cons.mpr ⟨lw_in 1111 (by decide +kernel) rfl, List.forall_mem_cons.mpr ⟨lw_in 60 (by decide +kernel) rfl, List.forall_mem_cons.mpr ⟨lw_in 1112 (by decide +kernel) rfl, fun w hw => absurd hw List.not_mem_nil⟩⟩⟩⟩⟩, by decide +kernel⟩
theorem cw_99_129 : CW [.methodLink RX99 129 yX8_restore, .instanceMethod yX8_restore, .selects yX8_restore.cls yX8_restore yX8_restore, .initialized yX8_restore.cls, .code yX8_restore cX8_restore 3 (some .int)] yX8_restore 1 := ⟨List.forall_mem_cons.mpr ⟨lw_in 681 (by decide +kernel) rfl, List.forall_mem_cons.mpr ⟨lw_in 682 (by decide +kernel) rfl, List.forall_mem_cons.mpr ⟨lw_in 683 (by decide +kernel) rfl, List.forall_mem_cons.mpr ⟨lw_in 51 (by decide +kernel) rfl, List.forall_mem_cons.mpr ⟨lw_in 684 (by decide +kernel) rfl, fun w hw => absurd hw List.not_mem_nil⟩⟩⟩⟩⟩, by decide +kernel⟩
theorem cw_99_132 : CW [.methodLink RX99 132 yX9_restore, .instanceMethod yX9_restore, .selects yX9_restore.cls yX9_restore yX9_restore, .initialized yX9_restore.cls, .code yX9_restore cX9_restore 2 (some .int)] yX9_restore 1 := ⟨List.forall_mem_cons.mpr ⟨lw_in 1121 (by decide +kernel) rfl, List.forall_mem_cons.mpr ⟨lw_in 1122 (by decide +kernel) rfl, List.forall_mem_cons.mpr ⟨lw_in 1123 (by decide +kernel) rfl, List.forall_mem_cons.mpr ⟨lw_in 60 (by decide +kernel) rfl, List.forall_mem_cons.mpr ⟨lw_in 1124 (by decide +kernel) rfl, fun w hw => absurd hw List.not_mem_nil⟩⟩⟩⟩⟩, by decide +kernel⟩
theorem cw_99_133 : CW [.methodLink RX99 133 yX8_told, .instanceMethod yX8_told, .selects yX8_told.cls yX8_told yX8_told, .initialized yX8_told.cls, .code yX8_told cX8_told 2 (some .int)] yX8_told 1 := ⟨List.forall_mem_cons.mpr ⟨lw_in 685 (by decide +kernel) rfl, List.forall_mem_cons.mpr ⟨lw_in 686 (by decide +kernel) rfl, List.forall_mem_cons.mpr ⟨lw_in 687 (by decide +kernel) rfl, List.forall_mem_cons.mpr ⟨lw_in 51 (by decide +kernel) rfl, List.forall_mem_cons.mpr ⟨lw_in 688 (by decide +kernel) rfl, fun w hw => absurd hw List.not_mem_nil⟩⟩⟩⟩⟩, by decide +kernel⟩
theorem cw_99_136 : CW [.methodLink RX99 136 yX9_told, .instanceMethod yX9_told, .selects yX9_told.cls yX9_told yX9_told, .initialized yX9_told.cls, .code yX9_told cX9_told 2 (some .int)] yX9_told 1 := ⟨List.forall_mem_cons.mpr ⟨lw_in 1125 (by decide +kernel) rfl, List.forall_mem_cons.mpr ⟨lw_in 1126 (by decide +kernel) rfl, List.forall_mem_cons.mpr ⟨lw_in 1127 (by decide +kernel) rfl, List.forall_mem_cons.mpr ⟨lw_in 60 (by decide +kernel) rfl, List.forall_mem_cons.mpr ⟨lw_in 1128 (by decide +kernel) rfl, fun w hw => absurd hw List.not_mem_nil⟩⟩⟩⟩⟩, by decide +kernel⟩
def L_law_18 (L : Nat) (xs : Nat → Int32) : Nat → Int32 → Sto → Option (Int32 × Sto)
  | 0, _, _ => none
  | fuel + 1, v3, s =>
    if ((nI L) - (6 : Int32)) < v3 then
      some ((1 : Int32), s)
    else
      if inb v3 L then
      if ((xs v3.toNatClampNeg) &&& (31 : Int32)) = 0 then
        if inb (v3 + (1 : Int32)) L then
        bd2 (f8_facts 0 (xs (v3 + (1 : Int32)).toNatClampNeg) s) fun r5 s3 =>
        if inb (v3 + (1 : Int32)) L then
        bd2 (f9_facts 43 (xs (v3 + (1 : Int32)).toNatClampNeg) s3) fun r9 s7 =>
        if r5 = r9 then
          L_law_18 L xs fuel (v3 + 6) s7
        else
          some ((0 : Int32), s7)
        else none
        else none
      else
      if ((xs v3.toNatClampNeg) &&& (31 : Int32)) = 1 then
        if inb (v3 + (1 : Int32)) L then
        if inb (v3 + (2 : Int32)) L then
        Option.bind (
          if (xs (v3 + (2 : Int32)).toNatClampNeg) = 0 then
            some (0 : Int32)
          else
            some (1 : Int32))
        fun x14 =>
        bd2 (f8_fact 0 (xs (v3 + (1 : Int32)).toNatClampNeg) x14 s) fun r17 s15 =>
        if inb (v3 + (1 : Int32)) L then
        if inb (v3 + (2 : Int32)) L then
        Option.bind (
          if (xs (v3 + (2 : Int32)).toNatClampNeg) = 0 then
            some (0 : Int32)
          else
            some (1 : Int32))
        fun x21 =>
        bd2 (f9_fact 43 (xs (v3 + (1 : Int32)).toNatClampNeg) x21 s15) fun r24 s22 =>
        if r17 = r24 then
          L_law_18 L xs fuel (v3 + 6) s22
        else
          some ((0 : Int32), s22)
        else none
        else none
        else none
        else none
      else
      if ((xs v3.toNatClampNeg) &&& (31 : Int32)) = 2 then
        if inb (v3 + (1 : Int32)) L then
        if inb (v3 + (2 : Int32)) L then
        bd2 (f8_temper 0 (xs (v3 + (1 : Int32)).toNatClampNeg) (xs (v3 + (2 : Int32)).toNatClampNeg) s) fun r32 s30 =>
        if inb (v3 + (1 : Int32)) L then
        if inb (v3 + (2 : Int32)) L then
        bd2 (f9_temper 43 (xs (v3 + (1 : Int32)).toNatClampNeg) (xs (v3 + (2 : Int32)).toNatClampNeg) s30) fun r37 s35 =>
        if r32 = r37 then
          L_law_18 L xs fuel (v3 + 6) s35
        else
          some ((0 : Int32), s35)
        else none
        else none
        else none
        else none
      else
      if ((xs v3.toNatClampNeg) &&& (31 : Int32)) = 3 then
        if inb (v3 + (1 : Int32)) L then
        bd2 (f8_width 0 (xs (v3 + (1 : Int32)).toNatClampNeg) s) fun r42 s40 =>
        if inb (v3 + (1 : Int32)) L then
        bd2 (f9_width 43 (xs (v3 + (1 : Int32)).toNatClampNeg) s40) fun r46 s44 =>
        if r42 = r46 then
          L_law_18 L xs fuel (v3 + 6) s44
        else
          some ((0 : Int32), s44)
        else none
        else none
      else
      if ((xs v3.toNatClampNeg) &&& (31 : Int32)) = 4 then
        if inb (v3 + (1 : Int32)) L then
        bd2 (f8_say 0 (xs (v3 + (1 : Int32)).toNatClampNeg) s) fun r51 s49 =>
        if inb (v3 + (1 : Int32)) L then
        bd2 (f9_say 43 (xs (v3 + (1 : Int32)).toNatClampNeg) s49) fun r55 s53 =>
        if r51 = r55 then
          L_law_18 L xs fuel (v3 + 6) s53
        else
          some ((0 : Int32), s53)
        else none
        else none
      else
      if ((xs v3.toNatClampNeg) &&& (31 : Int32)) = 5 then
        bd2 (f8_wipe 0 s) fun r59 s57 =>
        bd2 (f9_wipe 43 s57) fun r62 s60 =>
        if r59 = r62 then
          L_law_18 L xs fuel (v3 + 6) s60
        else
          some ((0 : Int32), s60)
      else
      if ((xs v3.toNatClampNeg) &&& (31 : Int32)) = 6 then
        if inb (v3 + (1 : Int32)) L then
        bd2 (f8_fault 0 (xs (v3 + (1 : Int32)).toNatClampNeg) s) fun r67 s65 =>
        if inb (v3 + (1 : Int32)) L then
        bd2 (f9_fault 43 (xs (v3 + (1 : Int32)).toNatClampNeg) s65) fun r71 s69 =>
        if r67 = r71 then
          L_law_18 L xs fuel (v3 + 6) s69
        else
          some ((0 : Int32), s69)
        else none
        else none
      else
      if ((xs v3.toNatClampNeg) &&& (31 : Int32)) = 7 then
        if inb (v3 + (1 : Int32)) L then
        bd2 (f8_judge 0 (xs (v3 + (1 : Int32)).toNatClampNeg) s) fun r76 s74 =>
        if inb (v3 + (1 : Int32)) L then
        bd2 (f9_judge 43 (xs (v3 + (1 : Int32)).toNatClampNeg) s74) fun r80 s78 =>
        if r76 = r80 then
          L_law_18 L xs fuel (v3 + 6) s78
        else
          some ((0 : Int32), s78)
        else none
        else none
      else
      if ((xs v3.toNatClampNeg) &&& (31 : Int32)) = 8 then
        if inb (v3 + (1 : Int32)) L then
        bd2 (f8_behind 0 (xs (v3 + (1 : Int32)).toNatClampNeg) s) fun r85 s83 =>
        if inb (v3 + (1 : Int32)) L then
        bd2 (f9_behind 43 (xs (v3 + (1 : Int32)).toNatClampNeg) s83) fun r89 s87 =>
        if r85 = r89 then
          L_law_18 L xs fuel (v3 + 6) s87
        else
          some ((0 : Int32), s87)
        else none
        else none
      else
      if ((xs v3.toNatClampNeg) &&& (31 : Int32)) = 9 then
        if inb (v3 + (1 : Int32)) L then
        if inb (v3 + (2 : Int32)) L then
        bd2 (f8_row 0 (xs (v3 + (1 : Int32)).toNatClampNeg) (xs (v3 + (2 : Int32)).toNatClampNeg) s) fun r95 s93 =>
        if inb (v3 + (1 : Int32)) L then
        if inb (v3 + (2 : Int32)) L then
        bd2 (f9_row 43 (xs (v3 + (1 : Int32)).toNatClampNeg) (xs (v3 + (2 : Int32)).toNatClampNeg) s93) fun r100 s98 =>
        if r95 = r100 then
          L_law_18 L xs fuel (v3 + 6) s98
        else
          some ((0 : Int32), s98)
        else none
        else none
        else none
        else none
      else
      if ((xs v3.toNatClampNeg) &&& (31 : Int32)) = 10 then
        if inb (v3 + (1 : Int32)) L then
        bd2 (f8_lost 0 (xs (v3 + (1 : Int32)).toNatClampNeg) s) fun r105 s103 =>
        if inb (v3 + (1 : Int32)) L then
        bd2 (f9_lost 43 (xs (v3 + (1 : Int32)).toNatClampNeg) s103) fun r109 s107 =>
        if r105 = r109 then
          L_law_18 L xs fuel (v3 + 6) s107
        else
          some ((0 : Int32), s107)
        else none
        else none
      else
      if ((xs v3.toNatClampNeg) &&& (31 : Int32)) = 11 then
        bd2 (f8_done 0 s) fun r113 s111 =>
        bd2 (f9_done 43 s111) fun r116 s114 =>
        if r113 = r116 then
          L_law_18 L xs fuel (v3 + 6) s114
        else
          some ((0 : Int32), s114)
      else
      if ((xs v3.toNatClampNeg) &&& (31 : Int32)) = 12 then
        if inb (v3 + (1 : Int32)) L then
        if inb (v3 + (2 : Int32)) L then
        bd2 (f8_state 0 (xs (v3 + (1 : Int32)).toNatClampNeg) (xs (v3 + (2 : Int32)).toNatClampNeg) s) fun r122 s120 =>
        if inb (v3 + (1 : Int32)) L then
        if inb (v3 + (2 : Int32)) L then
        bd2 (f9_state 43 (xs (v3 + (1 : Int32)).toNatClampNeg) (xs (v3 + (2 : Int32)).toNatClampNeg) s120) fun r127 s125 =>
        if r122 = r127 then
          L_law_18 L xs fuel (v3 + 6) s125
        else
          some ((0 : Int32), s125)
        else none
        else none
        else none
        else none
      else
      if ((xs v3.toNatClampNeg) &&& (31 : Int32)) = 13 then
        bd2 (f8_made 0 s) fun r131 s129 =>
        bd2 (f9_made 43 s129) fun r134 s132 =>
        if r131 = r134 then
          L_law_18 L xs fuel (v3 + 6) s132
        else
          some ((0 : Int32), s132)
      else
      if ((xs v3.toNatClampNeg) &&& (31 : Int32)) = 14 then
        bd2 (f8_bars 0 s) fun r138 s136 =>
        bd2 (f9_bars 43 s136) fun r141 s139 =>
        if r138 = r141 then
          L_law_18 L xs fuel (v3 + 6) s139
        else
          some ((0 : Int32), s139)
      else
      if ((xs v3.toNatClampNeg) &&& (31 : Int32)) = 15 then
        if inb (v3 + (1 : Int32)) L then
        if inb (v3 + (2 : Int32)) L then
        bd2 (f8_seen 0 (xs (v3 + (1 : Int32)).toNatClampNeg) (xs (v3 + (2 : Int32)).toNatClampNeg) s) fun r147 s145 =>
        if inb (v3 + (1 : Int32)) L then
        if inb (v3 + (2 : Int32)) L then
        bd2 (f9_seen 43 (xs (v3 + (1 : Int32)).toNatClampNeg) (xs (v3 + (2 : Int32)).toNatClampNeg) s145) fun r152 s150 =>
        if r147 = r152 then
          L_law_18 L xs fuel (v3 + 6) s150
        else
          some ((0 : Int32), s150)
        else none
        else none
        else none
        else none
      else
      if ((xs v3.toNatClampNeg) &&& (31 : Int32)) = 16 then
        bd2 (f8_forget 0 s) fun r156 s154 =>
        bd2 (f9_forget 43 s154) fun r159 s157 =>
        if r156 = r159 then
          L_law_18 L xs fuel (v3 + 6) s157
        else
          some ((0 : Int32), s157)
      else
      if ((xs v3.toNatClampNeg) &&& (31 : Int32)) = 17 then
        if inb (v3 + (1 : Int32)) L then
        bd2 (f8_worlds 0 (xs (v3 + (1 : Int32)).toNatClampNeg) s) fun r164 s162 =>
        if inb (v3 + (1 : Int32)) L then
        bd2 (f9_worlds 43 (xs (v3 + (1 : Int32)).toNatClampNeg) s162) fun r168 s166 =>
        if r164 = r168 then
          L_law_18 L xs fuel (v3 + 6) s166
        else
          some ((0 : Int32), s166)
        else none
        else none
      else
      if ((xs v3.toNatClampNeg) &&& (31 : Int32)) = 18 then
        if inb (v3 + (1 : Int32)) L then
        bd2 (f8_tell 0 (xs (v3 + (1 : Int32)).toNatClampNeg) s) fun r173 s171 =>
        if inb (v3 + (1 : Int32)) L then
        bd2 (f9_tell 43 (xs (v3 + (1 : Int32)).toNatClampNeg) s171) fun r177 s175 =>
        if r173 = r177 then
          L_law_18 L xs fuel (v3 + 6) s175
        else
          some ((0 : Int32), s175)
        else none
        else none
      else
      if ((xs v3.toNatClampNeg) &&& (31 : Int32)) = 19 then
        if inb (v3 + (1 : Int32)) L then
        bd2 (f8_says 0 (xs (v3 + (1 : Int32)).toNatClampNeg) s) fun r182 s180 =>
        if inb (v3 + (1 : Int32)) L then
        bd2 (f9_says 43 (xs (v3 + (1 : Int32)).toNatClampNeg) s180) fun r186 s184 =>
        if r182 = r186 then
          L_law_18 L xs fuel (v3 + 6) s184
        else
          some ((0 : Int32), s184)
        else none
        else none
      else
      if ((xs v3.toNatClampNeg) &&& (31 : Int32)) = 20 then
        if inb (v3 + (1 : Int32)) L then
        if inb (v3 + (2 : Int32)) L then
        if inb (v3 + (3 : Int32)) L then
        if inb (v3 + (4 : Int32)) L then
        bd2 (f8_orders 0 (xs (v3 + (1 : Int32)).toNatClampNeg) (xs (v3 + (2 : Int32)).toNatClampNeg) (xs (v3 + (3 : Int32)).toNatClampNeg) (xs (v3 + (4 : Int32)).toNatClampNeg) s) fun r194 s192 =>
        if inb (v3 + (1 : Int32)) L then
        if inb (v3 + (2 : Int32)) L then
        if inb (v3 + (3 : Int32)) L then
        if inb (v3 + (4 : Int32)) L then
        bd2 (f9_orders 43 (xs (v3 + (1 : Int32)).toNatClampNeg) (xs (v3 + (2 : Int32)).toNatClampNeg) (xs (v3 + (3 : Int32)).toNatClampNeg) (xs (v3 + (4 : Int32)).toNatClampNeg) s192) fun r201 s199 =>
        if (lg_cmp r194 r201) = 0 then
          L_law_18 L xs fuel (v3 + 6) s199
        else
          some ((0 : Int32), s199)
        else none
        else none
        else none
        else none
        else none
        else none
        else none
        else none
      else
      if ((xs v3.toNatClampNeg) &&& (31 : Int32)) = 21 then
        if inb (v3 + (1 : Int32)) L then
        if inb (v3 + (2 : Int32)) L then
        if inb (v3 + (3 : Int32)) L then
        if inb (v3 + (4 : Int32)) L then
        bd2 (f8_left 0 (xs (v3 + (1 : Int32)).toNatClampNeg) (xs (v3 + (2 : Int32)).toNatClampNeg) (xs (v3 + (3 : Int32)).toNatClampNeg) (xs (v3 + (4 : Int32)).toNatClampNeg) s) fun r209 s207 =>
        if inb (v3 + (1 : Int32)) L then
        if inb (v3 + (2 : Int32)) L then
        if inb (v3 + (3 : Int32)) L then
        if inb (v3 + (4 : Int32)) L then
        bd2 (f9_left 43 (xs (v3 + (1 : Int32)).toNatClampNeg) (xs (v3 + (2 : Int32)).toNatClampNeg) (xs (v3 + (3 : Int32)).toNatClampNeg) (xs (v3 + (4 : Int32)).toNatClampNeg) s207) fun r216 s214 =>
        if r209 = r216 then
          L_law_18 L xs fuel (v3 + 6) s214
        else
          some ((0 : Int32), s214)
        else none
        else none
        else none
        else none
        else none
        else none
        else none
        else none
      else
      if ((xs v3.toNatClampNeg) &&& (31 : Int32)) = 22 then
        if inb (v3 + (1 : Int32)) L then
        if inb (v3 + (2 : Int32)) L then
        if inb (v3 + (3 : Int32)) L then
        if inb (v3 + (4 : Int32)) L then
        bd2 (f8_chance 0 (xs (v3 + (1 : Int32)).toNatClampNeg) (xs (v3 + (2 : Int32)).toNatClampNeg) (xs (v3 + (3 : Int32)).toNatClampNeg) (xs (v3 + (4 : Int32)).toNatClampNeg) s) fun r224 s222 =>
        if inb (v3 + (1 : Int32)) L then
        if inb (v3 + (2 : Int32)) L then
        if inb (v3 + (3 : Int32)) L then
        if inb (v3 + (4 : Int32)) L then
        bd2 (f9_chance 43 (xs (v3 + (1 : Int32)).toNatClampNeg) (xs (v3 + (2 : Int32)).toNatClampNeg) (xs (v3 + (3 : Int32)).toNatClampNeg) (xs (v3 + (4 : Int32)).toNatClampNeg) s222) fun r231 s229 =>
        if (lg_cmp r224 r231) = 0 then
          L_law_18 L xs fuel (v3 + 6) s229
        else
          some ((0 : Int32), s229)
        else none
        else none
        else none
        else none
        else none
        else none
        else none
        else none
      else
      if ((xs v3.toNatClampNeg) &&& (31 : Int32)) = 23 then
        if inb (v3 + (1 : Int32)) L then
        if inb (v3 + (2 : Int32)) L then
        if inb (v3 + (3 : Int32)) L then
        if inb (v3 + (4 : Int32)) L then
        if inb (v3 + (5 : Int32)) L then
        bd2 (f8_over 0 (xs (v3 + (1 : Int32)).toNatClampNeg) (xs (v3 + (2 : Int32)).toNatClampNeg) (xs (v3 + (3 : Int32)).toNatClampNeg) (xs (v3 + (4 : Int32)).toNatClampNeg) (xs (v3 + (5 : Int32)).toNatClampNeg) s) fun r240 s238 =>
        if inb (v3 + (1 : Int32)) L then
        if inb (v3 + (2 : Int32)) L then
        if inb (v3 + (3 : Int32)) L then
        if inb (v3 + (4 : Int32)) L then
        if inb (v3 + (5 : Int32)) L then
        bd2 (f9_over 43 (xs (v3 + (1 : Int32)).toNatClampNeg) (xs (v3 + (2 : Int32)).toNatClampNeg) (xs (v3 + (3 : Int32)).toNatClampNeg) (xs (v3 + (4 : Int32)).toNatClampNeg) (xs (v3 + (5 : Int32)).toNatClampNeg) s238) fun r248 s246 =>
        if r240 = r248 then
          L_law_18 L xs fuel (v3 + 6) s246
        else
          some ((0 : Int32), s246)
        else none
        else none
        else none
        else none
        else none
        else none
        else none
        else none
        else none
        else none
      else
      if ((xs v3.toNatClampNeg) &&& (31 : Int32)) = 24 then
        if inb (v3 + (1 : Int32)) L then
        bd2 (f8_patterns 0 (xs (v3 + (1 : Int32)).toNatClampNeg) s) fun r253 s251 =>
        if inb (v3 + (1 : Int32)) L then
        bd2 (f9_patterns 43 (xs (v3 + (1 : Int32)).toNatClampNeg) s251) fun r257 s255 =>
        if r253 = r257 then
          L_law_18 L xs fuel (v3 + 6) s255
        else
          some ((0 : Int32), s255)
        else none
        else none
      else
      if ((xs v3.toNatClampNeg) &&& (31 : Int32)) = 25 then
        if inb (v3 + (1 : Int32)) L then
        if inb (v3 + (2 : Int32)) L then
        if inb (v3 + (3 : Int32)) L then
        bd2 (f8_draws 0 (xs (v3 + (1 : Int32)).toNatClampNeg) (xs (v3 + (2 : Int32)).toNatClampNeg) (xs (v3 + (3 : Int32)).toNatClampNeg) s) fun r264 s262 =>
        if inb (v3 + (1 : Int32)) L then
        if inb (v3 + (2 : Int32)) L then
        if inb (v3 + (3 : Int32)) L then
        bd2 (f9_draws 43 (xs (v3 + (1 : Int32)).toNatClampNeg) (xs (v3 + (2 : Int32)).toNatClampNeg) (xs (v3 + (3 : Int32)).toNatClampNeg) s262) fun r270 s268 =>
        if r264 = r270 then
          L_law_18 L xs fuel (v3 + 6) s268
        else
          some ((0 : Int32), s268)
        else none
        else none
        else none
        else none
        else none
        else none
      else
      if ((xs v3.toNatClampNeg) &&& (31 : Int32)) = 26 then
        if inb (v3 + (1 : Int32)) L then
        bd2 (f8_image 0 (xs (v3 + (1 : Int32)).toNatClampNeg) s) fun r275 s273 =>
        if inb (v3 + (1 : Int32)) L then
        bd2 (f9_image 43 (xs (v3 + (1 : Int32)).toNatClampNeg) s273) fun r279 s277 =>
        if r275 = r279 then
          L_law_18 L xs fuel (v3 + 6) s277
        else
          some ((0 : Int32), s277)
        else none
        else none
      else
      if ((xs v3.toNatClampNeg) &&& (31 : Int32)) = 27 then
        if inb (v3 + (1 : Int32)) L then
        bd2 (f8_restore 0 (xs (v3 + (1 : Int32)).toNatClampNeg) s) fun r284 s282 =>
        if inb (v3 + (1 : Int32)) L then
        bd2 (f9_restore 43 (xs (v3 + (1 : Int32)).toNatClampNeg) s282) fun r288 s286 =>
        if r284 = r288 then
          L_law_18 L xs fuel (v3 + 6) s286
        else
          some ((0 : Int32), s286)
        else none
        else none
      else
      if ((xs v3.toNatClampNeg) &&& (31 : Int32)) = 28 then
        if inb (v3 + (1 : Int32)) L then
        bd2 (f8_told 0 (xs (v3 + (1 : Int32)).toNatClampNeg) s) fun r293 s291 =>
        if inb (v3 + (1 : Int32)) L then
        bd2 (f9_told 43 (xs (v3 + (1 : Int32)).toNatClampNeg) s291) fun r297 s295 =>
        if r293 = r297 then
          L_law_18 L xs fuel (v3 + 6) s295
        else
          some ((0 : Int32), s295)
        else none
        else none
      else
      L_law_18 L xs fuel (v3 + 6) s
      else none
set_option maxRecDepth 20000 in
theorem WL_law_18 {φ : Fr} {ad : Nat → Nat} (X : Cx φ ad cL_law ret RX99 4 9 316)   {σ' : Sto} {b L : Nat} {xs : Nat → Int32} (hX : Sx φ b L xs) (hQ : FinL φ b) : ∀ (fuel : Nat) (v3 : Int32) (s : Sto), L_law_18 L xs fuel v3 s = some ((1 : Int32), σ') → wpm φ ad 18 [(0, .ref b), (1, .ref (ad 0)), (2, .ref (ad 43)), (3, .int v3)] [] s := by
  intro fuel
  induction fuel with
  | zero => intro v3 s h; cases h
  | succ fuel ih =>
    intro v3 s h
    unfold L_law_18 at h
    refine w_iload_n (pc := 18) X dL_law_18 3 rfl ?_
    refine w_aload_n (pc := 19) X dL_law_19 0 rfl ?_
    refine w_slen (pc := 20) X hX dL_law_20 ?_
    refine w_bipush (pc := 21) X dL_law_21 (v := (6)) rfl ?_
    refine w_isub (pc := 23) X dL_law_23 ?_
    refine w_icmp_gt (pc := 24) (tgt := 1005) X dL_law_24 (by decide) (fun c328 => ?_) (fun c328 => ?_)
    · replace h := it_pos c328 h
      refine w_iconst (pc := 1005) X dL_law_1005 (v := 1) rfl ?_
      exact w_lawret X hX hQ dL_law_1006
    · replace h := it_neg c328 h
      refine w_aload_n (pc := 27) X dL_law_27 0 rfl ?_
      refine w_iload_n (pc := 28) X dL_law_28 3 rfl ?_
      obtain ⟨g1, h⟩ := gd_inv h
      refine w_sld (pc := 29) X hX dL_law_29 g1 ?_
      refine w_bipush (pc := 30) X dL_law_30 (v := (31)) rfl ?_
      refine w_iand (pc := 32) X dL_law_32 ?_
      by_cases c299 : ((xs v3.toNatClampNeg) &&& (31 : Int32)) = 0
      · replace h := it_pos c299 h
        refine w_tswIn (pc := 33) (tgt := 164) X dL_law_33 c299 (by decide) (by decide) rfl (by decide) ?_
        refine w_aload_n (pc := 164) X dL_law_164 1 rfl ?_
        refine w_aload_n (pc := 165) X dL_law_165 0 rfl ?_
        refine w_iload_n (pc := 166) X dL_law_166 3 rfl ?_
        refine w_iconst (pc := 167) X dL_law_167 (v := 1) rfl ?_
        refine w_iadd (pc := 168) X dL_law_168 ?_
        obtain ⟨g2, h⟩ := gd_inv h
        refine w_sld (pc := 169) X hX dL_law_169 g2 ?_
        obtain ⟨r5, s3, h4, h⟩ := bd2_inv h
        refine w_callV (pc := 170) X dL_law_170 (M8_facts h4) k_x (by decide) rfl cw_99_13 ⟨Nat.le_of_ble_eq_true rfl, Nat.le_of_ble_eq_true rfl⟩ rfl rfl (Nat.le_of_ble_eq_true rfl) ?_
        show wpm φ ad 173 [(0, .ref b), (1, .ref (ad 0)), (2, .ref (ad 43)), (3, .int v3)] [.int r5] s3
        refine w_aload_n (pc := 173) X dL_law_173 2 rfl ?_
        refine w_aload_n (pc := 174) X dL_law_174 0 rfl ?_
        refine w_iload_n (pc := 175) X dL_law_175 3 rfl ?_
        refine w_iconst (pc := 176) X dL_law_176 (v := 1) rfl ?_
        refine w_iadd (pc := 177) X dL_law_177 ?_
        obtain ⟨g6, h⟩ := gd_inv h
        refine w_sld (pc := 178) X hX dL_law_178 g6 ?_
        obtain ⟨r9, s7, h8, h⟩ := bd2_inv h
        refine w_callV (pc := 179) X dL_law_179 (M9_facts h8) k_m (by decide) rfl cw_99_17 ⟨Nat.le_of_ble_eq_true rfl, Nat.le_of_ble_eq_true rfl⟩ rfl rfl (Nat.le_of_ble_eq_true rfl) ?_
        show wpm φ ad 182 [(0, .ref b), (1, .ref (ad 0)), (2, .ref (ad 43)), (3, .int v3)] [.int r9, .int r5] s7
        refine w_icmp_eq (pc := 182) (tgt := 999) X dL_law_182 (by decide) (fun c10 => ?_) (fun c10 => ?_)
        · replace h := it_pos c10 h
          refine w_iinc (pc := 999) X dL_law_999 3 rfl (v := (v3 + 6)) rfl (by decide) (lv' := [(3, .int (v3 + 6)), (0, .ref b), (1, .ref (ad 0)), (2, .ref (ad 43))]) rfl ?_
          refine w_goto (tgt := 18) (pc := 1002) X dL_law_1002 (by decide) ?_
          exact w_sub (pc := 18) [1, 2, 3, 0] rfl (ih _ _ h)
        · replace h := it_neg c10 h
          refine w_iconst (pc := 185) X dL_law_185 (v := 0) rfl ?_
          exact (law_no h).elim
      replace h := it_neg c299 h
      by_cases c300 : ((xs v3.toNatClampNeg) &&& (31 : Int32)) = 1
      · replace h := it_pos c300 h
        refine w_tswIn (pc := 33) (tgt := 187) X dL_law_33 c300 (by decide) (by decide) rfl (by decide) ?_
        refine w_aload_n (pc := 187) X dL_law_187 1 rfl ?_
        refine w_aload_n (pc := 188) X dL_law_188 0 rfl ?_
        refine w_iload_n (pc := 189) X dL_law_189 3 rfl ?_
        refine w_iconst (pc := 190) X dL_law_190 (v := 1) rfl ?_
        refine w_iadd (pc := 191) X dL_law_191 ?_
        obtain ⟨g11, h⟩ := gd_inv h
        refine w_sld (pc := 192) X hX dL_law_192 g11 ?_
        refine w_aload_n (pc := 193) X dL_law_193 0 rfl ?_
        refine w_iload_n (pc := 194) X dL_law_194 3 rfl ?_
        refine w_iconst (pc := 195) X dL_law_195 (v := 2) rfl ?_
        refine w_iadd (pc := 196) X dL_law_196 ?_
        obtain ⟨g12, h⟩ := gd_inv h
        refine w_sld (pc := 197) X hX dL_law_197 g12 ?_
        obtain ⟨x14, h27, h⟩ := bd1_inv h
        have K198 : wpm φ ad 206 [(0, .ref b), (1, .ref (ad 0)), (2, .ref (ad 43)), (3, .int v3)] [.int x14, .int (xs (v3 + (1 : Int32)).toNatClampNeg), .ref (ad 0)] s := by
          obtain ⟨r17, s15, h16, h⟩ := bd2_inv h
          refine w_callV (pc := 206) X dL_law_206 (M8_fact h16) k_x (by decide) rfl cw_99_18 ⟨Nat.le_of_ble_eq_true rfl, Nat.le_of_ble_eq_true rfl⟩ rfl rfl (Nat.le_of_ble_eq_true rfl) ?_
          show wpm φ ad 209 [(0, .ref b), (1, .ref (ad 0)), (2, .ref (ad 43)), (3, .int v3)] [.int r17] s15
          refine w_aload_n (pc := 209) X dL_law_209 2 rfl ?_
          refine w_aload_n (pc := 210) X dL_law_210 0 rfl ?_
          refine w_iload_n (pc := 211) X dL_law_211 3 rfl ?_
          refine w_iconst (pc := 212) X dL_law_212 (v := 1) rfl ?_
          refine w_iadd (pc := 213) X dL_law_213 ?_
          obtain ⟨g18, h⟩ := gd_inv h
          refine w_sld (pc := 214) X hX dL_law_214 g18 ?_
          refine w_aload_n (pc := 215) X dL_law_215 0 rfl ?_
          refine w_iload_n (pc := 216) X dL_law_216 3 rfl ?_
          refine w_iconst (pc := 217) X dL_law_217 (v := 2) rfl ?_
          refine w_iadd (pc := 218) X dL_law_218 ?_
          obtain ⟨g19, h⟩ := gd_inv h
          refine w_sld (pc := 219) X hX dL_law_219 g19 ?_
          obtain ⟨x21, h26, h⟩ := bd1_inv h
          have K220 : wpm φ ad 228 [(0, .ref b), (1, .ref (ad 0)), (2, .ref (ad 43)), (3, .int v3)] [.int x21, .int (xs (v3 + (1 : Int32)).toNatClampNeg), .ref (ad 43), .int r17] s15 := by
            obtain ⟨r24, s22, h23, h⟩ := bd2_inv h
            refine w_callV (pc := 228) X dL_law_228 (M9_fact h23) k_m (by decide) rfl cw_99_22 ⟨Nat.le_of_ble_eq_true rfl, Nat.le_of_ble_eq_true rfl⟩ rfl rfl (Nat.le_of_ble_eq_true rfl) ?_
            show wpm φ ad 231 [(0, .ref b), (1, .ref (ad 0)), (2, .ref (ad 43)), (3, .int v3)] [.int r24, .int r17] s22
            refine w_icmp_eq (pc := 231) (tgt := 999) X dL_law_231 (by decide) (fun c25 => ?_) (fun c25 => ?_)
            · replace h := it_pos c25 h
              refine w_iinc (pc := 999) X dL_law_999 3 rfl (v := (v3 + 6)) rfl (by decide) (lv' := [(3, .int (v3 + 6)), (0, .ref b), (1, .ref (ad 0)), (2, .ref (ad 43))]) rfl ?_
              refine w_goto (tgt := 18) (pc := 1002) X dL_law_1002 (by decide) ?_
              exact w_sub (pc := 18) [1, 2, 3, 0] rfl (ih _ _ h)
            · replace h := it_neg c25 h
              refine w_iconst (pc := 234) X dL_law_234 (v := 0) rfl ?_
              exact (law_no h).elim
          clear h
          have h := h26
          clear h26
          refine w_if_eq (pc := 220) (tgt := 227) X dL_law_220 (by decide) (fun c20 => ?_) (fun c20 => ?_)
          · replace h := it_pos c20 h
            refine w_iconst (pc := 227) X dL_law_227 (v := 0) rfl ?_
            cases h
            exact w_sub (pc := 228) [0, 1, 2, 3] rfl K220
          · replace h := it_neg c20 h
            refine w_iconst (pc := 223) X dL_law_223 (v := 1) rfl ?_
            refine w_goto (tgt := 228) (pc := 224) X dL_law_224 (by decide) ?_
            cases h
            exact w_sub (pc := 228) [0, 1, 2, 3] rfl K220
        clear h
        have h := h27
        clear h27
        refine w_if_eq (pc := 198) (tgt := 205) X dL_law_198 (by decide) (fun c13 => ?_) (fun c13 => ?_)
        · replace h := it_pos c13 h
          refine w_iconst (pc := 205) X dL_law_205 (v := 0) rfl ?_
          cases h
          exact w_sub (pc := 206) [0, 1, 2, 3] rfl K198
        · replace h := it_neg c13 h
          refine w_iconst (pc := 201) X dL_law_201 (v := 1) rfl ?_
          refine w_goto (tgt := 206) (pc := 202) X dL_law_202 (by decide) ?_
          cases h
          exact w_sub (pc := 206) [0, 1, 2, 3] rfl K198
      replace h := it_neg c300 h
      by_cases c301 : ((xs v3.toNatClampNeg) &&& (31 : Int32)) = 2
      · replace h := it_pos c301 h
        refine w_tswIn (pc := 33) (tgt := 236) X dL_law_33 c301 (by decide) (by decide) rfl (by decide) ?_
        refine w_aload_n (pc := 236) X dL_law_236 1 rfl ?_
        refine w_aload_n (pc := 237) X dL_law_237 0 rfl ?_
        refine w_iload_n (pc := 238) X dL_law_238 3 rfl ?_
        refine w_iconst (pc := 239) X dL_law_239 (v := 1) rfl ?_
        refine w_iadd (pc := 240) X dL_law_240 ?_
        obtain ⟨g28, h⟩ := gd_inv h
        refine w_sld (pc := 241) X hX dL_law_241 g28 ?_
        refine w_aload_n (pc := 242) X dL_law_242 0 rfl ?_
        refine w_iload_n (pc := 243) X dL_law_243 3 rfl ?_
        refine w_iconst (pc := 244) X dL_law_244 (v := 2) rfl ?_
        refine w_iadd (pc := 245) X dL_law_245 ?_
        obtain ⟨g29, h⟩ := gd_inv h
        refine w_sld (pc := 246) X hX dL_law_246 g29 ?_
        obtain ⟨r32, s30, h31, h⟩ := bd2_inv h
        refine w_callV (pc := 247) X dL_law_247 (M8_temper h31) k_x (by decide) rfl cw_99_23 ⟨Nat.le_of_ble_eq_true rfl, Nat.le_of_ble_eq_true rfl⟩ rfl rfl (Nat.le_of_ble_eq_true rfl) ?_
        show wpm φ ad 250 [(0, .ref b), (1, .ref (ad 0)), (2, .ref (ad 43)), (3, .int v3)] [.int r32] s30
        refine w_aload_n (pc := 250) X dL_law_250 2 rfl ?_
        refine w_aload_n (pc := 251) X dL_law_251 0 rfl ?_
        refine w_iload_n (pc := 252) X dL_law_252 3 rfl ?_
        refine w_iconst (pc := 253) X dL_law_253 (v := 1) rfl ?_
        refine w_iadd (pc := 254) X dL_law_254 ?_
        obtain ⟨g33, h⟩ := gd_inv h
        refine w_sld (pc := 255) X hX dL_law_255 g33 ?_
        refine w_aload_n (pc := 256) X dL_law_256 0 rfl ?_
        refine w_iload_n (pc := 257) X dL_law_257 3 rfl ?_
        refine w_iconst (pc := 258) X dL_law_258 (v := 2) rfl ?_
        refine w_iadd (pc := 259) X dL_law_259 ?_
        obtain ⟨g34, h⟩ := gd_inv h
        refine w_sld (pc := 260) X hX dL_law_260 g34 ?_
        obtain ⟨r37, s35, h36, h⟩ := bd2_inv h
        refine w_callV (pc := 261) X dL_law_261 (M9_temper h36) k_m (by decide) rfl cw_99_27 ⟨Nat.le_of_ble_eq_true rfl, Nat.le_of_ble_eq_true rfl⟩ rfl rfl (Nat.le_of_ble_eq_true rfl) ?_
        show wpm φ ad 264 [(0, .ref b), (1, .ref (ad 0)), (2, .ref (ad 43)), (3, .int v3)] [.int r37, .int r32] s35
        refine w_icmp_eq (pc := 264) (tgt := 999) X dL_law_264 (by decide) (fun c38 => ?_) (fun c38 => ?_)
        · replace h := it_pos c38 h
          refine w_iinc (pc := 999) X dL_law_999 3 rfl (v := (v3 + 6)) rfl (by decide) (lv' := [(3, .int (v3 + 6)), (0, .ref b), (1, .ref (ad 0)), (2, .ref (ad 43))]) rfl ?_
          refine w_goto (tgt := 18) (pc := 1002) X dL_law_1002 (by decide) ?_
          exact w_sub (pc := 18) [1, 2, 3, 0] rfl (ih _ _ h)
        · replace h := it_neg c38 h
          refine w_iconst (pc := 267) X dL_law_267 (v := 0) rfl ?_
          exact (law_no h).elim
      replace h := it_neg c301 h
      by_cases c302 : ((xs v3.toNatClampNeg) &&& (31 : Int32)) = 3
      · replace h := it_pos c302 h
        refine w_tswIn (pc := 33) (tgt := 269) X dL_law_33 c302 (by decide) (by decide) rfl (by decide) ?_
        refine w_aload_n (pc := 269) X dL_law_269 1 rfl ?_
        refine w_aload_n (pc := 270) X dL_law_270 0 rfl ?_
        refine w_iload_n (pc := 271) X dL_law_271 3 rfl ?_
        refine w_iconst (pc := 272) X dL_law_272 (v := 1) rfl ?_
        refine w_iadd (pc := 273) X dL_law_273 ?_
        obtain ⟨g39, h⟩ := gd_inv h
        refine w_sld (pc := 274) X hX dL_law_274 g39 ?_
        obtain ⟨r42, s40, h41, h⟩ := bd2_inv h
        refine w_callV (pc := 275) X dL_law_275 (M8_width h41) k_x (by decide) rfl cw_99_28 ⟨Nat.le_of_ble_eq_true rfl, Nat.le_of_ble_eq_true rfl⟩ rfl rfl (Nat.le_of_ble_eq_true rfl) ?_
        show wpm φ ad 278 [(0, .ref b), (1, .ref (ad 0)), (2, .ref (ad 43)), (3, .int v3)] [.int r42] s40
        refine w_aload_n (pc := 278) X dL_law_278 2 rfl ?_
        refine w_aload_n (pc := 279) X dL_law_279 0 rfl ?_
        refine w_iload_n (pc := 280) X dL_law_280 3 rfl ?_
        refine w_iconst (pc := 281) X dL_law_281 (v := 1) rfl ?_
        refine w_iadd (pc := 282) X dL_law_282 ?_
        obtain ⟨g43, h⟩ := gd_inv h
        refine w_sld (pc := 283) X hX dL_law_283 g43 ?_
        obtain ⟨r46, s44, h45, h⟩ := bd2_inv h
        refine w_callV (pc := 284) X dL_law_284 (M9_width h45) k_m (by decide) rfl cw_99_31 ⟨Nat.le_of_ble_eq_true rfl, Nat.le_of_ble_eq_true rfl⟩ rfl rfl (Nat.le_of_ble_eq_true rfl) ?_
        show wpm φ ad 287 [(0, .ref b), (1, .ref (ad 0)), (2, .ref (ad 43)), (3, .int v3)] [.int r46, .int r42] s44
        refine w_icmp_eq (pc := 287) (tgt := 999) X dL_law_287 (by decide) (fun c47 => ?_) (fun c47 => ?_)
        · replace h := it_pos c47 h
          refine w_iinc (pc := 999) X dL_law_999 3 rfl (v := (v3 + 6)) rfl (by decide) (lv' := [(3, .int (v3 + 6)), (0, .ref b), (1, .ref (ad 0)), (2, .ref (ad 43))]) rfl ?_
          refine w_goto (tgt := 18) (pc := 1002) X dL_law_1002 (by decide) ?_
          exact w_sub (pc := 18) [1, 2, 3, 0] rfl (ih _ _ h)
        · replace h := it_neg c47 h
          refine w_iconst (pc := 290) X dL_law_290 (v := 0) rfl ?_
          exact (law_no h).elim
      replace h := it_neg c302 h
      by_cases c303 : ((xs v3.toNatClampNeg) &&& (31 : Int32)) = 4
      · replace h := it_pos c303 h
        refine w_tswIn (pc := 33) (tgt := 292) X dL_law_33 c303 (by decide) (by decide) rfl (by decide) ?_
        refine w_aload_n (pc := 292) X dL_law_292 1 rfl ?_
        refine w_aload_n (pc := 293) X dL_law_293 0 rfl ?_
        refine w_iload_n (pc := 294) X dL_law_294 3 rfl ?_
        refine w_iconst (pc := 295) X dL_law_295 (v := 1) rfl ?_
        refine w_iadd (pc := 296) X dL_law_296 ?_
        obtain ⟨g48, h⟩ := gd_inv h
        refine w_sld (pc := 297) X hX dL_law_297 g48 ?_
        obtain ⟨r51, s49, h50, h⟩ := bd2_inv h
        refine w_callV (pc := 298) X dL_law_298 (M8_say h50) k_x (by decide) rfl cw_99_32 ⟨Nat.le_of_ble_eq_true rfl, Nat.le_of_ble_eq_true rfl⟩ rfl rfl (Nat.le_of_ble_eq_true rfl) ?_
        show wpm φ ad 301 [(0, .ref b), (1, .ref (ad 0)), (2, .ref (ad 43)), (3, .int v3)] [.int r51] s49
        refine w_aload_n (pc := 301) X dL_law_301 2 rfl ?_
        refine w_aload_n (pc := 302) X dL_law_302 0 rfl ?_
        refine w_iload_n (pc := 303) X dL_law_303 3 rfl ?_
        refine w_iconst (pc := 304) X dL_law_304 (v := 1) rfl ?_
        refine w_iadd (pc := 305) X dL_law_305 ?_
        obtain ⟨g52, h⟩ := gd_inv h
        refine w_sld (pc := 306) X hX dL_law_306 g52 ?_
        obtain ⟨r55, s53, h54, h⟩ := bd2_inv h
        refine w_callV (pc := 307) X dL_law_307 (M9_say h54) k_m (by decide) rfl cw_99_35 ⟨Nat.le_of_ble_eq_true rfl, Nat.le_of_ble_eq_true rfl⟩ rfl rfl (Nat.le_of_ble_eq_true rfl) ?_
        show wpm φ ad 310 [(0, .ref b), (1, .ref (ad 0)), (2, .ref (ad 43)), (3, .int v3)] [.int r55, .int r51] s53
        refine w_icmp_eq (pc := 310) (tgt := 999) X dL_law_310 (by decide) (fun c56 => ?_) (fun c56 => ?_)
        · replace h := it_pos c56 h
          refine w_iinc (pc := 999) X dL_law_999 3 rfl (v := (v3 + 6)) rfl (by decide) (lv' := [(3, .int (v3 + 6)), (0, .ref b), (1, .ref (ad 0)), (2, .ref (ad 43))]) rfl ?_
          refine w_goto (tgt := 18) (pc := 1002) X dL_law_1002 (by decide) ?_
          exact w_sub (pc := 18) [1, 2, 3, 0] rfl (ih _ _ h)
        · replace h := it_neg c56 h
          refine w_iconst (pc := 313) X dL_law_313 (v := 0) rfl ?_
          exact (law_no h).elim
      replace h := it_neg c303 h
      by_cases c304 : ((xs v3.toNatClampNeg) &&& (31 : Int32)) = 5
      · replace h := it_pos c304 h
        refine w_tswIn (pc := 33) (tgt := 315) X dL_law_33 c304 (by decide) (by decide) rfl (by decide) ?_
        refine w_aload_n (pc := 315) X dL_law_315 1 rfl ?_
        obtain ⟨r59, s57, h58, h⟩ := bd2_inv h
        refine w_callV (pc := 316) X dL_law_316 (M8_wipe h58) k_x (by decide) rfl cw_99_36 ⟨Nat.le_of_ble_eq_true rfl, Nat.le_of_ble_eq_true rfl⟩ rfl rfl (Nat.le_of_ble_eq_true rfl) ?_
        show wpm φ ad 319 [(0, .ref b), (1, .ref (ad 0)), (2, .ref (ad 43)), (3, .int v3)] [.int r59] s57
        refine w_aload_n (pc := 319) X dL_law_319 2 rfl ?_
        obtain ⟨r62, s60, h61, h⟩ := bd2_inv h
        refine w_callV (pc := 320) X dL_law_320 (M9_wipe h61) k_m (by decide) rfl cw_99_40 ⟨Nat.le_of_ble_eq_true rfl, Nat.le_of_ble_eq_true rfl⟩ rfl rfl (Nat.le_of_ble_eq_true rfl) ?_
        show wpm φ ad 323 [(0, .ref b), (1, .ref (ad 0)), (2, .ref (ad 43)), (3, .int v3)] [.int r62, .int r59] s60
        refine w_icmp_eq (pc := 323) (tgt := 999) X dL_law_323 (by decide) (fun c63 => ?_) (fun c63 => ?_)
        · replace h := it_pos c63 h
          refine w_iinc (pc := 999) X dL_law_999 3 rfl (v := (v3 + 6)) rfl (by decide) (lv' := [(3, .int (v3 + 6)), (0, .ref b), (1, .ref (ad 0)), (2, .ref (ad 43))]) rfl ?_
          refine w_goto (tgt := 18) (pc := 1002) X dL_law_1002 (by decide) ?_
          exact w_sub (pc := 18) [1, 2, 3, 0] rfl (ih _ _ h)
        · replace h := it_neg c63 h
          refine w_iconst (pc := 326) X dL_law_326 (v := 0) rfl ?_
          exact (law_no h).elim
      replace h := it_neg c304 h
      by_cases c305 : ((xs v3.toNatClampNeg) &&& (31 : Int32)) = 6
      · replace h := it_pos c305 h
        refine w_tswIn (pc := 33) (tgt := 328) X dL_law_33 c305 (by decide) (by decide) rfl (by decide) ?_
        refine w_aload_n (pc := 328) X dL_law_328 1 rfl ?_
        refine w_aload_n (pc := 329) X dL_law_329 0 rfl ?_
        refine w_iload_n (pc := 330) X dL_law_330 3 rfl ?_
        refine w_iconst (pc := 331) X dL_law_331 (v := 1) rfl ?_
        refine w_iadd (pc := 332) X dL_law_332 ?_
        obtain ⟨g64, h⟩ := gd_inv h
        refine w_sld (pc := 333) X hX dL_law_333 g64 ?_
        obtain ⟨r67, s65, h66, h⟩ := bd2_inv h
        refine w_callV (pc := 334) X dL_law_334 (M8_fault h66) k_x (by decide) rfl cw_99_41 ⟨Nat.le_of_ble_eq_true rfl, Nat.le_of_ble_eq_true rfl⟩ rfl rfl (Nat.le_of_ble_eq_true rfl) ?_
        show wpm φ ad 337 [(0, .ref b), (1, .ref (ad 0)), (2, .ref (ad 43)), (3, .int v3)] [.int r67] s65
        refine w_aload_n (pc := 337) X dL_law_337 2 rfl ?_
        refine w_aload_n (pc := 338) X dL_law_338 0 rfl ?_
        refine w_iload_n (pc := 339) X dL_law_339 3 rfl ?_
        refine w_iconst (pc := 340) X dL_law_340 (v := 1) rfl ?_
        refine w_iadd (pc := 341) X dL_law_341 ?_
        obtain ⟨g68, h⟩ := gd_inv h
        refine w_sld (pc := 342) X hX dL_law_342 g68 ?_
        obtain ⟨r71, s69, h70, h⟩ := bd2_inv h
        refine w_callV (pc := 343) X dL_law_343 (M9_fault h70) k_m (by decide) rfl cw_99_44 ⟨Nat.le_of_ble_eq_true rfl, Nat.le_of_ble_eq_true rfl⟩ rfl rfl (Nat.le_of_ble_eq_true rfl) ?_
        show wpm φ ad 346 [(0, .ref b), (1, .ref (ad 0)), (2, .ref (ad 43)), (3, .int v3)] [.int r71, .int r67] s69
        refine w_icmp_eq (pc := 346) (tgt := 999) X dL_law_346 (by decide) (fun c72 => ?_) (fun c72 => ?_)
        · replace h := it_pos c72 h
          refine w_iinc (pc := 999) X dL_law_999 3 rfl (v := (v3 + 6)) rfl (by decide) (lv' := [(3, .int (v3 + 6)), (0, .ref b), (1, .ref (ad 0)), (2, .ref (ad 43))]) rfl ?_
          refine w_goto (tgt := 18) (pc := 1002) X dL_law_1002 (by decide) ?_
          exact w_sub (pc := 18) [1, 2, 3, 0] rfl (ih _ _ h)
        · replace h := it_neg c72 h
          refine w_iconst (pc := 349) X dL_law_349 (v := 0) rfl ?_
          exact (law_no h).elim
      replace h := it_neg c305 h
      by_cases c306 : ((xs v3.toNatClampNeg) &&& (31 : Int32)) = 7
      · replace h := it_pos c306 h
        refine w_tswIn (pc := 33) (tgt := 351) X dL_law_33 c306 (by decide) (by decide) rfl (by decide) ?_
        refine w_aload_n (pc := 351) X dL_law_351 1 rfl ?_
        refine w_aload_n (pc := 352) X dL_law_352 0 rfl ?_
        refine w_iload_n (pc := 353) X dL_law_353 3 rfl ?_
        refine w_iconst (pc := 354) X dL_law_354 (v := 1) rfl ?_
        refine w_iadd (pc := 355) X dL_law_355 ?_
        obtain ⟨g73, h⟩ := gd_inv h
        refine w_sld (pc := 356) X hX dL_law_356 g73 ?_
        obtain ⟨r76, s74, h75, h⟩ := bd2_inv h
        refine w_callV (pc := 357) X dL_law_357 (M8_judge h75) k_x (by decide) rfl cw_99_45 ⟨Nat.le_of_ble_eq_true rfl, Nat.le_of_ble_eq_true rfl⟩ rfl rfl (Nat.le_of_ble_eq_true rfl) ?_
        show wpm φ ad 360 [(0, .ref b), (1, .ref (ad 0)), (2, .ref (ad 43)), (3, .int v3)] [.int r76] s74
        refine w_aload_n (pc := 360) X dL_law_360 2 rfl ?_
        refine w_aload_n (pc := 361) X dL_law_361 0 rfl ?_
        refine w_iload_n (pc := 362) X dL_law_362 3 rfl ?_
        refine w_iconst (pc := 363) X dL_law_363 (v := 1) rfl ?_
        refine w_iadd (pc := 364) X dL_law_364 ?_
        obtain ⟨g77, h⟩ := gd_inv h
        refine w_sld (pc := 365) X hX dL_law_365 g77 ?_
        obtain ⟨r80, s78, h79, h⟩ := bd2_inv h
        refine w_callV (pc := 366) X dL_law_366 (M9_judge h79) k_m (by decide) rfl cw_99_48 ⟨Nat.le_of_ble_eq_true rfl, Nat.le_of_ble_eq_true rfl⟩ rfl rfl (Nat.le_of_ble_eq_true rfl) ?_
        show wpm φ ad 369 [(0, .ref b), (1, .ref (ad 0)), (2, .ref (ad 43)), (3, .int v3)] [.int r80, .int r76] s78
        refine w_icmp_eq (pc := 369) (tgt := 999) X dL_law_369 (by decide) (fun c81 => ?_) (fun c81 => ?_)
        · replace h := it_pos c81 h
          refine w_iinc (pc := 999) X dL_law_999 3 rfl (v := (v3 + 6)) rfl (by decide) (lv' := [(3, .int (v3 + 6)), (0, .ref b), (1, .ref (ad 0)), (2, .ref (ad 43))]) rfl ?_
          refine w_goto (tgt := 18) (pc := 1002) X dL_law_1002 (by decide) ?_
          exact w_sub (pc := 18) [1, 2, 3, 0] rfl (ih _ _ h)
        · replace h := it_neg c81 h
          refine w_iconst (pc := 372) X dL_law_372 (v := 0) rfl ?_
          exact (law_no h).elim
      replace h := it_neg c306 h
      by_cases c307 : ((xs v3.toNatClampNeg) &&& (31 : Int32)) = 8
      · replace h := it_pos c307 h
        refine w_tswIn (pc := 33) (tgt := 374) X dL_law_33 c307 (by decide) (by decide) rfl (by decide) ?_
        refine w_aload_n (pc := 374) X dL_law_374 1 rfl ?_
        refine w_aload_n (pc := 375) X dL_law_375 0 rfl ?_
        refine w_iload_n (pc := 376) X dL_law_376 3 rfl ?_
        refine w_iconst (pc := 377) X dL_law_377 (v := 1) rfl ?_
        refine w_iadd (pc := 378) X dL_law_378 ?_
        obtain ⟨g82, h⟩ := gd_inv h
        refine w_sld (pc := 379) X hX dL_law_379 g82 ?_
        obtain ⟨r85, s83, h84, h⟩ := bd2_inv h
        refine w_callV (pc := 380) X dL_law_380 (M8_behind h84) k_x (by decide) rfl cw_99_49 ⟨Nat.le_of_ble_eq_true rfl, Nat.le_of_ble_eq_true rfl⟩ rfl rfl (Nat.le_of_ble_eq_true rfl) ?_
        show wpm φ ad 383 [(0, .ref b), (1, .ref (ad 0)), (2, .ref (ad 43)), (3, .int v3)] [.int r85] s83
        refine w_aload_n (pc := 383) X dL_law_383 2 rfl ?_
        refine w_aload_n (pc := 384) X dL_law_384 0 rfl ?_
        refine w_iload_n (pc := 385) X dL_law_385 3 rfl ?_
        refine w_iconst (pc := 386) X dL_law_386 (v := 1) rfl ?_
        refine w_iadd (pc := 387) X dL_law_387 ?_
        obtain ⟨g86, h⟩ := gd_inv h
        refine w_sld (pc := 388) X hX dL_law_388 g86 ?_
        obtain ⟨r89, s87, h88, h⟩ := bd2_inv h
        refine w_callV (pc := 389) X dL_law_389 (M9_behind h88) k_m (by decide) rfl cw_99_52 ⟨Nat.le_of_ble_eq_true rfl, Nat.le_of_ble_eq_true rfl⟩ rfl rfl (Nat.le_of_ble_eq_true rfl) ?_
        show wpm φ ad 392 [(0, .ref b), (1, .ref (ad 0)), (2, .ref (ad 43)), (3, .int v3)] [.int r89, .int r85] s87
        refine w_icmp_eq (pc := 392) (tgt := 999) X dL_law_392 (by decide) (fun c90 => ?_) (fun c90 => ?_)
        · replace h := it_pos c90 h
          refine w_iinc (pc := 999) X dL_law_999 3 rfl (v := (v3 + 6)) rfl (by decide) (lv' := [(3, .int (v3 + 6)), (0, .ref b), (1, .ref (ad 0)), (2, .ref (ad 43))]) rfl ?_
          refine w_goto (tgt := 18) (pc := 1002) X dL_law_1002 (by decide) ?_
          exact w_sub (pc := 18) [1, 2, 3, 0] rfl (ih _ _ h)
        · replace h := it_neg c90 h
          refine w_iconst (pc := 395) X dL_law_395 (v := 0) rfl ?_
          exact (law_no h).elim
      replace h := it_neg c307 h
      by_cases c308 : ((xs v3.toNatClampNeg) &&& (31 : Int32)) = 9
      · replace h := it_pos c308 h
        refine w_tswIn (pc := 33) (tgt := 397) X dL_law_33 c308 (by decide) (by decide) rfl (by decide) ?_
        refine w_aload_n (pc := 397) X dL_law_397 1 rfl ?_
        refine w_aload_n (pc := 398) X dL_law_398 0 rfl ?_
        refine w_iload_n (pc := 399) X dL_law_399 3 rfl ?_
        refine w_iconst (pc := 400) X dL_law_400 (v := 1) rfl ?_
        refine w_iadd (pc := 401) X dL_law_401 ?_
        obtain ⟨g91, h⟩ := gd_inv h
        refine w_sld (pc := 402) X hX dL_law_402 g91 ?_
        refine w_aload_n (pc := 403) X dL_law_403 0 rfl ?_
        refine w_iload_n (pc := 404) X dL_law_404 3 rfl ?_
        refine w_iconst (pc := 405) X dL_law_405 (v := 2) rfl ?_
        refine w_iadd (pc := 406) X dL_law_406 ?_
        obtain ⟨g92, h⟩ := gd_inv h
        refine w_sld (pc := 407) X hX dL_law_407 g92 ?_
        obtain ⟨r95, s93, h94, h⟩ := bd2_inv h
        refine w_callV (pc := 408) X dL_law_408 (M8_row h94) k_x (by decide) rfl cw_99_53 ⟨Nat.le_of_ble_eq_true rfl, Nat.le_of_ble_eq_true rfl⟩ rfl rfl (Nat.le_of_ble_eq_true rfl) ?_
        show wpm φ ad 411 [(0, .ref b), (1, .ref (ad 0)), (2, .ref (ad 43)), (3, .int v3)] [.int r95] s93
        refine w_aload_n (pc := 411) X dL_law_411 2 rfl ?_
        refine w_aload_n (pc := 412) X dL_law_412 0 rfl ?_
        refine w_iload_n (pc := 413) X dL_law_413 3 rfl ?_
        refine w_iconst (pc := 414) X dL_law_414 (v := 1) rfl ?_
        refine w_iadd (pc := 415) X dL_law_415 ?_
        obtain ⟨g96, h⟩ := gd_inv h
        refine w_sld (pc := 416) X hX dL_law_416 g96 ?_
        refine w_aload_n (pc := 417) X dL_law_417 0 rfl ?_
        refine w_iload_n (pc := 418) X dL_law_418 3 rfl ?_
        refine w_iconst (pc := 419) X dL_law_419 (v := 2) rfl ?_
        refine w_iadd (pc := 420) X dL_law_420 ?_
        obtain ⟨g97, h⟩ := gd_inv h
        refine w_sld (pc := 421) X hX dL_law_421 g97 ?_
        obtain ⟨r100, s98, h99, h⟩ := bd2_inv h
        refine w_callV (pc := 422) X dL_law_422 (M9_row h99) k_m (by decide) rfl cw_99_56 ⟨Nat.le_of_ble_eq_true rfl, Nat.le_of_ble_eq_true rfl⟩ rfl rfl (Nat.le_of_ble_eq_true rfl) ?_
        show wpm φ ad 425 [(0, .ref b), (1, .ref (ad 0)), (2, .ref (ad 43)), (3, .int v3)] [.int r100, .int r95] s98
        refine w_icmp_eq (pc := 425) (tgt := 999) X dL_law_425 (by decide) (fun c101 => ?_) (fun c101 => ?_)
        · replace h := it_pos c101 h
          refine w_iinc (pc := 999) X dL_law_999 3 rfl (v := (v3 + 6)) rfl (by decide) (lv' := [(3, .int (v3 + 6)), (0, .ref b), (1, .ref (ad 0)), (2, .ref (ad 43))]) rfl ?_
          refine w_goto (tgt := 18) (pc := 1002) X dL_law_1002 (by decide) ?_
          exact w_sub (pc := 18) [1, 2, 3, 0] rfl (ih _ _ h)
        · replace h := it_neg c101 h
          refine w_iconst (pc := 428) X dL_law_428 (v := 0) rfl ?_
          exact (law_no h).elim
      replace h := it_neg c308 h
      by_cases c309 : ((xs v3.toNatClampNeg) &&& (31 : Int32)) = 10
      · replace h := it_pos c309 h
        refine w_tswIn (pc := 33) (tgt := 430) X dL_law_33 c309 (by decide) (by decide) rfl (by decide) ?_
        refine w_aload_n (pc := 430) X dL_law_430 1 rfl ?_
        refine w_aload_n (pc := 431) X dL_law_431 0 rfl ?_
        refine w_iload_n (pc := 432) X dL_law_432 3 rfl ?_
        refine w_iconst (pc := 433) X dL_law_433 (v := 1) rfl ?_
        refine w_iadd (pc := 434) X dL_law_434 ?_
        obtain ⟨g102, h⟩ := gd_inv h
        refine w_sld (pc := 435) X hX dL_law_435 g102 ?_
        obtain ⟨r105, s103, h104, h⟩ := bd2_inv h
        refine w_callV (pc := 436) X dL_law_436 (M8_lost h104) k_x (by decide) rfl cw_99_57 ⟨Nat.le_of_ble_eq_true rfl, Nat.le_of_ble_eq_true rfl⟩ rfl rfl (Nat.le_of_ble_eq_true rfl) ?_
        show wpm φ ad 439 [(0, .ref b), (1, .ref (ad 0)), (2, .ref (ad 43)), (3, .int v3)] [.int r105] s103
        refine w_aload_n (pc := 439) X dL_law_439 2 rfl ?_
        refine w_aload_n (pc := 440) X dL_law_440 0 rfl ?_
        refine w_iload_n (pc := 441) X dL_law_441 3 rfl ?_
        refine w_iconst (pc := 442) X dL_law_442 (v := 1) rfl ?_
        refine w_iadd (pc := 443) X dL_law_443 ?_
        obtain ⟨g106, h⟩ := gd_inv h
        refine w_sld (pc := 444) X hX dL_law_444 g106 ?_
        obtain ⟨r109, s107, h108, h⟩ := bd2_inv h
        refine w_callV (pc := 445) X dL_law_445 (M9_lost h108) k_m (by decide) rfl cw_99_60 ⟨Nat.le_of_ble_eq_true rfl, Nat.le_of_ble_eq_true rfl⟩ rfl rfl (Nat.le_of_ble_eq_true rfl) ?_
        show wpm φ ad 448 [(0, .ref b), (1, .ref (ad 0)), (2, .ref (ad 43)), (3, .int v3)] [.int r109, .int r105] s107
        refine w_icmp_eq (pc := 448) (tgt := 999) X dL_law_448 (by decide) (fun c110 => ?_) (fun c110 => ?_)
        · replace h := it_pos c110 h
          refine w_iinc (pc := 999) X dL_law_999 3 rfl (v := (v3 + 6)) rfl (by decide) (lv' := [(3, .int (v3 + 6)), (0, .ref b), (1, .ref (ad 0)), (2, .ref (ad 43))]) rfl ?_
          refine w_goto (tgt := 18) (pc := 1002) X dL_law_1002 (by decide) ?_
          exact w_sub (pc := 18) [1, 2, 3, 0] rfl (ih _ _ h)
        · replace h := it_neg c110 h
          refine w_iconst (pc := 451) X dL_law_451 (v := 0) rfl ?_
          exact (law_no h).elim
      replace h := it_neg c309 h
      by_cases c310 : ((xs v3.toNatClampNeg) &&& (31 : Int32)) = 11
      · replace h := it_pos c310 h
        refine w_tswIn (pc := 33) (tgt := 453) X dL_law_33 c310 (by decide) (by decide) rfl (by decide) ?_
        refine w_aload_n (pc := 453) X dL_law_453 1 rfl ?_
        obtain ⟨r113, s111, h112, h⟩ := bd2_inv h
        refine w_callV (pc := 454) X dL_law_454 (M8_done h112) k_x (by decide) rfl cw_99_61 ⟨Nat.le_of_ble_eq_true rfl, Nat.le_of_ble_eq_true rfl⟩ rfl rfl (Nat.le_of_ble_eq_true rfl) ?_
        show wpm φ ad 457 [(0, .ref b), (1, .ref (ad 0)), (2, .ref (ad 43)), (3, .int v3)] [.int r113] s111
        refine w_aload_n (pc := 457) X dL_law_457 2 rfl ?_
        obtain ⟨r116, s114, h115, h⟩ := bd2_inv h
        refine w_callV (pc := 458) X dL_law_458 (M9_done h115) k_m (by decide) rfl cw_99_64 ⟨Nat.le_of_ble_eq_true rfl, Nat.le_of_ble_eq_true rfl⟩ rfl rfl (Nat.le_of_ble_eq_true rfl) ?_
        show wpm φ ad 461 [(0, .ref b), (1, .ref (ad 0)), (2, .ref (ad 43)), (3, .int v3)] [.int r116, .int r113] s114
        refine w_icmp_eq (pc := 461) (tgt := 999) X dL_law_461 (by decide) (fun c117 => ?_) (fun c117 => ?_)
        · replace h := it_pos c117 h
          refine w_iinc (pc := 999) X dL_law_999 3 rfl (v := (v3 + 6)) rfl (by decide) (lv' := [(3, .int (v3 + 6)), (0, .ref b), (1, .ref (ad 0)), (2, .ref (ad 43))]) rfl ?_
          refine w_goto (tgt := 18) (pc := 1002) X dL_law_1002 (by decide) ?_
          exact w_sub (pc := 18) [1, 2, 3, 0] rfl (ih _ _ h)
        · replace h := it_neg c117 h
          refine w_iconst (pc := 464) X dL_law_464 (v := 0) rfl ?_
          exact (law_no h).elim
      replace h := it_neg c310 h
      by_cases c311 : ((xs v3.toNatClampNeg) &&& (31 : Int32)) = 12
      · replace h := it_pos c311 h
        refine w_tswIn (pc := 33) (tgt := 466) X dL_law_33 c311 (by decide) (by decide) rfl (by decide) ?_
        refine w_aload_n (pc := 466) X dL_law_466 1 rfl ?_
        refine w_aload_n (pc := 467) X dL_law_467 0 rfl ?_
        refine w_iload_n (pc := 468) X dL_law_468 3 rfl ?_
        refine w_iconst (pc := 469) X dL_law_469 (v := 1) rfl ?_
        refine w_iadd (pc := 470) X dL_law_470 ?_
        obtain ⟨g118, h⟩ := gd_inv h
        refine w_sld (pc := 471) X hX dL_law_471 g118 ?_
        refine w_aload_n (pc := 472) X dL_law_472 0 rfl ?_
        refine w_iload_n (pc := 473) X dL_law_473 3 rfl ?_
        refine w_iconst (pc := 474) X dL_law_474 (v := 2) rfl ?_
        refine w_iadd (pc := 475) X dL_law_475 ?_
        obtain ⟨g119, h⟩ := gd_inv h
        refine w_sld (pc := 476) X hX dL_law_476 g119 ?_
        obtain ⟨r122, s120, h121, h⟩ := bd2_inv h
        refine w_callV (pc := 477) X dL_law_477 (M8_state h121) k_x (by decide) rfl cw_99_65 ⟨Nat.le_of_ble_eq_true rfl, Nat.le_of_ble_eq_true rfl⟩ rfl rfl (Nat.le_of_ble_eq_true rfl) ?_
        show wpm φ ad 480 [(0, .ref b), (1, .ref (ad 0)), (2, .ref (ad 43)), (3, .int v3)] [.int r122] s120
        refine w_aload_n (pc := 480) X dL_law_480 2 rfl ?_
        refine w_aload_n (pc := 481) X dL_law_481 0 rfl ?_
        refine w_iload_n (pc := 482) X dL_law_482 3 rfl ?_
        refine w_iconst (pc := 483) X dL_law_483 (v := 1) rfl ?_
        refine w_iadd (pc := 484) X dL_law_484 ?_
        obtain ⟨g123, h⟩ := gd_inv h
        refine w_sld (pc := 485) X hX dL_law_485 g123 ?_
        refine w_aload_n (pc := 486) X dL_law_486 0 rfl ?_
        refine w_iload_n (pc := 487) X dL_law_487 3 rfl ?_
        refine w_iconst (pc := 488) X dL_law_488 (v := 2) rfl ?_
        refine w_iadd (pc := 489) X dL_law_489 ?_
        obtain ⟨g124, h⟩ := gd_inv h
        refine w_sld (pc := 490) X hX dL_law_490 g124 ?_
        obtain ⟨r127, s125, h126, h⟩ := bd2_inv h
        refine w_callV (pc := 491) X dL_law_491 (M9_state h126) k_m (by decide) rfl cw_99_68 ⟨Nat.le_of_ble_eq_true rfl, Nat.le_of_ble_eq_true rfl⟩ rfl rfl (Nat.le_of_ble_eq_true rfl) ?_
        show wpm φ ad 494 [(0, .ref b), (1, .ref (ad 0)), (2, .ref (ad 43)), (3, .int v3)] [.int r127, .int r122] s125
        refine w_icmp_eq (pc := 494) (tgt := 999) X dL_law_494 (by decide) (fun c128 => ?_) (fun c128 => ?_)
        · replace h := it_pos c128 h
          refine w_iinc (pc := 999) X dL_law_999 3 rfl (v := (v3 + 6)) rfl (by decide) (lv' := [(3, .int (v3 + 6)), (0, .ref b), (1, .ref (ad 0)), (2, .ref (ad 43))]) rfl ?_
          refine w_goto (tgt := 18) (pc := 1002) X dL_law_1002 (by decide) ?_
          exact w_sub (pc := 18) [1, 2, 3, 0] rfl (ih _ _ h)
        · replace h := it_neg c128 h
          refine w_iconst (pc := 497) X dL_law_497 (v := 0) rfl ?_
          exact (law_no h).elim
      replace h := it_neg c311 h
      by_cases c312 : ((xs v3.toNatClampNeg) &&& (31 : Int32)) = 13
      · replace h := it_pos c312 h
        refine w_tswIn (pc := 33) (tgt := 499) X dL_law_33 c312 (by decide) (by decide) rfl (by decide) ?_
        refine w_aload_n (pc := 499) X dL_law_499 1 rfl ?_
        obtain ⟨r131, s129, h130, h⟩ := bd2_inv h
        refine w_callV (pc := 500) X dL_law_500 (M8_made h130) k_x (by decide) rfl cw_99_69 ⟨Nat.le_of_ble_eq_true rfl, Nat.le_of_ble_eq_true rfl⟩ rfl rfl (Nat.le_of_ble_eq_true rfl) ?_
        show wpm φ ad 503 [(0, .ref b), (1, .ref (ad 0)), (2, .ref (ad 43)), (3, .int v3)] [.int r131] s129
        refine w_aload_n (pc := 503) X dL_law_503 2 rfl ?_
        obtain ⟨r134, s132, h133, h⟩ := bd2_inv h
        refine w_callV (pc := 504) X dL_law_504 (M9_made h133) k_m (by decide) rfl cw_99_72 ⟨Nat.le_of_ble_eq_true rfl, Nat.le_of_ble_eq_true rfl⟩ rfl rfl (Nat.le_of_ble_eq_true rfl) ?_
        show wpm φ ad 507 [(0, .ref b), (1, .ref (ad 0)), (2, .ref (ad 43)), (3, .int v3)] [.int r134, .int r131] s132
        refine w_icmp_eq (pc := 507) (tgt := 999) X dL_law_507 (by decide) (fun c135 => ?_) (fun c135 => ?_)
        · replace h := it_pos c135 h
          refine w_iinc (pc := 999) X dL_law_999 3 rfl (v := (v3 + 6)) rfl (by decide) (lv' := [(3, .int (v3 + 6)), (0, .ref b), (1, .ref (ad 0)), (2, .ref (ad 43))]) rfl ?_
          refine w_goto (tgt := 18) (pc := 1002) X dL_law_1002 (by decide) ?_
          exact w_sub (pc := 18) [1, 2, 3, 0] rfl (ih _ _ h)
        · replace h := it_neg c135 h
          refine w_iconst (pc := 510) X dL_law_510 (v := 0) rfl ?_
          exact (law_no h).elim
      replace h := it_neg c312 h
      by_cases c313 : ((xs v3.toNatClampNeg) &&& (31 : Int32)) = 14
      · replace h := it_pos c313 h
        refine w_tswIn (pc := 33) (tgt := 512) X dL_law_33 c313 (by decide) (by decide) rfl (by decide) ?_
        refine w_aload_n (pc := 512) X dL_law_512 1 rfl ?_
        obtain ⟨r138, s136, h137, h⟩ := bd2_inv h
        refine w_callV (pc := 513) X dL_law_513 (M8_bars h137) k_x (by decide) rfl cw_99_73 ⟨Nat.le_of_ble_eq_true rfl, Nat.le_of_ble_eq_true rfl⟩ rfl rfl (Nat.le_of_ble_eq_true rfl) ?_
        show wpm φ ad 516 [(0, .ref b), (1, .ref (ad 0)), (2, .ref (ad 43)), (3, .int v3)] [.int r138] s136
        refine w_aload_n (pc := 516) X dL_law_516 2 rfl ?_
        obtain ⟨r141, s139, h140, h⟩ := bd2_inv h
        refine w_callV (pc := 517) X dL_law_517 (M9_bars h140) k_m (by decide) rfl cw_99_76 ⟨Nat.le_of_ble_eq_true rfl, Nat.le_of_ble_eq_true rfl⟩ rfl rfl (Nat.le_of_ble_eq_true rfl) ?_
        show wpm φ ad 520 [(0, .ref b), (1, .ref (ad 0)), (2, .ref (ad 43)), (3, .int v3)] [.int r141, .int r138] s139
        refine w_icmp_eq (pc := 520) (tgt := 999) X dL_law_520 (by decide) (fun c142 => ?_) (fun c142 => ?_)
        · replace h := it_pos c142 h
          refine w_iinc (pc := 999) X dL_law_999 3 rfl (v := (v3 + 6)) rfl (by decide) (lv' := [(3, .int (v3 + 6)), (0, .ref b), (1, .ref (ad 0)), (2, .ref (ad 43))]) rfl ?_
          refine w_goto (tgt := 18) (pc := 1002) X dL_law_1002 (by decide) ?_
          exact w_sub (pc := 18) [1, 2, 3, 0] rfl (ih _ _ h)
        · replace h := it_neg c142 h
          refine w_iconst (pc := 523) X dL_law_523 (v := 0) rfl ?_
          exact (law_no h).elim
      replace h := it_neg c313 h
      by_cases c314 : ((xs v3.toNatClampNeg) &&& (31 : Int32)) = 15
      · replace h := it_pos c314 h
        refine w_tswIn (pc := 33) (tgt := 525) X dL_law_33 c314 (by decide) (by decide) rfl (by decide) ?_
        refine w_aload_n (pc := 525) X dL_law_525 1 rfl ?_
        refine w_aload_n (pc := 526) X dL_law_526 0 rfl ?_
        refine w_iload_n (pc := 527) X dL_law_527 3 rfl ?_
        refine w_iconst (pc := 528) X dL_law_528 (v := 1) rfl ?_
        refine w_iadd (pc := 529) X dL_law_529 ?_
        obtain ⟨g143, h⟩ := gd_inv h
        refine w_sld (pc := 530) X hX dL_law_530 g143 ?_
        refine w_aload_n (pc := 531) X dL_law_531 0 rfl ?_
        refine w_iload_n (pc := 532) X dL_law_532 3 rfl ?_
        refine w_iconst (pc := 533) X dL_law_533 (v := 2) rfl ?_
        refine w_iadd (pc := 534) X dL_law_534 ?_
        obtain ⟨g144, h⟩ := gd_inv h
        refine w_sld (pc := 535) X hX dL_law_535 g144 ?_
        obtain ⟨r147, s145, h146, h⟩ := bd2_inv h
        refine w_callV (pc := 536) X dL_law_536 (M8_seen h146) k_x (by decide) rfl cw_99_77 ⟨Nat.le_of_ble_eq_true rfl, Nat.le_of_ble_eq_true rfl⟩ rfl rfl (Nat.le_of_ble_eq_true rfl) ?_
        show wpm φ ad 539 [(0, .ref b), (1, .ref (ad 0)), (2, .ref (ad 43)), (3, .int v3)] [.int r147] s145
        refine w_aload_n (pc := 539) X dL_law_539 2 rfl ?_
        refine w_aload_n (pc := 540) X dL_law_540 0 rfl ?_
        refine w_iload_n (pc := 541) X dL_law_541 3 rfl ?_
        refine w_iconst (pc := 542) X dL_law_542 (v := 1) rfl ?_
        refine w_iadd (pc := 543) X dL_law_543 ?_
        obtain ⟨g148, h⟩ := gd_inv h
        refine w_sld (pc := 544) X hX dL_law_544 g148 ?_
        refine w_aload_n (pc := 545) X dL_law_545 0 rfl ?_
        refine w_iload_n (pc := 546) X dL_law_546 3 rfl ?_
        refine w_iconst (pc := 547) X dL_law_547 (v := 2) rfl ?_
        refine w_iadd (pc := 548) X dL_law_548 ?_
        obtain ⟨g149, h⟩ := gd_inv h
        refine w_sld (pc := 549) X hX dL_law_549 g149 ?_
        obtain ⟨r152, s150, h151, h⟩ := bd2_inv h
        refine w_callV (pc := 550) X dL_law_550 (M9_seen h151) k_m (by decide) rfl cw_99_80 ⟨Nat.le_of_ble_eq_true rfl, Nat.le_of_ble_eq_true rfl⟩ rfl rfl (Nat.le_of_ble_eq_true rfl) ?_
        show wpm φ ad 553 [(0, .ref b), (1, .ref (ad 0)), (2, .ref (ad 43)), (3, .int v3)] [.int r152, .int r147] s150
        refine w_icmp_eq (pc := 553) (tgt := 999) X dL_law_553 (by decide) (fun c153 => ?_) (fun c153 => ?_)
        · replace h := it_pos c153 h
          refine w_iinc (pc := 999) X dL_law_999 3 rfl (v := (v3 + 6)) rfl (by decide) (lv' := [(3, .int (v3 + 6)), (0, .ref b), (1, .ref (ad 0)), (2, .ref (ad 43))]) rfl ?_
          refine w_goto (tgt := 18) (pc := 1002) X dL_law_1002 (by decide) ?_
          exact w_sub (pc := 18) [1, 2, 3, 0] rfl (ih _ _ h)
        · replace h := it_neg c153 h
          refine w_iconst (pc := 556) X dL_law_556 (v := 0) rfl ?_
          exact (law_no h).elim
      replace h := it_neg c314 h
      by_cases c315 : ((xs v3.toNatClampNeg) &&& (31 : Int32)) = 16
      · replace h := it_pos c315 h
        refine w_tswIn (pc := 33) (tgt := 558) X dL_law_33 c315 (by decide) (by decide) rfl (by decide) ?_
        refine w_aload_n (pc := 558) X dL_law_558 1 rfl ?_
        obtain ⟨r156, s154, h155, h⟩ := bd2_inv h
        refine w_callV (pc := 559) X dL_law_559 (M8_forget h155) k_x (by decide) rfl cw_99_81 ⟨Nat.le_of_ble_eq_true rfl, Nat.le_of_ble_eq_true rfl⟩ rfl rfl (Nat.le_of_ble_eq_true rfl) ?_
        show wpm φ ad 562 [(0, .ref b), (1, .ref (ad 0)), (2, .ref (ad 43)), (3, .int v3)] [.int r156] s154
        refine w_aload_n (pc := 562) X dL_law_562 2 rfl ?_
        obtain ⟨r159, s157, h158, h⟩ := bd2_inv h
        refine w_callV (pc := 563) X dL_law_563 (M9_forget h158) k_m (by decide) rfl cw_99_84 ⟨Nat.le_of_ble_eq_true rfl, Nat.le_of_ble_eq_true rfl⟩ rfl rfl (Nat.le_of_ble_eq_true rfl) ?_
        show wpm φ ad 566 [(0, .ref b), (1, .ref (ad 0)), (2, .ref (ad 43)), (3, .int v3)] [.int r159, .int r156] s157
        refine w_icmp_eq (pc := 566) (tgt := 999) X dL_law_566 (by decide) (fun c160 => ?_) (fun c160 => ?_)
        · replace h := it_pos c160 h
          refine w_iinc (pc := 999) X dL_law_999 3 rfl (v := (v3 + 6)) rfl (by decide) (lv' := [(3, .int (v3 + 6)), (0, .ref b), (1, .ref (ad 0)), (2, .ref (ad 43))]) rfl ?_
          refine w_goto (tgt := 18) (pc := 1002) X dL_law_1002 (by decide) ?_
          exact w_sub (pc := 18) [1, 2, 3, 0] rfl (ih _ _ h)
        · replace h := it_neg c160 h
          refine w_iconst (pc := 569) X dL_law_569 (v := 0) rfl ?_
          exact (law_no h).elim
      replace h := it_neg c315 h
      by_cases c316 : ((xs v3.toNatClampNeg) &&& (31 : Int32)) = 17
      · replace h := it_pos c316 h
        refine w_tswIn (pc := 33) (tgt := 571) X dL_law_33 c316 (by decide) (by decide) rfl (by decide) ?_
        refine w_aload_n (pc := 571) X dL_law_571 1 rfl ?_
        refine w_aload_n (pc := 572) X dL_law_572 0 rfl ?_
        refine w_iload_n (pc := 573) X dL_law_573 3 rfl ?_
        refine w_iconst (pc := 574) X dL_law_574 (v := 1) rfl ?_
        refine w_iadd (pc := 575) X dL_law_575 ?_
        obtain ⟨g161, h⟩ := gd_inv h
        refine w_sld (pc := 576) X hX dL_law_576 g161 ?_
        obtain ⟨r164, s162, h163, h⟩ := bd2_inv h
        refine w_callV (pc := 577) X dL_law_577 (M8_worlds h163) k_x (by decide) rfl cw_99_85 ⟨Nat.le_of_ble_eq_true rfl, Nat.le_of_ble_eq_true rfl⟩ rfl rfl (Nat.le_of_ble_eq_true rfl) ?_
        show wpm φ ad 580 [(0, .ref b), (1, .ref (ad 0)), (2, .ref (ad 43)), (3, .int v3)] [.int r164] s162
        refine w_aload_n (pc := 580) X dL_law_580 2 rfl ?_
        refine w_aload_n (pc := 581) X dL_law_581 0 rfl ?_
        refine w_iload_n (pc := 582) X dL_law_582 3 rfl ?_
        refine w_iconst (pc := 583) X dL_law_583 (v := 1) rfl ?_
        refine w_iadd (pc := 584) X dL_law_584 ?_
        obtain ⟨g165, h⟩ := gd_inv h
        refine w_sld (pc := 585) X hX dL_law_585 g165 ?_
        obtain ⟨r168, s166, h167, h⟩ := bd2_inv h
        refine w_callV (pc := 586) X dL_law_586 (M9_worlds h167) k_m (by decide) rfl cw_99_88 ⟨Nat.le_of_ble_eq_true rfl, Nat.le_of_ble_eq_true rfl⟩ rfl rfl (Nat.le_of_ble_eq_true rfl) ?_
        show wpm φ ad 589 [(0, .ref b), (1, .ref (ad 0)), (2, .ref (ad 43)), (3, .int v3)] [.int r168, .int r164] s166
        refine w_icmp_eq (pc := 589) (tgt := 999) X dL_law_589 (by decide) (fun c169 => ?_) (fun c169 => ?_)
        · replace h := it_pos c169 h
          refine w_iinc (pc := 999) X dL_law_999 3 rfl (v := (v3 + 6)) rfl (by decide) (lv' := [(3, .int (v3 + 6)), (0, .ref b), (1, .ref (ad 0)), (2, .ref (ad 43))]) rfl ?_
          refine w_goto (tgt := 18) (pc := 1002) X dL_law_1002 (by decide) ?_
          exact w_sub (pc := 18) [1, 2, 3, 0] rfl (ih _ _ h)
        · replace h := it_neg c169 h
          refine w_iconst (pc := 592) X dL_law_592 (v := 0) rfl ?_
          exact (law_no h).elim
      replace h := it_neg c316 h
      by_cases c317 : ((xs v3.toNatClampNeg) &&& (31 : Int32)) = 18
      · replace h := it_pos c317 h
        refine w_tswIn (pc := 33) (tgt := 594) X dL_law_33 c317 (by decide) (by decide) rfl (by decide) ?_
        refine w_aload_n (pc := 594) X dL_law_594 1 rfl ?_
        refine w_aload_n (pc := 595) X dL_law_595 0 rfl ?_
        refine w_iload_n (pc := 596) X dL_law_596 3 rfl ?_
        refine w_iconst (pc := 597) X dL_law_597 (v := 1) rfl ?_
        refine w_iadd (pc := 598) X dL_law_598 ?_
        obtain ⟨g170, h⟩ := gd_inv h
        refine w_sld (pc := 599) X hX dL_law_599 g170 ?_
        obtain ⟨r173, s171, h172, h⟩ := bd2_inv h
        refine w_callV (pc := 600) X dL_law_600 (M8_tell h172) k_x (by decide) rfl cw_99_89 ⟨Nat.le_of_ble_eq_true rfl, Nat.le_of_ble_eq_true rfl⟩ rfl rfl (Nat.le_of_ble_eq_true rfl) ?_
        show wpm φ ad 603 [(0, .ref b), (1, .ref (ad 0)), (2, .ref (ad 43)), (3, .int v3)] [.int r173] s171
        refine w_aload_n (pc := 603) X dL_law_603 2 rfl ?_
        refine w_aload_n (pc := 604) X dL_law_604 0 rfl ?_
        refine w_iload_n (pc := 605) X dL_law_605 3 rfl ?_
        refine w_iconst (pc := 606) X dL_law_606 (v := 1) rfl ?_
        refine w_iadd (pc := 607) X dL_law_607 ?_
        obtain ⟨g174, h⟩ := gd_inv h
        refine w_sld (pc := 608) X hX dL_law_608 g174 ?_
        obtain ⟨r177, s175, h176, h⟩ := bd2_inv h
        refine w_callV (pc := 609) X dL_law_609 (M9_tell h176) k_m (by decide) rfl cw_99_92 ⟨Nat.le_of_ble_eq_true rfl, Nat.le_of_ble_eq_true rfl⟩ rfl rfl (Nat.le_of_ble_eq_true rfl) ?_
        show wpm φ ad 612 [(0, .ref b), (1, .ref (ad 0)), (2, .ref (ad 43)), (3, .int v3)] [.int r177, .int r173] s175
        refine w_icmp_eq (pc := 612) (tgt := 999) X dL_law_612 (by decide) (fun c178 => ?_) (fun c178 => ?_)
        · replace h := it_pos c178 h
          refine w_iinc (pc := 999) X dL_law_999 3 rfl (v := (v3 + 6)) rfl (by decide) (lv' := [(3, .int (v3 + 6)), (0, .ref b), (1, .ref (ad 0)), (2, .ref (ad 43))]) rfl ?_
          refine w_goto (tgt := 18) (pc := 1002) X dL_law_1002 (by decide) ?_
          exact w_sub (pc := 18) [1, 2, 3, 0] rfl (ih _ _ h)
        · replace h := it_neg c178 h
          refine w_iconst (pc := 615) X dL_law_615 (v := 0) rfl ?_
          exact (law_no h).elim
      replace h := it_neg c317 h
      by_cases c318 : ((xs v3.toNatClampNeg) &&& (31 : Int32)) = 19
      · replace h := it_pos c318 h
        refine w_tswIn (pc := 33) (tgt := 617) X dL_law_33 c318 (by decide) (by decide) rfl (by decide) ?_
        refine w_aload_n (pc := 617) X dL_law_617 1 rfl ?_
        refine w_aload_n (pc := 618) X dL_law_618 0 rfl ?_
        refine w_iload_n (pc := 619) X dL_law_619 3 rfl ?_
        refine w_iconst (pc := 620) X dL_law_620 (v := 1) rfl ?_
        refine w_iadd (pc := 621) X dL_law_621 ?_
        obtain ⟨g179, h⟩ := gd_inv h
        refine w_sld (pc := 622) X hX dL_law_622 g179 ?_
        obtain ⟨r182, s180, h181, h⟩ := bd2_inv h
        refine w_callV (pc := 623) X dL_law_623 (M8_says h181) k_x (by decide) rfl cw_99_93 ⟨Nat.le_of_ble_eq_true rfl, Nat.le_of_ble_eq_true rfl⟩ rfl rfl (Nat.le_of_ble_eq_true rfl) ?_
        show wpm φ ad 626 [(0, .ref b), (1, .ref (ad 0)), (2, .ref (ad 43)), (3, .int v3)] [.int r182] s180
        refine w_aload_n (pc := 626) X dL_law_626 2 rfl ?_
        refine w_aload_n (pc := 627) X dL_law_627 0 rfl ?_
        refine w_iload_n (pc := 628) X dL_law_628 3 rfl ?_
        refine w_iconst (pc := 629) X dL_law_629 (v := 1) rfl ?_
        refine w_iadd (pc := 630) X dL_law_630 ?_
        obtain ⟨g183, h⟩ := gd_inv h
        refine w_sld (pc := 631) X hX dL_law_631 g183 ?_
        obtain ⟨r186, s184, h185, h⟩ := bd2_inv h
        refine w_callV (pc := 632) X dL_law_632 (M9_says h185) k_m (by decide) rfl cw_99_96 ⟨Nat.le_of_ble_eq_true rfl, Nat.le_of_ble_eq_true rfl⟩ rfl rfl (Nat.le_of_ble_eq_true rfl) ?_
        show wpm φ ad 635 [(0, .ref b), (1, .ref (ad 0)), (2, .ref (ad 43)), (3, .int v3)] [.int r186, .int r182] s184
        refine w_icmp_eq (pc := 635) (tgt := 999) X dL_law_635 (by decide) (fun c187 => ?_) (fun c187 => ?_)
        · replace h := it_pos c187 h
          refine w_iinc (pc := 999) X dL_law_999 3 rfl (v := (v3 + 6)) rfl (by decide) (lv' := [(3, .int (v3 + 6)), (0, .ref b), (1, .ref (ad 0)), (2, .ref (ad 43))]) rfl ?_
          refine w_goto (tgt := 18) (pc := 1002) X dL_law_1002 (by decide) ?_
          exact w_sub (pc := 18) [1, 2, 3, 0] rfl (ih _ _ h)
        · replace h := it_neg c187 h
          refine w_iconst (pc := 638) X dL_law_638 (v := 0) rfl ?_
          exact (law_no h).elim
      replace h := it_neg c318 h
      by_cases c319 : ((xs v3.toNatClampNeg) &&& (31 : Int32)) = 20
      · replace h := it_pos c319 h
        refine w_tswIn (pc := 33) (tgt := 640) X dL_law_33 c319 (by decide) (by decide) rfl (by decide) ?_
        refine w_aload_n (pc := 640) X dL_law_640 1 rfl ?_
        refine w_aload_n (pc := 641) X dL_law_641 0 rfl ?_
        refine w_iload_n (pc := 642) X dL_law_642 3 rfl ?_
        refine w_iconst (pc := 643) X dL_law_643 (v := 1) rfl ?_
        refine w_iadd (pc := 644) X dL_law_644 ?_
        obtain ⟨g188, h⟩ := gd_inv h
        refine w_sld (pc := 645) X hX dL_law_645 g188 ?_
        refine w_aload_n (pc := 646) X dL_law_646 0 rfl ?_
        refine w_iload_n (pc := 647) X dL_law_647 3 rfl ?_
        refine w_iconst (pc := 648) X dL_law_648 (v := 2) rfl ?_
        refine w_iadd (pc := 649) X dL_law_649 ?_
        obtain ⟨g189, h⟩ := gd_inv h
        refine w_sld (pc := 650) X hX dL_law_650 g189 ?_
        refine w_aload_n (pc := 651) X dL_law_651 0 rfl ?_
        refine w_iload_n (pc := 652) X dL_law_652 3 rfl ?_
        refine w_iconst (pc := 653) X dL_law_653 (v := 3) rfl ?_
        refine w_iadd (pc := 654) X dL_law_654 ?_
        obtain ⟨g190, h⟩ := gd_inv h
        refine w_sld (pc := 655) X hX dL_law_655 g190 ?_
        refine w_aload_n (pc := 656) X dL_law_656 0 rfl ?_
        refine w_iload_n (pc := 657) X dL_law_657 3 rfl ?_
        refine w_iconst (pc := 658) X dL_law_658 (v := 4) rfl ?_
        refine w_iadd (pc := 659) X dL_law_659 ?_
        obtain ⟨g191, h⟩ := gd_inv h
        refine w_sld (pc := 660) X hX dL_law_660 g191 ?_
        obtain ⟨r194, s192, h193, h⟩ := bd2_inv h
        refine w_callV (pc := 661) X dL_law_661 (M8_orders h193) k_x (by decide) rfl cw_99_97 ⟨Nat.le_of_ble_eq_true rfl, Nat.le_of_ble_eq_true rfl⟩ rfl rfl (Nat.le_of_ble_eq_true rfl) ?_
        show wpm φ ad 664 [(0, .ref b), (1, .ref (ad 0)), (2, .ref (ad 43)), (3, .int v3)] [.long r194] s192
        refine w_aload_n (pc := 664) X dL_law_664 2 rfl ?_
        refine w_aload_n (pc := 665) X dL_law_665 0 rfl ?_
        refine w_iload_n (pc := 666) X dL_law_666 3 rfl ?_
        refine w_iconst (pc := 667) X dL_law_667 (v := 1) rfl ?_
        refine w_iadd (pc := 668) X dL_law_668 ?_
        obtain ⟨g195, h⟩ := gd_inv h
        refine w_sld (pc := 669) X hX dL_law_669 g195 ?_
        refine w_aload_n (pc := 670) X dL_law_670 0 rfl ?_
        refine w_iload_n (pc := 671) X dL_law_671 3 rfl ?_
        refine w_iconst (pc := 672) X dL_law_672 (v := 2) rfl ?_
        refine w_iadd (pc := 673) X dL_law_673 ?_
        obtain ⟨g196, h⟩ := gd_inv h
        refine w_sld (pc := 674) X hX dL_law_674 g196 ?_
        refine w_aload_n (pc := 675) X dL_law_675 0 rfl ?_
        refine w_iload_n (pc := 676) X dL_law_676 3 rfl ?_
        refine w_iconst (pc := 677) X dL_law_677 (v := 3) rfl ?_
        refine w_iadd (pc := 678) X dL_law_678 ?_
        obtain ⟨g197, h⟩ := gd_inv h
        refine w_sld (pc := 679) X hX dL_law_679 g197 ?_
        refine w_aload_n (pc := 680) X dL_law_680 0 rfl ?_
        refine w_iload_n (pc := 681) X dL_law_681 3 rfl ?_
        refine w_iconst (pc := 682) X dL_law_682 (v := 4) rfl ?_
        refine w_iadd (pc := 683) X dL_law_683 ?_
        obtain ⟨g198, h⟩ := gd_inv h
        refine w_sld (pc := 684) X hX dL_law_684 g198 ?_
        obtain ⟨r201, s199, h200, h⟩ := bd2_inv h
        refine w_callV (pc := 685) X dL_law_685 (M9_orders h200) k_m (by decide) rfl cw_99_101 ⟨Nat.le_of_ble_eq_true rfl, Nat.le_of_ble_eq_true rfl⟩ rfl rfl (Nat.le_of_ble_eq_true rfl) ?_
        show wpm φ ad 688 [(0, .ref b), (1, .ref (ad 0)), (2, .ref (ad 43)), (3, .int v3)] [.long r201, .long r194] s199
        refine w_lcmp (pc := 688) X dL_law_688 ?_
        refine w_if_eq (pc := 689) (tgt := 999) X dL_law_689 (by decide) (fun c202 => ?_) (fun c202 => ?_)
        · replace h := it_pos c202 h
          refine w_iinc (pc := 999) X dL_law_999 3 rfl (v := (v3 + 6)) rfl (by decide) (lv' := [(3, .int (v3 + 6)), (0, .ref b), (1, .ref (ad 0)), (2, .ref (ad 43))]) rfl ?_
          refine w_goto (tgt := 18) (pc := 1002) X dL_law_1002 (by decide) ?_
          exact w_sub (pc := 18) [1, 2, 3, 0] rfl (ih _ _ h)
        · replace h := it_neg c202 h
          refine w_iconst (pc := 692) X dL_law_692 (v := 0) rfl ?_
          exact (law_no h).elim
      replace h := it_neg c319 h
      by_cases c320 : ((xs v3.toNatClampNeg) &&& (31 : Int32)) = 21
      · replace h := it_pos c320 h
        refine w_tswIn (pc := 33) (tgt := 694) X dL_law_33 c320 (by decide) (by decide) rfl (by decide) ?_
        refine w_aload_n (pc := 694) X dL_law_694 1 rfl ?_
        refine w_aload_n (pc := 695) X dL_law_695 0 rfl ?_
        refine w_iload_n (pc := 696) X dL_law_696 3 rfl ?_
        refine w_iconst (pc := 697) X dL_law_697 (v := 1) rfl ?_
        refine w_iadd (pc := 698) X dL_law_698 ?_
        obtain ⟨g203, h⟩ := gd_inv h
        refine w_sld (pc := 699) X hX dL_law_699 g203 ?_
        refine w_aload_n (pc := 700) X dL_law_700 0 rfl ?_
        refine w_iload_n (pc := 701) X dL_law_701 3 rfl ?_
        refine w_iconst (pc := 702) X dL_law_702 (v := 2) rfl ?_
        refine w_iadd (pc := 703) X dL_law_703 ?_
        obtain ⟨g204, h⟩ := gd_inv h
        refine w_sld (pc := 704) X hX dL_law_704 g204 ?_
        refine w_aload_n (pc := 705) X dL_law_705 0 rfl ?_
        refine w_iload_n (pc := 706) X dL_law_706 3 rfl ?_
        refine w_iconst (pc := 707) X dL_law_707 (v := 3) rfl ?_
        refine w_iadd (pc := 708) X dL_law_708 ?_
        obtain ⟨g205, h⟩ := gd_inv h
        refine w_sld (pc := 709) X hX dL_law_709 g205 ?_
        refine w_aload_n (pc := 710) X dL_law_710 0 rfl ?_
        refine w_iload_n (pc := 711) X dL_law_711 3 rfl ?_
        refine w_iconst (pc := 712) X dL_law_712 (v := 4) rfl ?_
        refine w_iadd (pc := 713) X dL_law_713 ?_
        obtain ⟨g206, h⟩ := gd_inv h
        refine w_sld (pc := 714) X hX dL_law_714 g206 ?_
        obtain ⟨r209, s207, h208, h⟩ := bd2_inv h
        refine w_callV (pc := 715) X dL_law_715 (M8_left h208) k_x (by decide) rfl cw_99_102 ⟨Nat.le_of_ble_eq_true rfl, Nat.le_of_ble_eq_true rfl⟩ rfl rfl (Nat.le_of_ble_eq_true rfl) ?_
        show wpm φ ad 718 [(0, .ref b), (1, .ref (ad 0)), (2, .ref (ad 43)), (3, .int v3)] [.int r209] s207
        refine w_aload_n (pc := 718) X dL_law_718 2 rfl ?_
        refine w_aload_n (pc := 719) X dL_law_719 0 rfl ?_
        refine w_iload_n (pc := 720) X dL_law_720 3 rfl ?_
        refine w_iconst (pc := 721) X dL_law_721 (v := 1) rfl ?_
        refine w_iadd (pc := 722) X dL_law_722 ?_
        obtain ⟨g210, h⟩ := gd_inv h
        refine w_sld (pc := 723) X hX dL_law_723 g210 ?_
        refine w_aload_n (pc := 724) X dL_law_724 0 rfl ?_
        refine w_iload_n (pc := 725) X dL_law_725 3 rfl ?_
        refine w_iconst (pc := 726) X dL_law_726 (v := 2) rfl ?_
        refine w_iadd (pc := 727) X dL_law_727 ?_
        obtain ⟨g211, h⟩ := gd_inv h
        refine w_sld (pc := 728) X hX dL_law_728 g211 ?_
        refine w_aload_n (pc := 729) X dL_law_729 0 rfl ?_
        refine w_iload_n (pc := 730) X dL_law_730 3 rfl ?_
        refine w_iconst (pc := 731) X dL_law_731 (v := 3) rfl ?_
        refine w_iadd (pc := 732) X dL_law_732 ?_
        obtain ⟨g212, h⟩ := gd_inv h
        refine w_sld (pc := 733) X hX dL_law_733 g212 ?_
        refine w_aload_n (pc := 734) X dL_law_734 0 rfl ?_
        refine w_iload_n (pc := 735) X dL_law_735 3 rfl ?_
        refine w_iconst (pc := 736) X dL_law_736 (v := 4) rfl ?_
        refine w_iadd (pc := 737) X dL_law_737 ?_
        obtain ⟨g213, h⟩ := gd_inv h
        refine w_sld (pc := 738) X hX dL_law_738 g213 ?_
        obtain ⟨r216, s214, h215, h⟩ := bd2_inv h
        refine w_callV (pc := 739) X dL_law_739 (M9_left h215) k_m (by decide) rfl cw_99_106 ⟨Nat.le_of_ble_eq_true rfl, Nat.le_of_ble_eq_true rfl⟩ rfl rfl (Nat.le_of_ble_eq_true rfl) ?_
        show wpm φ ad 742 [(0, .ref b), (1, .ref (ad 0)), (2, .ref (ad 43)), (3, .int v3)] [.int r216, .int r209] s214
        refine w_icmp_eq (pc := 742) (tgt := 999) X dL_law_742 (by decide) (fun c217 => ?_) (fun c217 => ?_)
        · replace h := it_pos c217 h
          refine w_iinc (pc := 999) X dL_law_999 3 rfl (v := (v3 + 6)) rfl (by decide) (lv' := [(3, .int (v3 + 6)), (0, .ref b), (1, .ref (ad 0)), (2, .ref (ad 43))]) rfl ?_
          refine w_goto (tgt := 18) (pc := 1002) X dL_law_1002 (by decide) ?_
          exact w_sub (pc := 18) [1, 2, 3, 0] rfl (ih _ _ h)
        · replace h := it_neg c217 h
          refine w_iconst (pc := 745) X dL_law_745 (v := 0) rfl ?_
          exact (law_no h).elim
      replace h := it_neg c320 h
      by_cases c321 : ((xs v3.toNatClampNeg) &&& (31 : Int32)) = 22
      · replace h := it_pos c321 h
        refine w_tswIn (pc := 33) (tgt := 747) X dL_law_33 c321 (by decide) (by decide) rfl (by decide) ?_
        refine w_aload_n (pc := 747) X dL_law_747 1 rfl ?_
        refine w_aload_n (pc := 748) X dL_law_748 0 rfl ?_
        refine w_iload_n (pc := 749) X dL_law_749 3 rfl ?_
        refine w_iconst (pc := 750) X dL_law_750 (v := 1) rfl ?_
        refine w_iadd (pc := 751) X dL_law_751 ?_
        obtain ⟨g218, h⟩ := gd_inv h
        refine w_sld (pc := 752) X hX dL_law_752 g218 ?_
        refine w_aload_n (pc := 753) X dL_law_753 0 rfl ?_
        refine w_iload_n (pc := 754) X dL_law_754 3 rfl ?_
        refine w_iconst (pc := 755) X dL_law_755 (v := 2) rfl ?_
        refine w_iadd (pc := 756) X dL_law_756 ?_
        obtain ⟨g219, h⟩ := gd_inv h
        refine w_sld (pc := 757) X hX dL_law_757 g219 ?_
        refine w_aload_n (pc := 758) X dL_law_758 0 rfl ?_
        refine w_iload_n (pc := 759) X dL_law_759 3 rfl ?_
        refine w_iconst (pc := 760) X dL_law_760 (v := 3) rfl ?_
        refine w_iadd (pc := 761) X dL_law_761 ?_
        obtain ⟨g220, h⟩ := gd_inv h
        refine w_sld (pc := 762) X hX dL_law_762 g220 ?_
        refine w_aload_n (pc := 763) X dL_law_763 0 rfl ?_
        refine w_iload_n (pc := 764) X dL_law_764 3 rfl ?_
        refine w_iconst (pc := 765) X dL_law_765 (v := 4) rfl ?_
        refine w_iadd (pc := 766) X dL_law_766 ?_
        obtain ⟨g221, h⟩ := gd_inv h
        refine w_sld (pc := 767) X hX dL_law_767 g221 ?_
        obtain ⟨r224, s222, h223, h⟩ := bd2_inv h
        refine w_callV (pc := 768) X dL_law_768 (M8_chance h223) k_x (by decide) rfl cw_99_107 ⟨Nat.le_of_ble_eq_true rfl, Nat.le_of_ble_eq_true rfl⟩ rfl rfl (Nat.le_of_ble_eq_true rfl) ?_
        show wpm φ ad 771 [(0, .ref b), (1, .ref (ad 0)), (2, .ref (ad 43)), (3, .int v3)] [.long r224] s222
        refine w_aload_n (pc := 771) X dL_law_771 2 rfl ?_
        refine w_aload_n (pc := 772) X dL_law_772 0 rfl ?_
        refine w_iload_n (pc := 773) X dL_law_773 3 rfl ?_
        refine w_iconst (pc := 774) X dL_law_774 (v := 1) rfl ?_
        refine w_iadd (pc := 775) X dL_law_775 ?_
        obtain ⟨g225, h⟩ := gd_inv h
        refine w_sld (pc := 776) X hX dL_law_776 g225 ?_
        refine w_aload_n (pc := 777) X dL_law_777 0 rfl ?_
        refine w_iload_n (pc := 778) X dL_law_778 3 rfl ?_
        refine w_iconst (pc := 779) X dL_law_779 (v := 2) rfl ?_
        refine w_iadd (pc := 780) X dL_law_780 ?_
        obtain ⟨g226, h⟩ := gd_inv h
        refine w_sld (pc := 781) X hX dL_law_781 g226 ?_
        refine w_aload_n (pc := 782) X dL_law_782 0 rfl ?_
        refine w_iload_n (pc := 783) X dL_law_783 3 rfl ?_
        refine w_iconst (pc := 784) X dL_law_784 (v := 3) rfl ?_
        refine w_iadd (pc := 785) X dL_law_785 ?_
        obtain ⟨g227, h⟩ := gd_inv h
        refine w_sld (pc := 786) X hX dL_law_786 g227 ?_
        refine w_aload_n (pc := 787) X dL_law_787 0 rfl ?_
        refine w_iload_n (pc := 788) X dL_law_788 3 rfl ?_
        refine w_iconst (pc := 789) X dL_law_789 (v := 4) rfl ?_
        refine w_iadd (pc := 790) X dL_law_790 ?_
        obtain ⟨g228, h⟩ := gd_inv h
        refine w_sld (pc := 791) X hX dL_law_791 g228 ?_
        obtain ⟨r231, s229, h230, h⟩ := bd2_inv h
        refine w_callV (pc := 792) X dL_law_792 (M9_chance h230) k_m (by decide) rfl cw_99_110 ⟨Nat.le_of_ble_eq_true rfl, Nat.le_of_ble_eq_true rfl⟩ rfl rfl (Nat.le_of_ble_eq_true rfl) ?_
        show wpm φ ad 795 [(0, .ref b), (1, .ref (ad 0)), (2, .ref (ad 43)), (3, .int v3)] [.long r231, .long r224] s229
        refine w_lcmp (pc := 795) X dL_law_795 ?_
        refine w_if_eq (pc := 796) (tgt := 999) X dL_law_796 (by decide) (fun c232 => ?_) (fun c232 => ?_)
        · replace h := it_pos c232 h
          refine w_iinc (pc := 999) X dL_law_999 3 rfl (v := (v3 + 6)) rfl (by decide) (lv' := [(3, .int (v3 + 6)), (0, .ref b), (1, .ref (ad 0)), (2, .ref (ad 43))]) rfl ?_
          refine w_goto (tgt := 18) (pc := 1002) X dL_law_1002 (by decide) ?_
          exact w_sub (pc := 18) [1, 2, 3, 0] rfl (ih _ _ h)
        · replace h := it_neg c232 h
          refine w_iconst (pc := 799) X dL_law_799 (v := 0) rfl ?_
          exact (law_no h).elim
      replace h := it_neg c321 h
      by_cases c322 : ((xs v3.toNatClampNeg) &&& (31 : Int32)) = 23
      · replace h := it_pos c322 h
        refine w_tswIn (pc := 33) (tgt := 801) X dL_law_33 c322 (by decide) (by decide) rfl (by decide) ?_
        refine w_aload_n (pc := 801) X dL_law_801 1 rfl ?_
        refine w_aload_n (pc := 802) X dL_law_802 0 rfl ?_
        refine w_iload_n (pc := 803) X dL_law_803 3 rfl ?_
        refine w_iconst (pc := 804) X dL_law_804 (v := 1) rfl ?_
        refine w_iadd (pc := 805) X dL_law_805 ?_
        obtain ⟨g233, h⟩ := gd_inv h
        refine w_sld (pc := 806) X hX dL_law_806 g233 ?_
        refine w_aload_n (pc := 807) X dL_law_807 0 rfl ?_
        refine w_iload_n (pc := 808) X dL_law_808 3 rfl ?_
        refine w_iconst (pc := 809) X dL_law_809 (v := 2) rfl ?_
        refine w_iadd (pc := 810) X dL_law_810 ?_
        obtain ⟨g234, h⟩ := gd_inv h
        refine w_sld (pc := 811) X hX dL_law_811 g234 ?_
        refine w_aload_n (pc := 812) X dL_law_812 0 rfl ?_
        refine w_iload_n (pc := 813) X dL_law_813 3 rfl ?_
        refine w_iconst (pc := 814) X dL_law_814 (v := 3) rfl ?_
        refine w_iadd (pc := 815) X dL_law_815 ?_
        obtain ⟨g235, h⟩ := gd_inv h
        refine w_sld (pc := 816) X hX dL_law_816 g235 ?_
        refine w_aload_n (pc := 817) X dL_law_817 0 rfl ?_
        refine w_iload_n (pc := 818) X dL_law_818 3 rfl ?_
        refine w_iconst (pc := 819) X dL_law_819 (v := 4) rfl ?_
        refine w_iadd (pc := 820) X dL_law_820 ?_
        obtain ⟨g236, h⟩ := gd_inv h
        refine w_sld (pc := 821) X hX dL_law_821 g236 ?_
        refine w_aload_n (pc := 822) X dL_law_822 0 rfl ?_
        refine w_iload_n (pc := 823) X dL_law_823 3 rfl ?_
        refine w_iconst (pc := 824) X dL_law_824 (v := 5) rfl ?_
        refine w_iadd (pc := 825) X dL_law_825 ?_
        obtain ⟨g237, h⟩ := gd_inv h
        refine w_sld (pc := 826) X hX dL_law_826 g237 ?_
        obtain ⟨r240, s238, h239, h⟩ := bd2_inv h
        refine w_callV (pc := 827) X dL_law_827 (M8_over h239) k_x (by decide) rfl cw_99_111 ⟨Nat.le_of_ble_eq_true rfl, Nat.le_of_ble_eq_true rfl⟩ rfl rfl (Nat.le_of_ble_eq_true rfl) ?_
        show wpm φ ad 830 [(0, .ref b), (1, .ref (ad 0)), (2, .ref (ad 43)), (3, .int v3)] [.int r240] s238
        refine w_aload_n (pc := 830) X dL_law_830 2 rfl ?_
        refine w_aload_n (pc := 831) X dL_law_831 0 rfl ?_
        refine w_iload_n (pc := 832) X dL_law_832 3 rfl ?_
        refine w_iconst (pc := 833) X dL_law_833 (v := 1) rfl ?_
        refine w_iadd (pc := 834) X dL_law_834 ?_
        obtain ⟨g241, h⟩ := gd_inv h
        refine w_sld (pc := 835) X hX dL_law_835 g241 ?_
        refine w_aload_n (pc := 836) X dL_law_836 0 rfl ?_
        refine w_iload_n (pc := 837) X dL_law_837 3 rfl ?_
        refine w_iconst (pc := 838) X dL_law_838 (v := 2) rfl ?_
        refine w_iadd (pc := 839) X dL_law_839 ?_
        obtain ⟨g242, h⟩ := gd_inv h
        refine w_sld (pc := 840) X hX dL_law_840 g242 ?_
        refine w_aload_n (pc := 841) X dL_law_841 0 rfl ?_
        refine w_iload_n (pc := 842) X dL_law_842 3 rfl ?_
        refine w_iconst (pc := 843) X dL_law_843 (v := 3) rfl ?_
        refine w_iadd (pc := 844) X dL_law_844 ?_
        obtain ⟨g243, h⟩ := gd_inv h
        refine w_sld (pc := 845) X hX dL_law_845 g243 ?_
        refine w_aload_n (pc := 846) X dL_law_846 0 rfl ?_
        refine w_iload_n (pc := 847) X dL_law_847 3 rfl ?_
        refine w_iconst (pc := 848) X dL_law_848 (v := 4) rfl ?_
        refine w_iadd (pc := 849) X dL_law_849 ?_
        obtain ⟨g244, h⟩ := gd_inv h
        refine w_sld (pc := 850) X hX dL_law_850 g244 ?_
        refine w_aload_n (pc := 851) X dL_law_851 0 rfl ?_
        refine w_iload_n (pc := 852) X dL_law_852 3 rfl ?_
        refine w_iconst (pc := 853) X dL_law_853 (v := 5) rfl ?_
        refine w_iadd (pc := 854) X dL_law_854 ?_
        obtain ⟨g245, h⟩ := gd_inv h
        refine w_sld (pc := 855) X hX dL_law_855 g245 ?_
        obtain ⟨r248, s246, h247, h⟩ := bd2_inv h
        refine w_callV (pc := 856) X dL_law_856 (M9_over h247) k_m (by decide) rfl cw_99_115 ⟨Nat.le_of_ble_eq_true rfl, Nat.le_of_ble_eq_true rfl⟩ rfl rfl (Nat.le_of_ble_eq_true rfl) ?_
        show wpm φ ad 859 [(0, .ref b), (1, .ref (ad 0)), (2, .ref (ad 43)), (3, .int v3)] [.int r248, .int r240] s246
        refine w_icmp_eq (pc := 859) (tgt := 999) X dL_law_859 (by decide) (fun c249 => ?_) (fun c249 => ?_)
        · replace h := it_pos c249 h
          refine w_iinc (pc := 999) X dL_law_999 3 rfl (v := (v3 + 6)) rfl (by decide) (lv' := [(3, .int (v3 + 6)), (0, .ref b), (1, .ref (ad 0)), (2, .ref (ad 43))]) rfl ?_
          refine w_goto (tgt := 18) (pc := 1002) X dL_law_1002 (by decide) ?_
          exact w_sub (pc := 18) [1, 2, 3, 0] rfl (ih _ _ h)
        · replace h := it_neg c249 h
          refine w_iconst (pc := 862) X dL_law_862 (v := 0) rfl ?_
          exact (law_no h).elim
      replace h := it_neg c322 h
      by_cases c323 : ((xs v3.toNatClampNeg) &&& (31 : Int32)) = 24
      · replace h := it_pos c323 h
        refine w_tswIn (pc := 33) (tgt := 864) X dL_law_33 c323 (by decide) (by decide) rfl (by decide) ?_
        refine w_aload_n (pc := 864) X dL_law_864 1 rfl ?_
        refine w_aload_n (pc := 865) X dL_law_865 0 rfl ?_
        refine w_iload_n (pc := 866) X dL_law_866 3 rfl ?_
        refine w_iconst (pc := 867) X dL_law_867 (v := 1) rfl ?_
        refine w_iadd (pc := 868) X dL_law_868 ?_
        obtain ⟨g250, h⟩ := gd_inv h
        refine w_sld (pc := 869) X hX dL_law_869 g250 ?_
        obtain ⟨r253, s251, h252, h⟩ := bd2_inv h
        refine w_callV (pc := 870) X dL_law_870 (M8_patterns h252) k_x (by decide) rfl cw_99_116 ⟨Nat.le_of_ble_eq_true rfl, Nat.le_of_ble_eq_true rfl⟩ rfl rfl (Nat.le_of_ble_eq_true rfl) ?_
        show wpm φ ad 873 [(0, .ref b), (1, .ref (ad 0)), (2, .ref (ad 43)), (3, .int v3)] [.int r253] s251
        refine w_aload_n (pc := 873) X dL_law_873 2 rfl ?_
        refine w_aload_n (pc := 874) X dL_law_874 0 rfl ?_
        refine w_iload_n (pc := 875) X dL_law_875 3 rfl ?_
        refine w_iconst (pc := 876) X dL_law_876 (v := 1) rfl ?_
        refine w_iadd (pc := 877) X dL_law_877 ?_
        obtain ⟨g254, h⟩ := gd_inv h
        refine w_sld (pc := 878) X hX dL_law_878 g254 ?_
        obtain ⟨r257, s255, h256, h⟩ := bd2_inv h
        refine w_callV (pc := 879) X dL_law_879 (M9_patterns h256) k_m (by decide) rfl cw_99_119 ⟨Nat.le_of_ble_eq_true rfl, Nat.le_of_ble_eq_true rfl⟩ rfl rfl (Nat.le_of_ble_eq_true rfl) ?_
        show wpm φ ad 882 [(0, .ref b), (1, .ref (ad 0)), (2, .ref (ad 43)), (3, .int v3)] [.int r257, .int r253] s255
        refine w_icmp_eq (pc := 882) (tgt := 999) X dL_law_882 (by decide) (fun c258 => ?_) (fun c258 => ?_)
        · replace h := it_pos c258 h
          refine w_iinc (pc := 999) X dL_law_999 3 rfl (v := (v3 + 6)) rfl (by decide) (lv' := [(3, .int (v3 + 6)), (0, .ref b), (1, .ref (ad 0)), (2, .ref (ad 43))]) rfl ?_
          refine w_goto (tgt := 18) (pc := 1002) X dL_law_1002 (by decide) ?_
          exact w_sub (pc := 18) [1, 2, 3, 0] rfl (ih _ _ h)
        · replace h := it_neg c258 h
          refine w_iconst (pc := 885) X dL_law_885 (v := 0) rfl ?_
          exact (law_no h).elim
      replace h := it_neg c323 h
      by_cases c324 : ((xs v3.toNatClampNeg) &&& (31 : Int32)) = 25
      · replace h := it_pos c324 h
        refine w_tswIn (pc := 33) (tgt := 887) X dL_law_33 c324 (by decide) (by decide) rfl (by decide) ?_
        refine w_aload_n (pc := 887) X dL_law_887 1 rfl ?_
        refine w_aload_n (pc := 888) X dL_law_888 0 rfl ?_
        refine w_iload_n (pc := 889) X dL_law_889 3 rfl ?_
        refine w_iconst (pc := 890) X dL_law_890 (v := 1) rfl ?_
        refine w_iadd (pc := 891) X dL_law_891 ?_
        obtain ⟨g259, h⟩ := gd_inv h
        refine w_sld (pc := 892) X hX dL_law_892 g259 ?_
        refine w_aload_n (pc := 893) X dL_law_893 0 rfl ?_
        refine w_iload_n (pc := 894) X dL_law_894 3 rfl ?_
        refine w_iconst (pc := 895) X dL_law_895 (v := 2) rfl ?_
        refine w_iadd (pc := 896) X dL_law_896 ?_
        obtain ⟨g260, h⟩ := gd_inv h
        refine w_sld (pc := 897) X hX dL_law_897 g260 ?_
        refine w_aload_n (pc := 898) X dL_law_898 0 rfl ?_
        refine w_iload_n (pc := 899) X dL_law_899 3 rfl ?_
        refine w_iconst (pc := 900) X dL_law_900 (v := 3) rfl ?_
        refine w_iadd (pc := 901) X dL_law_901 ?_
        obtain ⟨g261, h⟩ := gd_inv h
        refine w_sld (pc := 902) X hX dL_law_902 g261 ?_
        obtain ⟨r264, s262, h263, h⟩ := bd2_inv h
        refine w_callV (pc := 903) X dL_law_903 (M8_draws h263) k_x (by decide) rfl cw_99_120 ⟨Nat.le_of_ble_eq_true rfl, Nat.le_of_ble_eq_true rfl⟩ rfl rfl (Nat.le_of_ble_eq_true rfl) ?_
        show wpm φ ad 906 [(0, .ref b), (1, .ref (ad 0)), (2, .ref (ad 43)), (3, .int v3)] [.int r264] s262
        refine w_aload_n (pc := 906) X dL_law_906 2 rfl ?_
        refine w_aload_n (pc := 907) X dL_law_907 0 rfl ?_
        refine w_iload_n (pc := 908) X dL_law_908 3 rfl ?_
        refine w_iconst (pc := 909) X dL_law_909 (v := 1) rfl ?_
        refine w_iadd (pc := 910) X dL_law_910 ?_
        obtain ⟨g265, h⟩ := gd_inv h
        refine w_sld (pc := 911) X hX dL_law_911 g265 ?_
        refine w_aload_n (pc := 912) X dL_law_912 0 rfl ?_
        refine w_iload_n (pc := 913) X dL_law_913 3 rfl ?_
        refine w_iconst (pc := 914) X dL_law_914 (v := 2) rfl ?_
        refine w_iadd (pc := 915) X dL_law_915 ?_
        obtain ⟨g266, h⟩ := gd_inv h
        refine w_sld (pc := 916) X hX dL_law_916 g266 ?_
        refine w_aload_n (pc := 917) X dL_law_917 0 rfl ?_
        refine w_iload_n (pc := 918) X dL_law_918 3 rfl ?_
        refine w_iconst (pc := 919) X dL_law_919 (v := 3) rfl ?_
        refine w_iadd (pc := 920) X dL_law_920 ?_
        obtain ⟨g267, h⟩ := gd_inv h
        refine w_sld (pc := 921) X hX dL_law_921 g267 ?_
        obtain ⟨r270, s268, h269, h⟩ := bd2_inv h
        refine w_callV (pc := 922) X dL_law_922 (M9_draws h269) k_m (by decide) rfl cw_99_124 ⟨Nat.le_of_ble_eq_true rfl, Nat.le_of_ble_eq_true rfl⟩ rfl rfl (Nat.le_of_ble_eq_true rfl) ?_
        show wpm φ ad 925 [(0, .ref b), (1, .ref (ad 0)), (2, .ref (ad 43)), (3, .int v3)] [.int r270, .int r264] s268
        refine w_icmp_eq (pc := 925) (tgt := 999) X dL_law_925 (by decide) (fun c271 => ?_) (fun c271 => ?_)
        · replace h := it_pos c271 h
          refine w_iinc (pc := 999) X dL_law_999 3 rfl (v := (v3 + 6)) rfl (by decide) (lv' := [(3, .int (v3 + 6)), (0, .ref b), (1, .ref (ad 0)), (2, .ref (ad 43))]) rfl ?_
          refine w_goto (tgt := 18) (pc := 1002) X dL_law_1002 (by decide) ?_
          exact w_sub (pc := 18) [1, 2, 3, 0] rfl (ih _ _ h)
        · replace h := it_neg c271 h
          refine w_iconst (pc := 928) X dL_law_928 (v := 0) rfl ?_
          exact (law_no h).elim
      replace h := it_neg c324 h
      by_cases c325 : ((xs v3.toNatClampNeg) &&& (31 : Int32)) = 26
      · replace h := it_pos c325 h
        refine w_tswIn (pc := 33) (tgt := 930) X dL_law_33 c325 (by decide) (by decide) rfl (by decide) ?_
        refine w_aload_n (pc := 930) X dL_law_930 1 rfl ?_
        refine w_aload_n (pc := 931) X dL_law_931 0 rfl ?_
        refine w_iload_n (pc := 932) X dL_law_932 3 rfl ?_
        refine w_iconst (pc := 933) X dL_law_933 (v := 1) rfl ?_
        refine w_iadd (pc := 934) X dL_law_934 ?_
        obtain ⟨g272, h⟩ := gd_inv h
        refine w_sld (pc := 935) X hX dL_law_935 g272 ?_
        obtain ⟨r275, s273, h274, h⟩ := bd2_inv h
        refine w_callV (pc := 936) X dL_law_936 (M8_image h274) k_x (by decide) rfl cw_99_125 ⟨Nat.le_of_ble_eq_true rfl, Nat.le_of_ble_eq_true rfl⟩ rfl rfl (Nat.le_of_ble_eq_true rfl) ?_
        show wpm φ ad 939 [(0, .ref b), (1, .ref (ad 0)), (2, .ref (ad 43)), (3, .int v3)] [.int r275] s273
        refine w_aload_n (pc := 939) X dL_law_939 2 rfl ?_
        refine w_aload_n (pc := 940) X dL_law_940 0 rfl ?_
        refine w_iload_n (pc := 941) X dL_law_941 3 rfl ?_
        refine w_iconst (pc := 942) X dL_law_942 (v := 1) rfl ?_
        refine w_iadd (pc := 943) X dL_law_943 ?_
        obtain ⟨g276, h⟩ := gd_inv h
        refine w_sld (pc := 944) X hX dL_law_944 g276 ?_
        obtain ⟨r279, s277, h278, h⟩ := bd2_inv h
        refine w_callV (pc := 945) X dL_law_945 (M9_image h278) k_m (by decide) rfl cw_99_128 ⟨Nat.le_of_ble_eq_true rfl, Nat.le_of_ble_eq_true rfl⟩ rfl rfl (Nat.le_of_ble_eq_true rfl) ?_
        show wpm φ ad 948 [(0, .ref b), (1, .ref (ad 0)), (2, .ref (ad 43)), (3, .int v3)] [.int r279, .int r275] s277
        refine w_icmp_eq (pc := 948) (tgt := 999) X dL_law_948 (by decide) (fun c280 => ?_) (fun c280 => ?_)
        · replace h := it_pos c280 h
          refine w_iinc (pc := 999) X dL_law_999 3 rfl (v := (v3 + 6)) rfl (by decide) (lv' := [(3, .int (v3 + 6)), (0, .ref b), (1, .ref (ad 0)), (2, .ref (ad 43))]) rfl ?_
          refine w_goto (tgt := 18) (pc := 1002) X dL_law_1002 (by decide) ?_
          exact w_sub (pc := 18) [1, 2, 3, 0] rfl (ih _ _ h)
        · replace h := it_neg c280 h
          refine w_iconst (pc := 951) X dL_law_951 (v := 0) rfl ?_
          exact (law_no h).elim
      replace h := it_neg c325 h
      by_cases c326 : ((xs v3.toNatClampNeg) &&& (31 : Int32)) = 27
      · replace h := it_pos c326 h
        refine w_tswIn (pc := 33) (tgt := 953) X dL_law_33 c326 (by decide) (by decide) rfl (by decide) ?_
        refine w_aload_n (pc := 953) X dL_law_953 1 rfl ?_
        refine w_aload_n (pc := 954) X dL_law_954 0 rfl ?_
        refine w_iload_n (pc := 955) X dL_law_955 3 rfl ?_
        refine w_iconst (pc := 956) X dL_law_956 (v := 1) rfl ?_
        refine w_iadd (pc := 957) X dL_law_957 ?_
        obtain ⟨g281, h⟩ := gd_inv h
        refine w_sld (pc := 958) X hX dL_law_958 g281 ?_
        obtain ⟨r284, s282, h283, h⟩ := bd2_inv h
        refine w_callV (pc := 959) X dL_law_959 (M8_restore h283) k_x (by decide) rfl cw_99_129 ⟨Nat.le_of_ble_eq_true rfl, Nat.le_of_ble_eq_true rfl⟩ rfl rfl (Nat.le_of_ble_eq_true rfl) ?_
        show wpm φ ad 962 [(0, .ref b), (1, .ref (ad 0)), (2, .ref (ad 43)), (3, .int v3)] [.int r284] s282
        refine w_aload_n (pc := 962) X dL_law_962 2 rfl ?_
        refine w_aload_n (pc := 963) X dL_law_963 0 rfl ?_
        refine w_iload_n (pc := 964) X dL_law_964 3 rfl ?_
        refine w_iconst (pc := 965) X dL_law_965 (v := 1) rfl ?_
        refine w_iadd (pc := 966) X dL_law_966 ?_
        obtain ⟨g285, h⟩ := gd_inv h
        refine w_sld (pc := 967) X hX dL_law_967 g285 ?_
        obtain ⟨r288, s286, h287, h⟩ := bd2_inv h
        refine w_callV (pc := 968) X dL_law_968 (M9_restore h287) k_m (by decide) rfl cw_99_132 ⟨Nat.le_of_ble_eq_true rfl, Nat.le_of_ble_eq_true rfl⟩ rfl rfl (Nat.le_of_ble_eq_true rfl) ?_
        show wpm φ ad 971 [(0, .ref b), (1, .ref (ad 0)), (2, .ref (ad 43)), (3, .int v3)] [.int r288, .int r284] s286
        refine w_icmp_eq (pc := 971) (tgt := 999) X dL_law_971 (by decide) (fun c289 => ?_) (fun c289 => ?_)
        · replace h := it_pos c289 h
          refine w_iinc (pc := 999) X dL_law_999 3 rfl (v := (v3 + 6)) rfl (by decide) (lv' := [(3, .int (v3 + 6)), (0, .ref b), (1, .ref (ad 0)), (2, .ref (ad 43))]) rfl ?_
          refine w_goto (tgt := 18) (pc := 1002) X dL_law_1002 (by decide) ?_
          exact w_sub (pc := 18) [1, 2, 3, 0] rfl (ih _ _ h)
        · replace h := it_neg c289 h
          refine w_iconst (pc := 974) X dL_law_974 (v := 0) rfl ?_
          exact (law_no h).elim
      replace h := it_neg c326 h
      by_cases c327 : ((xs v3.toNatClampNeg) &&& (31 : Int32)) = 28
      · replace h := it_pos c327 h
        refine w_tswIn (pc := 33) (tgt := 976) X dL_law_33 c327 (by decide) (by decide) rfl (by decide) ?_
        refine w_aload_n (pc := 976) X dL_law_976 1 rfl ?_
        refine w_aload_n (pc := 977) X dL_law_977 0 rfl ?_
        refine w_iload_n (pc := 978) X dL_law_978 3 rfl ?_
        refine w_iconst (pc := 979) X dL_law_979 (v := 1) rfl ?_
        refine w_iadd (pc := 980) X dL_law_980 ?_
        obtain ⟨g290, h⟩ := gd_inv h
        refine w_sld (pc := 981) X hX dL_law_981 g290 ?_
        obtain ⟨r293, s291, h292, h⟩ := bd2_inv h
        refine w_callV (pc := 982) X dL_law_982 (M8_told h292) k_x (by decide) rfl cw_99_133 ⟨Nat.le_of_ble_eq_true rfl, Nat.le_of_ble_eq_true rfl⟩ rfl rfl (Nat.le_of_ble_eq_true rfl) ?_
        show wpm φ ad 985 [(0, .ref b), (1, .ref (ad 0)), (2, .ref (ad 43)), (3, .int v3)] [.int r293] s291
        refine w_aload_n (pc := 985) X dL_law_985 2 rfl ?_
        refine w_aload_n (pc := 986) X dL_law_986 0 rfl ?_
        refine w_iload_n (pc := 987) X dL_law_987 3 rfl ?_
        refine w_iconst (pc := 988) X dL_law_988 (v := 1) rfl ?_
        refine w_iadd (pc := 989) X dL_law_989 ?_
        obtain ⟨g294, h⟩ := gd_inv h
        refine w_sld (pc := 990) X hX dL_law_990 g294 ?_
        obtain ⟨r297, s295, h296, h⟩ := bd2_inv h
        refine w_callV (pc := 991) X dL_law_991 (M9_told h296) k_m (by decide) rfl cw_99_136 ⟨Nat.le_of_ble_eq_true rfl, Nat.le_of_ble_eq_true rfl⟩ rfl rfl (Nat.le_of_ble_eq_true rfl) ?_
        show wpm φ ad 994 [(0, .ref b), (1, .ref (ad 0)), (2, .ref (ad 43)), (3, .int v3)] [.int r297, .int r293] s295
        refine w_icmp_eq (pc := 994) (tgt := 999) X dL_law_994 (by decide) (fun c298 => ?_) (fun c298 => ?_)
        · replace h := it_pos c298 h
          refine w_iinc (pc := 999) X dL_law_999 3 rfl (v := (v3 + 6)) rfl (by decide) (lv' := [(3, .int (v3 + 6)), (0, .ref b), (1, .ref (ad 0)), (2, .ref (ad 43))]) rfl ?_
          refine w_goto (tgt := 18) (pc := 1002) X dL_law_1002 (by decide) ?_
          exact w_sub (pc := 18) [1, 2, 3, 0] rfl (ih _ _ h)
        · replace h := it_neg c298 h
          refine w_iconst (pc := 997) X dL_law_997 (v := 0) rfl ?_
          exact (law_no h).elim
      replace h := it_neg c327 h
      refine w_tswOut (pc := 33) (tgt := 999) X dL_law_33 (fun i i1 i2 => by
          rcases (show i = 0 ∨ i = 1 ∨ i = 2 ∨ i = 3 ∨ i = 4 ∨ i = 5 ∨ i = 6 ∨ i = 7 ∨ i = 8 ∨ i = 9 ∨ i = 10 ∨ i = 11 ∨ i = 12 ∨ i = 13 ∨ i = 14 ∨ i = 15 ∨ i = 16 ∨ i = 17 ∨ i = 18 ∨ i = 19 ∨ i = 20 ∨ i = 21 ∨ i = 22 ∨ i = 23 ∨ i = 24 ∨ i = 25 ∨ i = 26 ∨ i = 27 ∨ i = 28 by omega) with rfl | rfl | rfl | rfl | rfl | rfl | rfl | rfl | rfl | rfl | rfl | rfl | rfl | rfl | rfl | rfl | rfl | rfl | rfl | rfl | rfl | rfl | rfl | rfl | rfl | rfl | rfl | rfl | rfl
          · exact c299
          · exact c300
          · exact c301
          · exact c302
          · exact c303
          · exact c304
          · exact c305
          · exact c306
          · exact c307
          · exact c308
          · exact c309
          · exact c310
          · exact c311
          · exact c312
          · exact c313
          · exact c314
          · exact c315
          · exact c316
          · exact c317
          · exact c318
          · exact c319
          · exact c320
          · exact c321
          · exact c322
          · exact c323
          · exact c324
          · exact c325
          · exact c326
          · exact c327) (by decide) ?_
      refine w_iinc (pc := 999) X dL_law_999 3 rfl (v := (v3 + 6)) rfl (by decide) (lv' := [(3, .int (v3 + 6)), (0, .ref b), (1, .ref (ad 0)), (2, .ref (ad 43))]) rfl ?_
      refine w_goto (tgt := 18) (pc := 1002) X dL_law_1002 (by decide) ?_
      exact w_sub (pc := 18) [1, 2, 3, 0] rfl (ih _ _ h)

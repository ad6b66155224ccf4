theorem lg_cmp_self (x : Int64) : lg_cmp x x = 0 := by simp [lg_cmp]
theorem mc_X8_post : Cond.code yX8_post cX8_post 2 (some .int) ∈ gW := gW_in 351 (by decide +kernel) (by decide +kernel)
theorem ok_X8_post : okM yX8_post cX8_post 2 (some .int) 1 := ⟨mc_X8_post, mz_RX8, by decide +kernel⟩
theorem mi_X8_post : Cond.instanceMethod yX8_post ∈ gW := gW_in 349 (by decide +kernel) (by decide +kernel)
theorem ml_X8_post : Cond.selects RX8 yX8_post yX8_post ∈ gW := gW_in 350 (by decide +kernel) (by decide +kernel)
theorem m_L_23 : Cond.methodLink RL 23 yX8_post ∈ gW := gW_in 348 (by decide +kernel) (by decide +kernel)
theorem mc_X9_post : Cond.code yX9_post cX9_post 2 (some .int) ∈ gW := gW_in 854 (by decide +kernel) (by decide +kernel)
theorem ok_X9_post : okM yX9_post cX9_post 2 (some .int) 1 := ⟨mc_X9_post, mz_RX9, by decide +kernel⟩
theorem mi_X9_post : Cond.instanceMethod yX9_post ∈ gW := gW_in 852 (by decide +kernel) (by decide +kernel)
theorem ml_X9_post : Cond.selects RX9 yX9_post yX9_post ∈ gW := gW_in 853 (by decide +kernel) (by decide +kernel)
theorem m_L_27 : Cond.methodLink RL 27 yX9_post ∈ gW := gW_in 851 (by decide +kernel) (by decide +kernel)
theorem mc_X8_kind : Cond.code yX8_kind cX8_kind 4 (some .int) ∈ gW := gW_in 359 (by decide +kernel) (by decide +kernel)
theorem ok_X8_kind : okM yX8_kind cX8_kind 4 (some .int) 3 := ⟨mc_X8_kind, mz_RX8, by decide +kernel⟩
theorem mi_X8_kind : Cond.instanceMethod yX8_kind ∈ gW := gW_in 357 (by decide +kernel) (by decide +kernel)
theorem ml_X8_kind : Cond.selects RX8 yX8_kind yX8_kind ∈ gW := gW_in 358 (by decide +kernel) (by decide +kernel)
theorem m_L_28 : Cond.methodLink RL 28 yX8_kind ∈ gW := gW_in 356 (by decide +kernel) (by decide +kernel)
theorem mc_X9_kind : Cond.code yX9_kind cX9_kind 4 (some .int) ∈ gW := gW_in 858 (by decide +kernel) (by decide +kernel)
theorem ok_X9_kind : okM yX9_kind cX9_kind 4 (some .int) 3 := ⟨mc_X9_kind, mz_RX9, by decide +kernel⟩
theorem mi_X9_kind : Cond.instanceMethod yX9_kind ∈ gW := gW_in 856 (by decide +kernel) (by decide +kernel)
theorem ml_X9_kind : Cond.selects RX9 yX9_kind yX9_kind ∈ gW := gW_in 857 (by decide +kernel) (by decide +kernel)
theorem m_L_31 : Cond.methodLink RL 31 yX9_kind ∈ gW := gW_in 855 (by decide +kernel) (by decide +kernel)
theorem mc_X8_later : Cond.code yX8_later cX8_later 1 (some .int) ∈ gW := gW_in 371 (by decide +kernel) (by decide +kernel)
theorem ok_X8_later : okM yX8_later cX8_later 1 (some .int) 0 := ⟨mc_X8_later, mz_RX8, by decide +kernel⟩
theorem mi_X8_later : Cond.instanceMethod yX8_later ∈ gW := gW_in 369 (by decide +kernel) (by decide +kernel)
theorem ml_X8_later : Cond.selects RX8 yX8_later yX8_later ∈ gW := gW_in 370 (by decide +kernel) (by decide +kernel)
theorem m_L_32 : Cond.methodLink RL 32 yX8_later ∈ gW := gW_in 368 (by decide +kernel) (by decide +kernel)
theorem mc_X9_later : Cond.code yX9_later cX9_later 1 (some .int) ∈ gW := gW_in 866 (by decide +kernel) (by decide +kernel)
theorem ok_X9_later : okM yX9_later cX9_later 1 (some .int) 0 := ⟨mc_X9_later, mz_RX9, by decide +kernel⟩
theorem mi_X9_later : Cond.instanceMethod yX9_later ∈ gW := gW_in 864 (by decide +kernel) (by decide +kernel)
theorem ml_X9_later : Cond.selects RX9 yX9_later yX9_later ∈ gW := gW_in 865 (by decide +kernel) (by decide +kernel)
theorem m_L_36 : Cond.methodLink RL 36 yX9_later ∈ gW := gW_in 863 (by decide +kernel) (by decide +kernel)
theorem mc_X8_tell : Cond.code yX8_tell cX8_tell 8 (some .int) ∈ gW := gW_in 375 (by decide +kernel) (by decide +kernel)
theorem ok_X8_tell : okM yX8_tell cX8_tell 8 (some .int) 5 := ⟨mc_X8_tell, mz_RX8, by decide +kernel⟩
theorem mi_X8_tell : Cond.instanceMethod yX8_tell ∈ gW := gW_in 373 (by decide +kernel) (by decide +kernel)
theorem ml_X8_tell : Cond.selects RX8 yX8_tell yX8_tell ∈ gW := gW_in 374 (by decide +kernel) (by decide +kernel)
theorem m_L_37 : Cond.methodLink RL 37 yX8_tell ∈ gW := gW_in 372 (by decide +kernel) (by decide +kernel)
theorem mc_X9_tell : Cond.code yX9_tell cX9_tell 8 (some .int) ∈ gW := gW_in 870 (by decide +kernel) (by decide +kernel)
theorem ok_X9_tell : okM yX9_tell cX9_tell 8 (some .int) 5 := ⟨mc_X9_tell, mz_RX9, by decide +kernel⟩
theorem mi_X9_tell : Cond.instanceMethod yX9_tell ∈ gW := gW_in 868 (by decide +kernel) (by decide +kernel)
theorem ml_X9_tell : Cond.selects RX9 yX9_tell yX9_tell ∈ gW := gW_in 869 (by decide +kernel) (by decide +kernel)
theorem m_L_41 : Cond.methodLink RL 41 yX9_tell ∈ gW := gW_in 867 (by decide +kernel) (by decide +kernel)
theorem mc_X8_off : Cond.code yX8_off cX8_off 6 (some .boolean) ∈ gW := gW_in 417 (by decide +kernel) (by decide +kernel)
theorem ok_X8_off : okM yX8_off cX8_off 6 (some .boolean) 4 := ⟨mc_X8_off, mz_RX8, by decide +kernel⟩
theorem mi_X8_off : Cond.instanceMethod yX8_off ∈ gW := gW_in 415 (by decide +kernel) (by decide +kernel)
theorem ml_X8_off : Cond.selects RX8 yX8_off yX8_off ∈ gW := gW_in 416 (by decide +kernel) (by decide +kernel)
theorem m_L_42 : Cond.methodLink RL 42 yX8_off ∈ gW := gW_in 414 (by decide +kernel) (by decide +kernel)
theorem mc_X9_off : Cond.code yX9_off cX9_off 6 (some .boolean) ∈ gW := gW_in 880 (by decide +kernel) (by decide +kernel)
theorem ok_X9_off : okM yX9_off cX9_off 6 (some .boolean) 4 := ⟨mc_X9_off, mz_RX9, by decide +kernel⟩
theorem mi_X9_off : Cond.instanceMethod yX9_off ∈ gW := gW_in 878 (by decide +kernel) (by decide +kernel)
theorem ml_X9_off : Cond.selects RX9 yX9_off yX9_off ∈ gW := gW_in 879 (by decide +kernel) (by decide +kernel)
theorem m_L_46 : Cond.methodLink RL 46 yX9_off ∈ gW := gW_in 877 (by decide +kernel) (by decide +kernel)
theorem mc_X8_wind : Cond.code yX8_wind cX8_wind 4 (some .boolean) ∈ gW := gW_in 433 (by decide +kernel) (by decide +kernel)
theorem ok_X8_wind : okM yX8_wind cX8_wind 4 (some .boolean) 3 := ⟨mc_X8_wind, mz_RX8, by decide +kernel⟩
theorem mi_X8_wind : Cond.instanceMethod yX8_wind ∈ gW := gW_in 431 (by decide +kernel) (by decide +kernel)
theorem ml_X8_wind : Cond.selects RX8 yX8_wind yX8_wind ∈ gW := gW_in 432 (by decide +kernel) (by decide +kernel)
theorem m_L_47 : Cond.methodLink RL 47 yX8_wind ∈ gW := gW_in 430 (by decide +kernel) (by decide +kernel)
theorem mc_X9_wind : Cond.code yX9_wind cX9_wind 4 (some .boolean) ∈ gW := gW_in 884 (by decide +kernel) (by decide +kernel)
theorem ok_X9_wind : okM yX9_wind cX9_wind 4 (some .boolean) 3 := ⟨mc_X9_wind, mz_RX9, by decide +kernel⟩
theorem mi_X9_wind : Cond.instanceMethod yX9_wind ∈ gW := gW_in 882 (by decide +kernel) (by decide +kernel)
theorem ml_X9_wind : Cond.selects RX9 yX9_wind yX9_wind ∈ gW := gW_in 883 (by decide +kernel) (by decide +kernel)
theorem m_L_51 : Cond.methodLink RL 51 yX9_wind ∈ gW := gW_in 881 (by decide +kernel) (by decide +kernel)
theorem mc_X8_known : Cond.code yX8_known cX8_known 2 (some .boolean) ∈ gW := gW_in 437 (by decide +kernel) (by decide +kernel)
theorem ok_X8_known : okM yX8_known cX8_known 2 (some .boolean) 1 := ⟨mc_X8_known, mz_RX8, by decide +kernel⟩
theorem mi_X8_known : Cond.instanceMethod yX8_known ∈ gW := gW_in 435 (by decide +kernel) (by decide +kernel)
theorem ml_X8_known : Cond.selects RX8 yX8_known yX8_known ∈ gW := gW_in 436 (by decide +kernel) (by decide +kernel)
theorem m_L_52 : Cond.methodLink RL 52 yX8_known ∈ gW := gW_in 434 (by decide +kernel) (by decide +kernel)
theorem mc_X9_known : Cond.code yX9_known cX9_known 2 (some .boolean) ∈ gW := gW_in 888 (by decide +kernel) (by decide +kernel)
theorem ok_X9_known : okM yX9_known cX9_known 2 (some .boolean) 1 := ⟨mc_X9_known, mz_RX9, by decide +kernel⟩
theorem mi_X9_known : Cond.instanceMethod yX9_known ∈ gW := gW_in 886 (by decide +kernel) (by decide +kernel)
theorem ml_X9_known : Cond.selects RX9 yX9_known yX9_known ∈ gW := gW_in 887 (by decide +kernel) (by decide +kernel)
theorem m_L_56 : Cond.methodLink RL 56 yX9_known ∈ gW := gW_in 885 (by decide +kernel) (by decide +kernel)
theorem mc_X8_partner : Cond.code yX8_partner cX8_partner 2 (some .int) ∈ gW := gW_in 445 (by decide +kernel) (by decide +kernel)
theorem ok_X8_partner : okM yX8_partner cX8_partner 2 (some .int) 1 := ⟨mc_X8_partner, mz_RX8, by decide +kernel⟩
theorem mi_X8_partner : Cond.instanceMethod yX8_partner ∈ gW := gW_in 443 (by decide +kernel) (by decide +kernel)
theorem ml_X8_partner : Cond.selects RX8 yX8_partner yX8_partner ∈ gW := gW_in 444 (by decide +kernel) (by decide +kernel)
theorem m_L_57 : Cond.methodLink RL 57 yX8_partner ∈ gW := gW_in 442 (by decide +kernel) (by decide +kernel)
theorem mc_X9_partner : Cond.code yX9_partner cX9_partner 2 (some .int) ∈ gW := gW_in 892 (by decide +kernel) (by decide +kernel)
theorem ok_X9_partner : okM yX9_partner cX9_partner 2 (some .int) 1 := ⟨mc_X9_partner, mz_RX9, by decide +kernel⟩
theorem mi_X9_partner : Cond.instanceMethod yX9_partner ∈ gW := gW_in 890 (by decide +kernel) (by decide +kernel)
theorem ml_X9_partner : Cond.selects RX9 yX9_partner yX9_partner ∈ gW := gW_in 891 (by decide +kernel) (by decide +kernel)
theorem m_L_60 : Cond.methodLink RL 60 yX9_partner ∈ gW := gW_in 889 (by decide +kernel) (by decide +kernel)
theorem mc_X8_bird : Cond.code yX8_bird cX8_bird 2 (some .int) ∈ gW := gW_in 533 (by decide +kernel) (by decide +kernel)
theorem ok_X8_bird : okM yX8_bird cX8_bird 2 (some .int) 1 := ⟨mc_X8_bird, mz_RX8, by decide +kernel⟩
theorem mi_X8_bird : Cond.instanceMethod yX8_bird ∈ gW := gW_in 531 (by decide +kernel) (by decide +kernel)
theorem ml_X8_bird : Cond.selects RX8 yX8_bird yX8_bird ∈ gW := gW_in 532 (by decide +kernel) (by decide +kernel)
theorem m_L_61 : Cond.methodLink RL 61 yX8_bird ∈ gW := gW_in 530 (by decide +kernel) (by decide +kernel)
theorem mc_X9_bird : Cond.code yX9_bird cX9_bird 2 (some .int) ∈ gW := gW_in 932 (by decide +kernel) (by decide +kernel)
theorem ok_X9_bird : okM yX9_bird cX9_bird 2 (some .int) 1 := ⟨mc_X9_bird, mz_RX9, by decide +kernel⟩
theorem mi_X9_bird : Cond.instanceMethod yX9_bird ∈ gW := gW_in 930 (by decide +kernel) (by decide +kernel)
theorem ml_X9_bird : Cond.selects RX9 yX9_bird yX9_bird ∈ gW := gW_in 931 (by decide +kernel) (by decide +kernel)
theorem m_L_64 : Cond.methodLink RL 64 yX9_bird ∈ gW := gW_in 929 (by decide +kernel) (by decide +kernel)
theorem m_L_65 : Cond.methodLink RL 65 yL_birds ∈ gW := gW_in 624 (by decide +kernel) (by decide +kernel)
theorem ms_L_birds : Cond.static yL_birds ∈ gW := gW_in 625 (by decide +kernel) (by decide +kernel)
theorem mc_L_birds : Cond.codeWith yL_birds cL_birds 6 (some .int) [(0, 12, 15, 13)] ∈ gW := gW_in 626 (by decide +kernel) (by decide +kernel)
theorem mz_RL : Cond.initialized RL ∈ gW := gW_in 81 (by decide +kernel) (by decide +kernel)
theorem mc_X9_birds : Cond.code yX9_birds cX9_birds 6 (some .int) ∈ gW := gW_in 940 (by decide +kernel) (by decide +kernel)
theorem ok_X9_birds : okM yX9_birds cX9_birds 6 (some .int) 3 := ⟨mc_X9_birds, mz_RX9, by decide +kernel⟩
theorem mi_X9_birds : Cond.instanceMethod yX9_birds ∈ gW := gW_in 938 (by decide +kernel) (by decide +kernel)
theorem ml_X9_birds : Cond.selects RX9 yX9_birds yX9_birds ∈ gW := gW_in 939 (by decide +kernel) (by decide +kernel)
theorem m_L_70 : Cond.methodLink RL 70 yX9_birds ∈ gW := gW_in 937 (by decide +kernel) (by decide +kernel)
theorem mc_X9_thrown : Cond.code yX9_thrown cX9_thrown 1 (some .int) ∈ gW := gW_in 740 (by decide +kernel) (by decide +kernel)
theorem ok_X9_thrown : okM yX9_thrown cX9_thrown 1 (some .int) 0 := ⟨mc_X9_thrown, mz_RX9, by decide +kernel⟩
theorem mi_X9_thrown : Cond.instanceMethod yX9_thrown ∈ gW := gW_in 738 (by decide +kernel) (by decide +kernel)
theorem ml_X9_thrown : Cond.selects RX9 yX9_thrown yX9_thrown ∈ gW := gW_in 739 (by decide +kernel) (by decide +kernel)
theorem m_L_71 : Cond.methodLink RL 71 yX9_thrown ∈ gW := gW_in 737 (by decide +kernel) (by decide +kernel)
theorem mc_X8_year : Cond.code yX8_year cX8_year 3 (some .int) ∈ gW := gW_in 537 (by decide +kernel) (by decide +kernel)
theorem ok_X8_year : okM yX8_year cX8_year 3 (some .int) 2 := ⟨mc_X8_year, mz_RX8, by decide +kernel⟩
theorem mi_X8_year : Cond.instanceMethod yX8_year ∈ gW := gW_in 535 (by decide +kernel) (by decide +kernel)
theorem ml_X8_year : Cond.selects RX8 yX8_year yX8_year ∈ gW := gW_in 536 (by decide +kernel) (by decide +kernel)
theorem m_L_74 : Cond.methodLink RL 74 yX8_year ∈ gW := gW_in 534 (by decide +kernel) (by decide +kernel)
theorem mc_X9_year : Cond.code yX9_year cX9_year 6 (some .int) ∈ gW := gW_in 972 (by decide +kernel) (by decide +kernel)
theorem ok_X9_year : okM yX9_year cX9_year 6 (some .int) 2 := ⟨mc_X9_year, mz_RX9, by decide +kernel⟩
theorem mi_X9_year : Cond.instanceMethod yX9_year ∈ gW := gW_in 970 (by decide +kernel) (by decide +kernel)
theorem ml_X9_year : Cond.selects RX9 yX9_year yX9_year ∈ gW := gW_in 971 (by decide +kernel) (by decide +kernel)
theorem m_L_77 : Cond.methodLink RL 77 yX9_year ∈ gW := gW_in 969 (by decide +kernel) (by decide +kernel)
theorem mc_X8_passage : Cond.code yX8_passage cX8_passage 5 (some .int) ∈ gW := gW_in 601 (by decide +kernel) (by decide +kernel)
theorem ok_X8_passage : okM yX8_passage cX8_passage 5 (some .int) 3 := ⟨mc_X8_passage, mz_RX8, by decide +kernel⟩
theorem mi_X8_passage : Cond.instanceMethod yX8_passage ∈ gW := gW_in 599 (by decide +kernel) (by decide +kernel)
theorem ml_X8_passage : Cond.selects RX8 yX8_passage yX8_passage ∈ gW := gW_in 600 (by decide +kernel) (by decide +kernel)
theorem m_L_78 : Cond.methodLink RL 78 yX8_passage ∈ gW := gW_in 598 (by decide +kernel) (by decide +kernel)
theorem mc_X9_passage : Cond.code yX9_passage cX9_passage 8 (some .int) ∈ gW := gW_in 993 (by decide +kernel) (by decide +kernel)
theorem ok_X9_passage : okM yX9_passage cX9_passage 8 (some .int) 3 := ⟨mc_X9_passage, mz_RX9, by decide +kernel⟩
theorem mi_X9_passage : Cond.instanceMethod yX9_passage ∈ gW := gW_in 991 (by decide +kernel) (by decide +kernel)
theorem ml_X9_passage : Cond.selects RX9 yX9_passage yX9_passage ∈ gW := gW_in 992 (by decide +kernel) (by decide +kernel)
theorem m_L_81 : Cond.methodLink RL 81 yX9_passage ∈ gW := gW_in 990 (by decide +kernel) (by decide +kernel)
theorem mc_X8_change : Cond.code yX8_change cX8_change 3 (some .int) ∈ gW := gW_in 615 (by decide +kernel) (by decide +kernel)
theorem ok_X8_change : okM yX8_change cX8_change 3 (some .int) 2 := ⟨mc_X8_change, mz_RX8, by decide +kernel⟩
theorem mi_X8_change : Cond.instanceMethod yX8_change ∈ gW := gW_in 613 (by decide +kernel) (by decide +kernel)
theorem ml_X8_change : Cond.selects RX8 yX8_change yX8_change ∈ gW := gW_in 614 (by decide +kernel) (by decide +kernel)
theorem m_L_82 : Cond.methodLink RL 82 yX8_change ∈ gW := gW_in 612 (by decide +kernel) (by decide +kernel)
theorem mc_X9_change : Cond.code yX9_change cX9_change 11 (some .int) ∈ gW := gW_in 1001 (by decide +kernel) (by decide +kernel)
theorem ok_X9_change : okM yX9_change cX9_change 11 (some .int) 2 := ⟨mc_X9_change, mz_RX9, by decide +kernel⟩
theorem mi_X9_change : Cond.instanceMethod yX9_change ∈ gW := gW_in 999 (by decide +kernel) (by decide +kernel)
theorem ml_X9_change : Cond.selects RX9 yX9_change yX9_change ∈ gW := gW_in 1000 (by decide +kernel) (by decide +kernel)
theorem m_L_85 : Cond.methodLink RL 85 yX9_change ∈ gW := gW_in 998 (by decide +kernel) (by decide +kernel)
theorem m_L_86 : Cond.methodLink RL 86 yL_look ∈ gW := gW_in 726 (by decide +kernel) (by decide +kernel)
theorem ms_L_look : Cond.static yL_look ∈ gW := gW_in 727 (by decide +kernel) (by decide +kernel)
theorem mc_L_look : Cond.codeWith yL_look cL_look 5 (some .int) [(0, 10, 13, 13)] ∈ gW := gW_in 728 (by decide +kernel) (by decide +kernel)
theorem mc_X9_look : Cond.code yX9_look cX9_look 3 (some .int) ∈ gW := gW_in 1005 (by decide +kernel) (by decide +kernel)
theorem ok_X9_look : okM yX9_look cX9_look 3 (some .int) 2 := ⟨mc_X9_look, mz_RX9, by decide +kernel⟩
theorem mi_X9_look : Cond.instanceMethod yX9_look ∈ gW := gW_in 1003 (by decide +kernel) (by decide +kernel)
theorem ml_X9_look : Cond.selects RX9 yX9_look yX9_look ∈ gW := gW_in 1004 (by decide +kernel) (by decide +kernel)
theorem m_L_89 : Cond.methodLink RL 89 yX9_look ∈ gW := gW_in 1002 (by decide +kernel) (by decide +kernel)
theorem mc_X8_count : Cond.code yX8_count cX8_count 2 (some .int) ∈ gW := gW_in 619 (by decide +kernel) (by decide +kernel)
theorem ok_X8_count : okM yX8_count cX8_count 2 (some .int) 1 := ⟨mc_X8_count, mz_RX8, by decide +kernel⟩
theorem mi_X8_count : Cond.instanceMethod yX8_count ∈ gW := gW_in 617 (by decide +kernel) (by decide +kernel)
theorem ml_X8_count : Cond.selects RX8 yX8_count yX8_count ∈ gW := gW_in 618 (by decide +kernel) (by decide +kernel)
theorem m_L_90 : Cond.methodLink RL 90 yX8_count ∈ gW := gW_in 616 (by decide +kernel) (by decide +kernel)
theorem mc_X9_count : Cond.code yX9_count cX9_count 4 (some .int) ∈ gW := gW_in 1009 (by decide +kernel) (by decide +kernel)
theorem ok_X9_count : okM yX9_count cX9_count 4 (some .int) 1 := ⟨mc_X9_count, mz_RX9, by decide +kernel⟩
theorem mi_X9_count : Cond.instanceMethod yX9_count ∈ gW := gW_in 1007 (by decide +kernel) (by decide +kernel)
theorem ml_X9_count : Cond.selects RX9 yX9_count yX9_count ∈ gW := gW_in 1008 (by decide +kernel) (by decide +kernel)
theorem m_L_93 : Cond.methodLink RL 93 yX9_count ∈ gW := gW_in 1006 (by decide +kernel) (by decide +kernel)
def Sim (Rel : St → SM → Prop) : Prop := ∀ (σ : St) (u : SM), Rel σ u →
  (∀ (x1 : Int32), pX8_post x1 σ (fun r v => pX9_post x1 u (fun r2 u2 => r = r2 ∧ Rel v u2))) ∧
  (∀ (x1 x2 x3 : Int32), pX8_kind x1 x2 x3 σ (fun r v => pX9_kind x1 x2 x3 u (fun r2 u2 => r = r2 ∧ Rel v u2))) ∧
  (pX8_later  σ (fun r v => pX9_later  u (fun r2 u2 => r = r2 ∧ Rel v u2))) ∧
  (∀ (x1 x2 x3 x4 x5 : Int32), pX8_tell x1 x2 x3 x4 x5 σ (fun r v => pX9_tell x1 x2 x3 x4 x5 u (fun r2 u2 => r = r2 ∧ Rel v u2))) ∧
  (∀ (x1 x2 x3 x4 : Int32), x4 = 0 ∨ x4 = 1 → pX8_off x1 x2 x3 x4 σ (fun r v => pX9_off x1 x2 x3 x4 u (fun r2 u2 => r = r2 ∧ Rel v u2))) ∧
  (∀ (x1 x2 x3 : Int32), pX8_wind x1 x2 x3 σ (fun r v => pX9_wind x1 x2 x3 u (fun r2 u2 => r = r2 ∧ Rel v u2))) ∧
  (∀ (x1 : Int32), pX8_known x1 σ (fun r v => pX9_known x1 u (fun r2 u2 => r = r2 ∧ Rel v u2))) ∧
  (∀ (x1 : Int32), pX8_partner x1 σ (fun r v => pX9_partner x1 u (fun r2 u2 => r = r2 ∧ Rel v u2))) ∧
  (∀ (x1 : Int32), pX8_bird x1 σ (fun r v => pX9_bird x1 u (fun r2 u2 => r = r2 ∧ Rel v u2))) ∧
  (∀ (x1 x2 x3 : Int32) (Q : Int32 → St → Prop) (E : St → Prop), (∀ (r : Int32) (v : St), pX9_birds x1 x2 x3 u (fun r2 u2 => pX9_thrown u2 (fun t u3 => t = 0 ∧ r = r2 ∧ Rel v u3)) → Q r v) → (∀ v : St, pX9_birds x1 x2 x3 u (fun _ u2 => pX9_thrown u2 (fun t u3 => t = 1 ∧ Rel v u3)) → E v) → pX8_birds x1 x2 x3 σ Q E) ∧
  (∀ (x1 x2 : Int32), pX8_year x1 x2 σ (fun r v => pX9_year x1 x2 u (fun r2 u2 => r = r2 ∧ Rel v u2))) ∧
  (∀ (x1 x2 x3 : Int32), pX8_passage x1 x2 x3 σ (fun r v => pX9_passage x1 x2 x3 u (fun r2 u2 => r = r2 ∧ Rel v u2))) ∧
  (∀ (x1 x2 : Int32), pX8_change x1 x2 σ (fun r v => pX9_change x1 x2 u (fun r2 u2 => r = r2 ∧ Rel v u2))) ∧
  (∀ (x1 x2 : Int32) (Q : Int32 → St → Prop) (E : St → Prop), (∀ (r : Int32) (v : St), pX9_look x1 x2 u (fun r2 u2 => pX9_thrown u2 (fun t u3 => t = 0 ∧ r = r2 ∧ Rel v u3)) → Q r v) → (∀ v : St, pX9_look x1 x2 u (fun _ u2 => pX9_thrown u2 (fun t u3 => t = 1 ∧ Rel v u3)) → E v) → pX8_look x1 x2 σ Q E) ∧
  (∀ (x1 : Int32), pX8_count x1 σ (fun r v => pX9_count x1 u (fun r2 u2 => r = r2 ∧ Rel v u2)))
def okMH (y : MethodName) (bytes : ByteArray) (maxL : Nat) (ret : Option FieldType) (hh : List (Nat × Nat × Nat × Nat)) (n : Nat) : Prop := Cond.codeWith y bytes maxL ret hh ∈ gW ∧ Cond.initialized y.cls ∈ gW ∧ (y.cls ≠ "java/lang/invoke/MethodHandle" ∧ y.cls ≠ "java/lang/invoke/VarHandle" ∧ (parseMethodDescriptor y.desc).map (fun d => d.parameters.length) = some n)
theorem okW_birds : okMH yL_birds cL_birds 6 (some .int) [(0, 12, 15, 13)] 5 := ⟨mc_L_birds, mz_RL, by decide +kernel⟩
theorem okW_look : okMH yL_look cL_look 5 (some .int) [(0, 10, 13, 13)] 4 := ⟨mc_L_look, mz_RL, by decide +kernel⟩
theorem va_wsS_in {own : String} {index : Nat} {y : MethodName} {ws : List Cond} (h1 : Cond.methodLink own index y ∈ gW) (h2 : Cond.static y ∈ gW) (h3 : Cond.initialized y.cls ∈ gW) (h : GoodIn gW ws) : GoodIn gW (va_wsS own index y ws) := by
  intro w hw
  unfold va_wsS at hw
  rcases List.mem_append.mp hw with q | q
  · have q2 : w ∈ gW := by
      rcases List.mem_cons.mp q with rfl | q
      · exact h1
      rcases List.mem_cons.mp q with rfl | q
      · exact h2
      rcases List.mem_cons.mp q with rfl | q
      · exact h3
      cases q
    exact ⟨q2, gW_good q2⟩
  · exact h w q
theorem at_LW {X : XT} {K : KT} {cc : ByteArray} {own : String} {nL fr lo : Nat} {pc : Nat} {lv : List (Nat × Value)} {st : List Value} {ad bd : Nat → Nat} {o : Nat} {σ : St} {u : SM} {f : Nat → Int64} {y : MethodName} {bytes : ByteArray} {maxL n index cs ss : Nat} {ret : Option FieldType} {hh : List (Nat × Nat × Nat × Nat)} {rm : Room} {As rest : List Value} {Q : Int32 → St × (Nat → Int64) → Prop} (C : Cx (xcs X cs ss) K cc own nL fr lo) (hZ : ZX (xcs X cs ss)) (hR : RX X (cs + 1) (ss + 6)) (hs3 : Sep3 ad bd o) (hA3 : ∀ q, A3 ad bd o q → K.2.2.1 q) (hM : KB (K.1, K.2.1, A3 ad bd o, K.2.2.2) (fun v : St × (Nat → Int64) => W3 K.2.2.2 ad bd o v.1 u v.2) y bytes maxL ret hh rm As (W3 K.2.2.2 ad bd o σ u f) Q) (ok : okMH y bytes maxL ret hh n) (hlk : Cond.methodLink own index y ∈ gW) (hst9 : Cond.static y ∈ gW) (hrm : rm.cells = 1 ∧ rm.slots = 6 ∧ rm.frames + 1 ≤ fr ∧ 8 + (maxL + 11) + rm.locals ≤ lo) (hn : As.length = n) (hst : st = As.reverse ++ rest) (hW : (rest.map fun v => v.category).sum ≤ 8) (d : decode cc pc = .ok (.invokestatic index, 3)) (kk : ∀ (r : Int32) (v : St × (Nat → Int64)), Q r v → At (xcs X (cs + 1) (ss + 6)) nL (W3 K.2.2.2 ad bd o v.1 u v.2) (pc + 3) lv (.int r :: rest)) : At (xcs X cs ss) nL (W3 K.2.2.2 ad bd o σ u f) pc lv st := by
  obtain ⟨p, l, e, R, s, m, args, below, meth, c, Q0, D, A, cs0, ss0⟩ := X
  obtain ⟨hx, hb, hml, hown, hts, hK, hN, hRf, hRl, hcs, hss, hl0, hD0, hA0⟩ := C
  obtain ⟨hZ1, hZ2⟩ := hZ
  intro H locs ls hl hP hS
  subst hRf; subst hRl; subst hl0; subst hD0; subst hA0; subst hst
  obtain ⟨o1, o2, o3⟩ := ok
  obtain ⟨m1, m2, m3, m4⟩ := hrm
  exact va_calli (vx_runSW (As := As) (rest := rest) ⟨hx, hb, hml, hown, hts⟩ hM (vx_cwSW n hts (va_wsS_in hlk hst9 o2 (gW_wsH o1)) rfl m1 m2 o3 ⟨m3, m4⟩) ⟨PcX_blind _ _ _, PcX_pre (K := (K.1, K.2.1, A3 ad bd o, K.2.2.2)) (K0 := K) hK hN hP hZ1 hZ2 hS (fun q h => hA3 q h)⟩ rfl hn hl.1 rfl (lv_room hW) d hR) hS (fun q _ h => hA3 q h) (fun q h => hA3 q h) (fun r v t H1 locs1 ht _ hw1 hB _ hk1 hS1 => kk r v hw1 H1 locs1 ls hl (by rw [← ht]; exact hB) hS1)
set_option maxRecDepth 100000 in
set_option maxHeartbeats 8000000 in
theorem law_post {X : XT} {l : Launch} {D : va_G} {A : Nat → Prop} {T : TT} {ad bd : Nat → Nat} {o b L : Nat} {xf : Nat → Int32} {Rel : St → SM → Prop} {cN sN : Nat} (hC : ∀ a c : Nat, a ≤ 601024 → c ≤ 7293034 → Cx (xcs X a c) (l, D, A, T) cL_law RL 7 2048 84000) (hZ : ∀ a c : Nat, ZX (xcs X a c)) (hR : ∀ a c : Nat, a ≤ 601024 → c ≤ 7293034 → RX X a c) (hst : l.stackTraces = false) (hs3 : Sep3 ad bd o) (hA3 : ∀ q, A3 ad bd o q → A q) (hSX0 : SX X b L xf) (hcN : cN + 1 ≤ 601024) (hsN : sN + 6 ≤ 7293034) {v4 : Int32} {σ : St} {u : SM} {f : Nat → Int64} {cs ss : Nat} (hcs : cs ≤ cN) (hss : ss ≤ sN) (hin : ∀ k : Nat, k < 6 → vp_in (v4 + nI k) L) (hrel : Rel σ u) (hSim : Sim Rel) (htail : ∀ (σ2 : St) (u2 : SM) (f2 : Nat → Int64) (a c : Nat), Rel σ2 u2 → a ≤ cN + 1 → c ≤ sN + 6 → At (xcs X a c) 7 (W3 T ad bd o σ2 u2 f2) 773 [(0, .ref b), (1, .ref (ad 0)), (2, .ref (bd 0)), (3, .ref o), (4, .int v4)] []) : At (xcs X cs ss) 7 (W3 T ad bd o σ u f) 116 [(0, .ref b), (1, .ref (ad 0)), (2, .ref (bd 0)), (3, .ref o), (4, .int v4)] [] := by
  have C := hC cs ss (Nat.le_trans hcs (Nat.le_trans (Nat.le_succ _) hcN)) (Nat.le_trans hss (Nat.le_trans (Nat.le_add_right _ 6) hsN))
  have hSX := SX_xcs hSX0 cs ss
  have hsim := hSim σ u hrel
  have h := hsim.1 (xf (v4 + 1).toNatClampNeg)
  refine at_aload_n C dL_law_116 1 rfl ?_
  refine at_aload_n C dL_law_117 0 rfl ?_
  refine at_iload C dL_law_118 4 rfl ?_
  refine at_iconst (v := 1) C dL_law_120 (by decide) ?_
  refine at_iadd C dL_law_121 ?_
  refine at_sld C hSX (hin 1 (by decide)) dL_law_122 ?_
  refine at_LC (K := (l, D, A, T)) C hs3 hA3 (kX8_post l D ad T hs3.1 _ _ _ h) ok_X8_post m_L_23 mi_X8_post ml_X8_post ⟨rfl, rfl, Nat.le_of_ble_eq_true rfl, Nat.le_of_ble_eq_true rfl⟩ rfl rfl (Nat.le_of_ble_eq_true rfl) dL_law_123 (fun r v h => ?_)
  refine at_aload_n C dL_law_126 2 rfl ?_
  refine at_aload_n C dL_law_127 0 rfl ?_
  refine at_iload C dL_law_128 4 rfl ?_
  refine at_iconst (v := 1) C dL_law_130 (by decide) ?_
  refine at_iadd C dL_law_131 ?_
  refine at_sld C hSX (hin 1 (by decide)) dL_law_132 ?_
  refine at_LM (K := (l, D, A, T)) C hs3 hA3 (kX9_post l D bd T hs3.2.1 _ _ _ h) ok_X9_post m_L_27 mi_X9_post ml_X9_post ⟨rfl, rfl, Nat.le_of_ble_eq_true rfl, Nat.le_of_ble_eq_true rfl⟩ rfl rfl (Nat.le_of_ble_eq_true rfl) dL_law_133 (fun r2 u2 h => ?_)
  refine at_icmp_eq (tgt := 773) C dL_law_136 (by decide) (fun _ => ?_) (fun hc => absurd h.1 hc)
  exact htail v u2 f cs ss h.2 (Nat.le_succ_of_le hcs) (Nat.le_trans hss (Nat.le_add_right _ 6))
set_option maxRecDepth 100000 in
set_option maxHeartbeats 8000000 in
theorem law_kind {X : XT} {l : Launch} {D : va_G} {A : Nat → Prop} {T : TT} {ad bd : Nat → Nat} {o b L : Nat} {xf : Nat → Int32} {Rel : St → SM → Prop} {cN sN : Nat} (hC : ∀ a c : Nat, a ≤ 601024 → c ≤ 7293034 → Cx (xcs X a c) (l, D, A, T) cL_law RL 7 2048 84000) (hZ : ∀ a c : Nat, ZX (xcs X a c)) (hR : ∀ a c : Nat, a ≤ 601024 → c ≤ 7293034 → RX X a c) (hst : l.stackTraces = false) (hs3 : Sep3 ad bd o) (hA3 : ∀ q, A3 ad bd o q → A q) (hSX0 : SX X b L xf) (hcN : cN + 1 ≤ 601024) (hsN : sN + 6 ≤ 7293034) {v4 : Int32} {σ : St} {u : SM} {f : Nat → Int64} {cs ss : Nat} (hcs : cs ≤ cN) (hss : ss ≤ sN) (hin : ∀ k : Nat, k < 6 → vp_in (v4 + nI k) L) (hrel : Rel σ u) (hSim : Sim Rel) (htail : ∀ (σ2 : St) (u2 : SM) (f2 : Nat → Int64) (a c : Nat), Rel σ2 u2 → a ≤ cN + 1 → c ≤ sN + 6 → At (xcs X a c) 7 (W3 T ad bd o σ2 u2 f2) 773 [(0, .ref b), (1, .ref (ad 0)), (2, .ref (bd 0)), (3, .ref o), (4, .int v4)] []) : At (xcs X cs ss) 7 (W3 T ad bd o σ u f) 141 [(0, .ref b), (1, .ref (ad 0)), (2, .ref (bd 0)), (3, .ref o), (4, .int v4)] [] := by
  have C := hC cs ss (Nat.le_trans hcs (Nat.le_trans (Nat.le_succ _) hcN)) (Nat.le_trans hss (Nat.le_trans (Nat.le_add_right _ 6) hsN))
  have hSX := SX_xcs hSX0 cs ss
  have hsim := hSim σ u hrel
  have h := hsim.2.1 (xf (v4 + 1).toNatClampNeg) (xf (v4 + 2).toNatClampNeg) (xf (v4 + 3).toNatClampNeg)
  refine at_aload_n C dL_law_141 1 rfl ?_
  refine at_aload_n C dL_law_142 0 rfl ?_
  refine at_iload C dL_law_143 4 rfl ?_
  refine at_iconst (v := 1) C dL_law_145 (by decide) ?_
  refine at_iadd C dL_law_146 ?_
  refine at_sld C hSX (hin 1 (by decide)) dL_law_147 ?_
  refine at_aload_n C dL_law_148 0 rfl ?_
  refine at_iload C dL_law_149 4 rfl ?_
  refine at_iconst (v := 2) C dL_law_151 (by decide) ?_
  refine at_iadd C dL_law_152 ?_
  refine at_sld C hSX (hin 2 (by decide)) dL_law_153 ?_
  refine at_aload_n C dL_law_154 0 rfl ?_
  refine at_iload C dL_law_155 4 rfl ?_
  refine at_iconst (v := 3) C dL_law_157 (by decide) ?_
  refine at_iadd C dL_law_158 ?_
  refine at_sld C hSX (hin 3 (by decide)) dL_law_159 ?_
  refine at_LC (K := (l, D, A, T)) C hs3 hA3 (kX8_kind l D ad T hs3.1 _ _ _ _ _ h) ok_X8_kind m_L_28 mi_X8_kind ml_X8_kind ⟨rfl, rfl, Nat.le_of_ble_eq_true rfl, Nat.le_of_ble_eq_true rfl⟩ rfl rfl (Nat.le_of_ble_eq_true rfl) dL_law_160 (fun r v h => ?_)
  refine at_aload_n C dL_law_163 2 rfl ?_
  refine at_aload_n C dL_law_164 0 rfl ?_
  refine at_iload C dL_law_165 4 rfl ?_
  refine at_iconst (v := 1) C dL_law_167 (by decide) ?_
  refine at_iadd C dL_law_168 ?_
  refine at_sld C hSX (hin 1 (by decide)) dL_law_169 ?_
  refine at_aload_n C dL_law_170 0 rfl ?_
  refine at_iload C dL_law_171 4 rfl ?_
  refine at_iconst (v := 2) C dL_law_173 (by decide) ?_
  refine at_iadd C dL_law_174 ?_
  refine at_sld C hSX (hin 2 (by decide)) dL_law_175 ?_
  refine at_aload_n C dL_law_176 0 rfl ?_
  refine at_iload C dL_law_177 4 rfl ?_
  refine at_iconst (v := 3) C dL_law_179 (by decide) ?_
  refine at_iadd C dL_law_180 ?_
  refine at_sld C hSX (hin 3 (by decide)) dL_law_181 ?_
  refine at_LM (K := (l, D, A, T)) C hs3 hA3 (kX9_kind l D bd T hs3.2.1 _ _ _ _ _ h) ok_X9_kind m_L_31 mi_X9_kind ml_X9_kind ⟨rfl, rfl, Nat.le_of_ble_eq_true rfl, Nat.le_of_ble_eq_true rfl⟩ rfl rfl (Nat.le_of_ble_eq_true rfl) dL_law_182 (fun r2 u2 h => ?_)
  refine at_icmp_eq (tgt := 773) C dL_law_185 (by decide) (fun _ => ?_) (fun hc => absurd h.1 hc)
  exact htail v u2 f cs ss h.2 (Nat.le_succ_of_le hcs) (Nat.le_trans hss (Nat.le_add_right _ 6))
set_option maxRecDepth 100000 in
set_option maxHeartbeats 8000000 in
theorem law_later {X : XT} {l : Launch} {D : va_G} {A : Nat → Prop} {T : TT} {ad bd : Nat → Nat} {o b L : Nat} {xf : Nat → Int32} {Rel : St → SM → Prop} {cN sN : Nat} (hC : ∀ a c : Nat, a ≤ 601024 → c ≤ 7293034 → Cx (xcs X a c) (l, D, A, T) cL_law RL 7 2048 84000) (hZ : ∀ a c : Nat, ZX (xcs X a c)) (hR : ∀ a c : Nat, a ≤ 601024 → c ≤ 7293034 → RX X a c) (hst : l.stackTraces = false) (hs3 : Sep3 ad bd o) (hA3 : ∀ q, A3 ad bd o q → A q) (hSX0 : SX X b L xf) (hcN : cN + 1 ≤ 601024) (hsN : sN + 6 ≤ 7293034) {v4 : Int32} {σ : St} {u : SM} {f : Nat → Int64} {cs ss : Nat} (hcs : cs ≤ cN) (hss : ss ≤ sN) (hin : ∀ k : Nat, k < 6 → vp_in (v4 + nI k) L) (hrel : Rel σ u) (hSim : Sim Rel) (htail : ∀ (σ2 : St) (u2 : SM) (f2 : Nat → Int64) (a c : Nat), Rel σ2 u2 → a ≤ cN + 1 → c ≤ sN + 6 → At (xcs X a c) 7 (W3 T ad bd o σ2 u2 f2) 773 [(0, .ref b), (1, .ref (ad 0)), (2, .ref (bd 0)), (3, .ref o), (4, .int v4)] []) : At (xcs X cs ss) 7 (W3 T ad bd o σ u f) 190 [(0, .ref b), (1, .ref (ad 0)), (2, .ref (bd 0)), (3, .ref o), (4, .int v4)] [] := by
  have C := hC cs ss (Nat.le_trans hcs (Nat.le_trans (Nat.le_succ _) hcN)) (Nat.le_trans hss (Nat.le_trans (Nat.le_add_right _ 6) hsN))
  have hSX := SX_xcs hSX0 cs ss
  have hsim := hSim σ u hrel
  have h := hsim.2.2.1
  refine at_aload_n C dL_law_190 1 rfl ?_
  refine at_LC (K := (l, D, A, T)) C hs3 hA3 (kX8_later l D ad T hs3.1  _ _ h) ok_X8_later m_L_32 mi_X8_later ml_X8_later ⟨rfl, rfl, Nat.le_of_ble_eq_true rfl, Nat.le_of_ble_eq_true rfl⟩ rfl rfl (Nat.le_of_ble_eq_true rfl) dL_law_191 (fun r v h => ?_)
  refine at_aload_n C dL_law_194 2 rfl ?_
  refine at_LM (K := (l, D, A, T)) C hs3 hA3 (kX9_later l D bd T hs3.2.1  _ _ h) ok_X9_later m_L_36 mi_X9_later ml_X9_later ⟨rfl, rfl, Nat.le_of_ble_eq_true rfl, Nat.le_of_ble_eq_true rfl⟩ rfl rfl (Nat.le_of_ble_eq_true rfl) dL_law_195 (fun r2 u2 h => ?_)
  refine at_icmp_eq (tgt := 773) C dL_law_198 (by decide) (fun _ => ?_) (fun hc => absurd h.1 hc)
  exact htail v u2 f cs ss h.2 (Nat.le_succ_of_le hcs) (Nat.le_trans hss (Nat.le_add_right _ 6))
set_option maxRecDepth 100000 in
set_option maxHeartbeats 8000000 in
theorem law_tell {X : XT} {l : Launch} {D : va_G} {A : Nat → Prop} {T : TT} {ad bd : Nat → Nat} {o b L : Nat} {xf : Nat → Int32} {Rel : St → SM → Prop} {cN sN : Nat} (hC : ∀ a c : Nat, a ≤ 601024 → c ≤ 7293034 → Cx (xcs X a c) (l, D, A, T) cL_law RL 7 2048 84000) (hZ : ∀ a c : Nat, ZX (xcs X a c)) (hR : ∀ a c : Nat, a ≤ 601024 → c ≤ 7293034 → RX X a c) (hst : l.stackTraces = false) (hs3 : Sep3 ad bd o) (hA3 : ∀ q, A3 ad bd o q → A q) (hSX0 : SX X b L xf) (hcN : cN + 1 ≤ 601024) (hsN : sN + 6 ≤ 7293034) {v4 : Int32} {σ : St} {u : SM} {f : Nat → Int64} {cs ss : Nat} (hcs : cs ≤ cN) (hss : ss ≤ sN) (hin : ∀ k : Nat, k < 6 → vp_in (v4 + nI k) L) (hrel : Rel σ u) (hSim : Sim Rel) (htail : ∀ (σ2 : St) (u2 : SM) (f2 : Nat → Int64) (a c : Nat), Rel σ2 u2 → a ≤ cN + 1 → c ≤ sN + 6 → At (xcs X a c) 7 (W3 T ad bd o σ2 u2 f2) 773 [(0, .ref b), (1, .ref (ad 0)), (2, .ref (bd 0)), (3, .ref o), (4, .int v4)] []) : At (xcs X cs ss) 7 (W3 T ad bd o σ u f) 203 [(0, .ref b), (1, .ref (ad 0)), (2, .ref (bd 0)), (3, .ref o), (4, .int v4)] [] := by
  have C := hC cs ss (Nat.le_trans hcs (Nat.le_trans (Nat.le_succ _) hcN)) (Nat.le_trans hss (Nat.le_trans (Nat.le_add_right _ 6) hsN))
  have hSX := SX_xcs hSX0 cs ss
  have hsim := hSim σ u hrel
  have h := hsim.2.2.2.1 (xf (v4 + 1).toNatClampNeg) (xf (v4 + 2).toNatClampNeg) (xf (v4 + 3).toNatClampNeg) (xf (v4 + 4).toNatClampNeg) (xf (v4 + 5).toNatClampNeg)
  refine at_aload_n C dL_law_203 1 rfl ?_
  refine at_aload_n C dL_law_204 0 rfl ?_
  refine at_iload C dL_law_205 4 rfl ?_
  refine at_iconst (v := 1) C dL_law_207 (by decide) ?_
  refine at_iadd C dL_law_208 ?_
  refine at_sld C hSX (hin 1 (by decide)) dL_law_209 ?_
  refine at_aload_n C dL_law_210 0 rfl ?_
  refine at_iload C dL_law_211 4 rfl ?_
  refine at_iconst (v := 2) C dL_law_213 (by decide) ?_
  refine at_iadd C dL_law_214 ?_
  refine at_sld C hSX (hin 2 (by decide)) dL_law_215 ?_
  refine at_aload_n C dL_law_216 0 rfl ?_
  refine at_iload C dL_law_217 4 rfl ?_
  refine at_iconst (v := 3) C dL_law_219 (by decide) ?_
  refine at_iadd C dL_law_220 ?_
  refine at_sld C hSX (hin 3 (by decide)) dL_law_221 ?_
  refine at_aload_n C dL_law_222 0 rfl ?_
  refine at_iload C dL_law_223 4 rfl ?_
  refine at_iconst (v := 4) C dL_law_225 (by decide) ?_
  refine at_iadd C dL_law_226 ?_
  refine at_sld C hSX (hin 4 (by decide)) dL_law_227 ?_
  refine at_aload_n C dL_law_228 0 rfl ?_
  refine at_iload C dL_law_229 4 rfl ?_
  refine at_iconst (v := 5) C dL_law_231 (by decide) ?_
  refine at_iadd C dL_law_232 ?_
  refine at_sld C hSX (hin 5 (by decide)) dL_law_233 ?_
  refine at_LC (K := (l, D, A, T)) C hs3 hA3 (kX8_tell l D ad T hs3.1 _ _ _ _ _ _ _ h) ok_X8_tell m_L_37 mi_X8_tell ml_X8_tell ⟨rfl, rfl, Nat.le_of_ble_eq_true rfl, Nat.le_of_ble_eq_true rfl⟩ rfl rfl (Nat.le_of_ble_eq_true rfl) dL_law_234 (fun r v h => ?_)
  refine at_aload_n C dL_law_237 2 rfl ?_
  refine at_aload_n C dL_law_238 0 rfl ?_
  refine at_iload C dL_law_239 4 rfl ?_
  refine at_iconst (v := 1) C dL_law_241 (by decide) ?_
  refine at_iadd C dL_law_242 ?_
  refine at_sld C hSX (hin 1 (by decide)) dL_law_243 ?_
  refine at_aload_n C dL_law_244 0 rfl ?_
  refine at_iload C dL_law_245 4 rfl ?_
  refine at_iconst (v := 2) C dL_law_247 (by decide) ?_
  refine at_iadd C dL_law_248 ?_
  refine at_sld C hSX (hin 2 (by decide)) dL_law_249 ?_
  refine at_aload_n C dL_law_250 0 rfl ?_
  refine at_iload C dL_law_251 4 rfl ?_
  refine at_iconst (v := 3) C dL_law_253 (by decide) ?_
  refine at_iadd C dL_law_254 ?_
  refine at_sld C hSX (hin 3 (by decide)) dL_law_255 ?_
  refine at_aload_n C dL_law_256 0 rfl ?_
  refine at_iload C dL_law_257 4 rfl ?_
  refine at_iconst (v := 4) C dL_law_259 (by decide) ?_
  refine at_iadd C dL_law_260 ?_
  refine at_sld C hSX (hin 4 (by decide)) dL_law_261 ?_
  refine at_aload_n C dL_law_262 0 rfl ?_
  refine at_iload C dL_law_263 4 rfl ?_
  refine at_iconst (v := 5) C dL_law_265 (by decide) ?_
  refine at_iadd C dL_law_266 ?_
  refine at_sld C hSX (hin 5 (by decide)) dL_law_267 ?_
  refine at_LM (K := (l, D, A, T)) C hs3 hA3 (kX9_tell l D bd T hs3.2.1 _ _ _ _ _ _ _ h) ok_X9_tell m_L_41 mi_X9_tell ml_X9_tell ⟨rfl, rfl, Nat.le_of_ble_eq_true rfl, Nat.le_of_ble_eq_true rfl⟩ rfl rfl (Nat.le_of_ble_eq_true rfl) dL_law_268 (fun r2 u2 h => ?_)
  refine at_icmp_eq (tgt := 773) C dL_law_271 (by decide) (fun _ => ?_) (fun hc => absurd h.1 hc)
  exact htail v u2 f cs ss h.2 (Nat.le_succ_of_le hcs) (Nat.le_trans hss (Nat.le_add_right _ 6))
set_option maxRecDepth 100000 in
set_option maxHeartbeats 8000000 in
theorem law_off {X : XT} {l : Launch} {D : va_G} {A : Nat → Prop} {T : TT} {ad bd : Nat → Nat} {o b L : Nat} {xf : Nat → Int32} {Rel : St → SM → Prop} {cN sN : Nat} (hC : ∀ a c : Nat, a ≤ 601024 → c ≤ 7293034 → Cx (xcs X a c) (l, D, A, T) cL_law RL 7 2048 84000) (hZ : ∀ a c : Nat, ZX (xcs X a c)) (hR : ∀ a c : Nat, a ≤ 601024 → c ≤ 7293034 → RX X a c) (hst : l.stackTraces = false) (hs3 : Sep3 ad bd o) (hA3 : ∀ q, A3 ad bd o q → A q) (hSX0 : SX X b L xf) (hcN : cN + 1 ≤ 601024) (hsN : sN + 6 ≤ 7293034) {v4 : Int32} {σ : St} {u : SM} {f : Nat → Int64} {cs ss : Nat} (hcs : cs ≤ cN) (hss : ss ≤ sN) (hin : ∀ k : Nat, k < 6 → vp_in (v4 + nI k) L) (hrel : Rel σ u) (hSim : Sim Rel) (htail : ∀ (σ2 : St) (u2 : SM) (f2 : Nat → Int64) (a c : Nat), Rel σ2 u2 → a ≤ cN + 1 → c ≤ sN + 6 → At (xcs X a c) 7 (W3 T ad bd o σ2 u2 f2) 773 [(0, .ref b), (1, .ref (ad 0)), (2, .ref (bd 0)), (3, .ref o), (4, .int v4)] []) : At (xcs X cs ss) 7 (W3 T ad bd o σ u f) 276 [(0, .ref b), (1, .ref (ad 0)), (2, .ref (bd 0)), (3, .ref o), (4, .int v4)] [] := by
  have C := hC cs ss (Nat.le_trans hcs (Nat.le_trans (Nat.le_succ _) hcN)) (Nat.le_trans hss (Nat.le_trans (Nat.le_add_right _ 6) hsN))
  have hSX := SX_xcs hSX0 cs ss
  have hsim := hSim σ u hrel
  refine at_aload_n C dL_law_276 1 rfl ?_
  refine at_aload_n C dL_law_277 0 rfl ?_
  refine at_iload C dL_law_278 4 rfl ?_
  refine at_iconst (v := 1) C dL_law_280 (by decide) ?_
  refine at_iadd C dL_law_281 ?_
  refine at_sld C hSX (hin 1 (by decide)) dL_law_282 ?_
  refine at_aload_n C dL_law_283 0 rfl ?_
  refine at_iload C dL_law_284 4 rfl ?_
  refine at_iconst (v := 2) C dL_law_286 (by decide) ?_
  refine at_iadd C dL_law_287 ?_
  refine at_sld C hSX (hin 2 (by decide)) dL_law_288 ?_
  refine at_aload_n C dL_law_289 0 rfl ?_
  refine at_iload C dL_law_290 4 rfl ?_
  refine at_iconst (v := 3) C dL_law_292 (by decide) ?_
  refine at_iadd C dL_law_293 ?_
  refine at_sld C hSX (hin 3 (by decide)) dL_law_294 ?_
  refine at_aload_n C dL_law_295 0 rfl ?_
  refine at_iload C dL_law_296 4 rfl ?_
  refine at_iconst (v := 4) C dL_law_298 (by decide) ?_
  refine at_iadd C dL_law_299 ?_
  refine at_sld C hSX (hin 4 (by decide)) dL_law_300 ?_
  have hcall : ∀ x4 : Int32, x4 = 0 ∨ x4 = 1 → (x4 = 0 ↔ (xf (v4 + 4).toNatClampNeg) = 0) → At (xcs X cs ss) 7 (W3 T ad bd o σ u f) 309 [(0, .ref b), (1, .ref (ad 0)), (2, .ref (bd 0)), (3, .ref o), (4, .int v4)] [.int x4, .int (xf (v4 + 3).toNatClampNeg), .int (xf (v4 + 2).toNatClampNeg), .int (xf (v4 + 1).toNatClampNeg), .ref (ad 0)] := by
    intro x4 h01 hx4
    have h := hsim.2.2.2.2.1 (xf (v4 + 1).toNatClampNeg) (xf (v4 + 2).toNatClampNeg) (xf (v4 + 3).toNatClampNeg) x4 h01
    refine at_LC (K := (l, D, A, T)) C hs3 hA3 (kX8_off l D ad T hs3.1 _ _ _ _ _ _ h) ok_X8_off m_L_42 mi_X8_off ml_X8_off ⟨rfl, rfl, Nat.le_of_ble_eq_true rfl, Nat.le_of_ble_eq_true rfl⟩ rfl rfl (Nat.le_of_ble_eq_true rfl) dL_law_309 (fun r v h => ?_)
    refine at_aload_n C dL_law_312 2 rfl ?_
    refine at_aload_n C dL_law_313 0 rfl ?_
    refine at_iload C dL_law_314 4 rfl ?_
    refine at_iconst (v := 1) C dL_law_316 (by decide) ?_
    refine at_iadd C dL_law_317 ?_
    refine at_sld C hSX (hin 1 (by decide)) dL_law_318 ?_
    refine at_aload_n C dL_law_319 0 rfl ?_
    refine at_iload C dL_law_320 4 rfl ?_
    refine at_iconst (v := 2) C dL_law_322 (by decide) ?_
    refine at_iadd C dL_law_323 ?_
    refine at_sld C hSX (hin 2 (by decide)) dL_law_324 ?_
    refine at_aload_n C dL_law_325 0 rfl ?_
    refine at_iload C dL_law_326 4 rfl ?_
    refine at_iconst (v := 3) C dL_law_328 (by decide) ?_
    refine at_iadd C dL_law_329 ?_
    refine at_sld C hSX (hin 3 (by decide)) dL_law_330 ?_
    refine at_aload_n C dL_law_331 0 rfl ?_
    refine at_iload C dL_law_332 4 rfl ?_
    refine at_iconst (v := 4) C dL_law_334 (by decide) ?_
    refine at_iadd C dL_law_335 ?_
    refine at_sld C hSX (hin 4 (by decide)) dL_law_336 ?_
    have hcall2 : At (xcs X cs ss) 7 (W3 T ad bd o v u f) 345 [(0, .ref b), (1, .ref (ad 0)), (2, .ref (bd 0)), (3, .ref o), (4, .int v4)] [.int x4, .int (xf (v4 + 3).toNatClampNeg), .int (xf (v4 + 2).toNatClampNeg), .int (xf (v4 + 1).toNatClampNeg), .ref (bd 0), .int r] := by
      refine at_LM (K := (l, D, A, T)) C hs3 hA3 (kX9_off l D bd T hs3.2.1 _ _ _ _ _ _ h) ok_X9_off m_L_46 mi_X9_off ml_X9_off ⟨rfl, rfl, Nat.le_of_ble_eq_true rfl, Nat.le_of_ble_eq_true rfl⟩ rfl rfl (Nat.le_of_ble_eq_true rfl) dL_law_345 (fun r2 u2 h => ?_)
      refine at_icmp_eq (tgt := 773) C dL_law_348 (by decide) (fun _ => ?_) (fun hc => absurd h.1 hc)
      exact htail v u2 f cs ss h.2 (Nat.le_succ_of_le hcs) (Nat.le_trans hss (Nat.le_add_right _ 6))
    refine at_if_eq (tgt := 344) C dL_law_337 (by decide) (fun hc => ?_) (fun hc => ?_)
    · have e4 := hx4.mpr hc
      subst e4
      refine at_iconst (v := 0) C dL_law_344 (by decide) ?_
      exact hcall2
    · have e4 : x4 = 1 := h01.elim (fun e => absurd (hx4.mp e) hc) id
      subst e4
      refine at_iconst (v := 1) C dL_law_340 (by decide) ?_
      refine at_goto (tgt := 345) C dL_law_341 (by decide) ?_
      exact hcall2
  refine at_if_eq (tgt := 308) C dL_law_301 (by decide) (fun hc => ?_) (fun hc => ?_)
  · refine at_iconst (v := 0) C dL_law_308 (by decide) ?_
    exact hcall 0 (Or.inl rfl) ⟨fun _ => hc, fun _ => rfl⟩
  · refine at_iconst (v := 1) C dL_law_304 (by decide) ?_
    refine at_goto (tgt := 309) C dL_law_305 (by decide) ?_
    exact hcall 1 (Or.inr rfl) ⟨fun e => absurd e (by decide), fun e => absurd e hc⟩
set_option maxRecDepth 100000 in
set_option maxHeartbeats 8000000 in
theorem law_wind {X : XT} {l : Launch} {D : va_G} {A : Nat → Prop} {T : TT} {ad bd : Nat → Nat} {o b L : Nat} {xf : Nat → Int32} {Rel : St → SM → Prop} {cN sN : Nat} (hC : ∀ a c : Nat, a ≤ 601024 → c ≤ 7293034 → Cx (xcs X a c) (l, D, A, T) cL_law RL 7 2048 84000) (hZ : ∀ a c : Nat, ZX (xcs X a c)) (hR : ∀ a c : Nat, a ≤ 601024 → c ≤ 7293034 → RX X a c) (hst : l.stackTraces = false) (hs3 : Sep3 ad bd o) (hA3 : ∀ q, A3 ad bd o q → A q) (hSX0 : SX X b L xf) (hcN : cN + 1 ≤ 601024) (hsN : sN + 6 ≤ 7293034) {v4 : Int32} {σ : St} {u : SM} {f : Nat → Int64} {cs ss : Nat} (hcs : cs ≤ cN) (hss : ss ≤ sN) (hin : ∀ k : Nat, k < 6 → vp_in (v4 + nI k) L) (hrel : Rel σ u) (hSim : Sim Rel) (htail : ∀ (σ2 : St) (u2 : SM) (f2 : Nat → Int64) (a c : Nat), Rel σ2 u2 → a ≤ cN + 1 → c ≤ sN + 6 → At (xcs X a c) 7 (W3 T ad bd o σ2 u2 f2) 773 [(0, .ref b), (1, .ref (ad 0)), (2, .ref (bd 0)), (3, .ref o), (4, .int v4)] []) : At (xcs X cs ss) 7 (W3 T ad bd o σ u f) 353 [(0, .ref b), (1, .ref (ad 0)), (2, .ref (bd 0)), (3, .ref o), (4, .int v4)] [] := by
  have C := hC cs ss (Nat.le_trans hcs (Nat.le_trans (Nat.le_succ _) hcN)) (Nat.le_trans hss (Nat.le_trans (Nat.le_add_right _ 6) hsN))
  have hSX := SX_xcs hSX0 cs ss
  have hsim := hSim σ u hrel
  have h := hsim.2.2.2.2.2.1 (xf (v4 + 1).toNatClampNeg) (xf (v4 + 2).toNatClampNeg) (xf (v4 + 3).toNatClampNeg)
  refine at_aload_n C dL_law_353 1 rfl ?_
  refine at_aload_n C dL_law_354 0 rfl ?_
  refine at_iload C dL_law_355 4 rfl ?_
  refine at_iconst (v := 1) C dL_law_357 (by decide) ?_
  refine at_iadd C dL_law_358 ?_
  refine at_sld C hSX (hin 1 (by decide)) dL_law_359 ?_
  refine at_aload_n C dL_law_360 0 rfl ?_
  refine at_iload C dL_law_361 4 rfl ?_
  refine at_iconst (v := 2) C dL_law_363 (by decide) ?_
  refine at_iadd C dL_law_364 ?_
  refine at_sld C hSX (hin 2 (by decide)) dL_law_365 ?_
  refine at_aload_n C dL_law_366 0 rfl ?_
  refine at_iload C dL_law_367 4 rfl ?_
  refine at_iconst (v := 3) C dL_law_369 (by decide) ?_
  refine at_iadd C dL_law_370 ?_
  refine at_sld C hSX (hin 3 (by decide)) dL_law_371 ?_
  refine at_LC (K := (l, D, A, T)) C hs3 hA3 (kX8_wind l D ad T hs3.1 _ _ _ _ _ h) ok_X8_wind m_L_47 mi_X8_wind ml_X8_wind ⟨rfl, rfl, Nat.le_of_ble_eq_true rfl, Nat.le_of_ble_eq_true rfl⟩ rfl rfl (Nat.le_of_ble_eq_true rfl) dL_law_372 (fun r v h => ?_)
  refine at_aload_n C dL_law_375 2 rfl ?_
  refine at_aload_n C dL_law_376 0 rfl ?_
  refine at_iload C dL_law_377 4 rfl ?_
  refine at_iconst (v := 1) C dL_law_379 (by decide) ?_
  refine at_iadd C dL_law_380 ?_
  refine at_sld C hSX (hin 1 (by decide)) dL_law_381 ?_
  refine at_aload_n C dL_law_382 0 rfl ?_
  refine at_iload C dL_law_383 4 rfl ?_
  refine at_iconst (v := 2) C dL_law_385 (by decide) ?_
  refine at_iadd C dL_law_386 ?_
  refine at_sld C hSX (hin 2 (by decide)) dL_law_387 ?_
  refine at_aload_n C dL_law_388 0 rfl ?_
  refine at_iload C dL_law_389 4 rfl ?_
  refine at_iconst (v := 3) C dL_law_391 (by decide) ?_
  refine at_iadd C dL_law_392 ?_
  refine at_sld C hSX (hin 3 (by decide)) dL_law_393 ?_
  refine at_LM (K := (l, D, A, T)) C hs3 hA3 (kX9_wind l D bd T hs3.2.1 _ _ _ _ _ h) ok_X9_wind m_L_51 mi_X9_wind ml_X9_wind ⟨rfl, rfl, Nat.le_of_ble_eq_true rfl, Nat.le_of_ble_eq_true rfl⟩ rfl rfl (Nat.le_of_ble_eq_true rfl) dL_law_394 (fun r2 u2 h => ?_)
  refine at_icmp_eq (tgt := 773) C dL_law_397 (by decide) (fun _ => ?_) (fun hc => absurd h.1 hc)
  exact htail v u2 f cs ss h.2 (Nat.le_succ_of_le hcs) (Nat.le_trans hss (Nat.le_add_right _ 6))
set_option maxRecDepth 100000 in
set_option maxHeartbeats 8000000 in
theorem law_known {X : XT} {l : Launch} {D : va_G} {A : Nat → Prop} {T : TT} {ad bd : Nat → Nat} {o b L : Nat} {xf : Nat → Int32} {Rel : St → SM → Prop} {cN sN : Nat} (hC : ∀ a c : Nat, a ≤ 601024 → c ≤ 7293034 → Cx (xcs X a c) (l, D, A, T) cL_law RL 7 2048 84000) (hZ : ∀ a c : Nat, ZX (xcs X a c)) (hR : ∀ a c : Nat, a ≤ 601024 → c ≤ 7293034 → RX X a c) (hst : l.stackTraces = false) (hs3 : Sep3 ad bd o) (hA3 : ∀ q, A3 ad bd o q → A q) (hSX0 : SX X b L xf) (hcN : cN + 1 ≤ 601024) (hsN : sN + 6 ≤ 7293034) {v4 : Int32} {σ : St} {u : SM} {f : Nat → Int64} {cs ss : Nat} (hcs : cs ≤ cN) (hss : ss ≤ sN) (hin : ∀ k : Nat, k < 6 → vp_in (v4 + nI k) L) (hrel : Rel σ u) (hSim : Sim Rel) (htail : ∀ (σ2 : St) (u2 : SM) (f2 : Nat → Int64) (a c : Nat), Rel σ2 u2 → a ≤ cN + 1 → c ≤ sN + 6 → At (xcs X a c) 7 (W3 T ad bd o σ2 u2 f2) 773 [(0, .ref b), (1, .ref (ad 0)), (2, .ref (bd 0)), (3, .ref o), (4, .int v4)] []) : At (xcs X cs ss) 7 (W3 T ad bd o σ u f) 402 [(0, .ref b), (1, .ref (ad 0)), (2, .ref (bd 0)), (3, .ref o), (4, .int v4)] [] := by
  have C := hC cs ss (Nat.le_trans hcs (Nat.le_trans (Nat.le_succ _) hcN)) (Nat.le_trans hss (Nat.le_trans (Nat.le_add_right _ 6) hsN))
  have hSX := SX_xcs hSX0 cs ss
  have hsim := hSim σ u hrel
  have h := hsim.2.2.2.2.2.2.1 (xf (v4 + 1).toNatClampNeg)
  refine at_aload_n C dL_law_402 1 rfl ?_
  refine at_aload_n C dL_law_403 0 rfl ?_
  refine at_iload C dL_law_404 4 rfl ?_
  refine at_iconst (v := 1) C dL_law_406 (by decide) ?_
  refine at_iadd C dL_law_407 ?_
  refine at_sld C hSX (hin 1 (by decide)) dL_law_408 ?_
  refine at_LC (K := (l, D, A, T)) C hs3 hA3 (kX8_known l D ad T hs3.1 _ _ _ h) ok_X8_known m_L_52 mi_X8_known ml_X8_known ⟨rfl, rfl, Nat.le_of_ble_eq_true rfl, Nat.le_of_ble_eq_true rfl⟩ rfl rfl (Nat.le_of_ble_eq_true rfl) dL_law_409 (fun r v h => ?_)
  refine at_aload_n C dL_law_412 2 rfl ?_
  refine at_aload_n C dL_law_413 0 rfl ?_
  refine at_iload C dL_law_414 4 rfl ?_
  refine at_iconst (v := 1) C dL_law_416 (by decide) ?_
  refine at_iadd C dL_law_417 ?_
  refine at_sld C hSX (hin 1 (by decide)) dL_law_418 ?_
  refine at_LM (K := (l, D, A, T)) C hs3 hA3 (kX9_known l D bd T hs3.2.1 _ _ _ h) ok_X9_known m_L_56 mi_X9_known ml_X9_known ⟨rfl, rfl, Nat.le_of_ble_eq_true rfl, Nat.le_of_ble_eq_true rfl⟩ rfl rfl (Nat.le_of_ble_eq_true rfl) dL_law_419 (fun r2 u2 h => ?_)
  refine at_icmp_eq (tgt := 773) C dL_law_422 (by decide) (fun _ => ?_) (fun hc => absurd h.1 hc)
  exact htail v u2 f cs ss h.2 (Nat.le_succ_of_le hcs) (Nat.le_trans hss (Nat.le_add_right _ 6))
set_option maxRecDepth 100000 in
set_option maxHeartbeats 8000000 in
theorem law_partner {X : XT} {l : Launch} {D : va_G} {A : Nat → Prop} {T : TT} {ad bd : Nat → Nat} {o b L : Nat} {xf : Nat → Int32} {Rel : St → SM → Prop} {cN sN : Nat} (hC : ∀ a c : Nat, a ≤ 601024 → c ≤ 7293034 → Cx (xcs X a c) (l, D, A, T) cL_law RL 7 2048 84000) (hZ : ∀ a c : Nat, ZX (xcs X a c)) (hR : ∀ a c : Nat, a ≤ 601024 → c ≤ 7293034 → RX X a c) (hst : l.stackTraces = false) (hs3 : Sep3 ad bd o) (hA3 : ∀ q, A3 ad bd o q → A q) (hSX0 : SX X b L xf) (hcN : cN + 1 ≤ 601024) (hsN : sN + 6 ≤ 7293034) {v4 : Int32} {σ : St} {u : SM} {f : Nat → Int64} {cs ss : Nat} (hcs : cs ≤ cN) (hss : ss ≤ sN) (hin : ∀ k : Nat, k < 6 → vp_in (v4 + nI k) L) (hrel : Rel σ u) (hSim : Sim Rel) (htail : ∀ (σ2 : St) (u2 : SM) (f2 : Nat → Int64) (a c : Nat), Rel σ2 u2 → a ≤ cN + 1 → c ≤ sN + 6 → At (xcs X a c) 7 (W3 T ad bd o σ2 u2 f2) 773 [(0, .ref b), (1, .ref (ad 0)), (2, .ref (bd 0)), (3, .ref o), (4, .int v4)] []) : At (xcs X cs ss) 7 (W3 T ad bd o σ u f) 427 [(0, .ref b), (1, .ref (ad 0)), (2, .ref (bd 0)), (3, .ref o), (4, .int v4)] [] := by
  have C := hC cs ss (Nat.le_trans hcs (Nat.le_trans (Nat.le_succ _) hcN)) (Nat.le_trans hss (Nat.le_trans (Nat.le_add_right _ 6) hsN))
  have hSX := SX_xcs hSX0 cs ss
  have hsim := hSim σ u hrel
  have h := hsim.2.2.2.2.2.2.2.1 (xf (v4 + 1).toNatClampNeg)
  refine at_aload_n C dL_law_427 1 rfl ?_
  refine at_aload_n C dL_law_428 0 rfl ?_
  refine at_iload C dL_law_429 4 rfl ?_
  refine at_iconst (v := 1) C dL_law_431 (by decide) ?_
  refine at_iadd C dL_law_432 ?_
  refine at_sld C hSX (hin 1 (by decide)) dL_law_433 ?_
  refine at_LC (K := (l, D, A, T)) C hs3 hA3 (kX8_partner l D ad T hs3.1 _ _ _ h) ok_X8_partner m_L_57 mi_X8_partner ml_X8_partner ⟨rfl, rfl, Nat.le_of_ble_eq_true rfl, Nat.le_of_ble_eq_true rfl⟩ rfl rfl (Nat.le_of_ble_eq_true rfl) dL_law_434 (fun r v h => ?_)
  refine at_aload_n C dL_law_437 2 rfl ?_
  refine at_aload_n C dL_law_438 0 rfl ?_
  refine at_iload C dL_law_439 4 rfl ?_
  refine at_iconst (v := 1) C dL_law_441 (by decide) ?_
  refine at_iadd C dL_law_442 ?_
  refine at_sld C hSX (hin 1 (by decide)) dL_law_443 ?_
  refine at_LM (K := (l, D, A, T)) C hs3 hA3 (kX9_partner l D bd T hs3.2.1 _ _ _ h) ok_X9_partner m_L_60 mi_X9_partner ml_X9_partner ⟨rfl, rfl, Nat.le_of_ble_eq_true rfl, Nat.le_of_ble_eq_true rfl⟩ rfl rfl (Nat.le_of_ble_eq_true rfl) dL_law_444 (fun r2 u2 h => ?_)
  refine at_icmp_eq (tgt := 773) C dL_law_447 (by decide) (fun _ => ?_) (fun hc => absurd h.1 hc)
  exact htail v u2 f cs ss h.2 (Nat.le_succ_of_le hcs) (Nat.le_trans hss (Nat.le_add_right _ 6))
set_option maxRecDepth 100000 in
set_option maxHeartbeats 8000000 in
theorem law_bird {X : XT} {l : Launch} {D : va_G} {A : Nat → Prop} {T : TT} {ad bd : Nat → Nat} {o b L : Nat} {xf : Nat → Int32} {Rel : St → SM → Prop} {cN sN : Nat} (hC : ∀ a c : Nat, a ≤ 601024 → c ≤ 7293034 → Cx (xcs X a c) (l, D, A, T) cL_law RL 7 2048 84000) (hZ : ∀ a c : Nat, ZX (xcs X a c)) (hR : ∀ a c : Nat, a ≤ 601024 → c ≤ 7293034 → RX X a c) (hst : l.stackTraces = false) (hs3 : Sep3 ad bd o) (hA3 : ∀ q, A3 ad bd o q → A q) (hSX0 : SX X b L xf) (hcN : cN + 1 ≤ 601024) (hsN : sN + 6 ≤ 7293034) {v4 : Int32} {σ : St} {u : SM} {f : Nat → Int64} {cs ss : Nat} (hcs : cs ≤ cN) (hss : ss ≤ sN) (hin : ∀ k : Nat, k < 6 → vp_in (v4 + nI k) L) (hrel : Rel σ u) (hSim : Sim Rel) (htail : ∀ (σ2 : St) (u2 : SM) (f2 : Nat → Int64) (a c : Nat), Rel σ2 u2 → a ≤ cN + 1 → c ≤ sN + 6 → At (xcs X a c) 7 (W3 T ad bd o σ2 u2 f2) 773 [(0, .ref b), (1, .ref (ad 0)), (2, .ref (bd 0)), (3, .ref o), (4, .int v4)] []) : At (xcs X cs ss) 7 (W3 T ad bd o σ u f) 452 [(0, .ref b), (1, .ref (ad 0)), (2, .ref (bd 0)), (3, .ref o), (4, .int v4)] [] := by
  have C := hC cs ss (Nat.le_trans hcs (Nat.le_trans (Nat.le_succ _) hcN)) (Nat.le_trans hss (Nat.le_trans (Nat.le_add_right _ 6) hsN))
  have hSX := SX_xcs hSX0 cs ss
  have hsim := hSim σ u hrel
  have h := hsim.2.2.2.2.2.2.2.2.1 (xf (v4 + 1).toNatClampNeg)
  refine at_aload_n C dL_law_452 1 rfl ?_
  refine at_aload_n C dL_law_453 0 rfl ?_
  refine at_iload C dL_law_454 4 rfl ?_
  refine at_iconst (v := 1) C dL_law_456 (by decide) ?_
  refine at_iadd C dL_law_457 ?_
  refine at_sld C hSX (hin 1 (by decide)) dL_law_458 ?_
  refine at_LC (K := (l, D, A, T)) C hs3 hA3 (kX8_bird l D ad T hs3.1 _ _ _ h) ok_X8_bird m_L_61 mi_X8_bird ml_X8_bird ⟨rfl, rfl, Nat.le_of_ble_eq_true rfl, Nat.le_of_ble_eq_true rfl⟩ rfl rfl (Nat.le_of_ble_eq_true rfl) dL_law_459 (fun r v h => ?_)
  refine at_aload_n C dL_law_462 2 rfl ?_
  refine at_aload_n C dL_law_463 0 rfl ?_
  refine at_iload C dL_law_464 4 rfl ?_
  refine at_iconst (v := 1) C dL_law_466 (by decide) ?_
  refine at_iadd C dL_law_467 ?_
  refine at_sld C hSX (hin 1 (by decide)) dL_law_468 ?_
  refine at_LM (K := (l, D, A, T)) C hs3 hA3 (kX9_bird l D bd T hs3.2.1 _ _ _ h) ok_X9_bird m_L_64 mi_X9_bird ml_X9_bird ⟨rfl, rfl, Nat.le_of_ble_eq_true rfl, Nat.le_of_ble_eq_true rfl⟩ rfl rfl (Nat.le_of_ble_eq_true rfl) dL_law_469 (fun r2 u2 h => ?_)
  refine at_icmp_eq (tgt := 773) C dL_law_472 (by decide) (fun _ => ?_) (fun hc => absurd h.1 hc)
  exact htail v u2 f cs ss h.2 (Nat.le_succ_of_le hcs) (Nat.le_trans hss (Nat.le_add_right _ 6))
set_option maxRecDepth 100000 in
set_option maxHeartbeats 8000000 in
theorem law_birds {X : XT} {l : Launch} {D : va_G} {A : Nat → Prop} {T : TT} {ad bd : Nat → Nat} {o b L : Nat} {xf : Nat → Int32} {Rel : St → SM → Prop} {cN sN : Nat} (hC : ∀ a c : Nat, a ≤ 601024 → c ≤ 7293034 → Cx (xcs X a c) (l, D, A, T) cL_law RL 7 2048 84000) (hZ : ∀ a c : Nat, ZX (xcs X a c)) (hR : ∀ a c : Nat, a ≤ 601024 → c ≤ 7293034 → RX X a c) (hst : l.stackTraces = false) (hs3 : Sep3 ad bd o) (hA3 : ∀ q, A3 ad bd o q → A q) (hSX0 : SX X b L xf) (hcN : cN + 1 ≤ 601024) (hsN : sN + 6 ≤ 7293034) {v4 : Int32} {σ : St} {u : SM} {f : Nat → Int64} {cs ss : Nat} (hcs : cs ≤ cN) (hss : ss ≤ sN) (hin : ∀ k : Nat, k < 6 → vp_in (v4 + nI k) L) (hrel : Rel σ u) (hSim : Sim Rel) (htail : ∀ (σ2 : St) (u2 : SM) (f2 : Nat → Int64) (a c : Nat), Rel σ2 u2 → a ≤ cN + 1 → c ≤ sN + 6 → At (xcs X a c) 7 (W3 T ad bd o σ2 u2 f2) 773 [(0, .ref b), (1, .ref (ad 0)), (2, .ref (bd 0)), (3, .ref o), (4, .int v4)] []) : At (xcs X cs ss) 7 (W3 T ad bd o σ u f) 477 [(0, .ref b), (1, .ref (ad 0)), (2, .ref (bd 0)), (3, .ref o), (4, .int v4)] [] := by
  have C := hC cs ss (Nat.le_trans hcs (Nat.le_trans (Nat.le_succ _) hcN)) (Nat.le_trans hss (Nat.le_trans (Nat.le_add_right _ 6) hsN))
  have hSX := SX_xcs hSX0 cs ss
  have hsim := hSim σ u hrel
  have h := hsim.2.2.2.2.2.2.2.2.2.1 (xf (v4 + 1).toNatClampNeg) (xf (v4 + 2).toNatClampNeg) (xf (v4 + 3).toNatClampNeg)
  refine at_aload_n C dL_law_477 1 rfl ?_
  refine at_aload_n C dL_law_478 0 rfl ?_
  refine at_iload C dL_law_479 4 rfl ?_
  refine at_iconst (v := 1) C dL_law_481 (by decide) ?_
  refine at_iadd C dL_law_482 ?_
  refine at_sld C hSX (hin 1 (by decide)) dL_law_483 ?_
  refine at_aload_n C dL_law_484 0 rfl ?_
  refine at_iload C dL_law_485 4 rfl ?_
  refine at_iconst (v := 2) C dL_law_487 (by decide) ?_
  refine at_iadd C dL_law_488 ?_
  refine at_sld C hSX (hin 2 (by decide)) dL_law_489 ?_
  refine at_aload_n C dL_law_490 0 rfl ?_
  refine at_iload C dL_law_491 4 rfl ?_
  refine at_iconst (v := 3) C dL_law_493 (by decide) ?_
  refine at_iadd C dL_law_494 ?_
  refine at_sld C hSX (hin 3 (by decide)) dL_law_495 ?_
  refine at_aload_n C dL_law_496 3 rfl ?_
  refine at_LW (K := (l, D, A, T)) (Q := fun k w => (k = 0 ∧ ∃ r : Int32, w.2 (Int32.toNatClampNeg 0) = r.toInt64 ∧ pX9_birds (xf (v4 + 1).toNatClampNeg) (xf (v4 + 2).toNatClampNeg) (xf (v4 + 3).toNatClampNeg) u (fun r2 u2 => pX9_thrown u2 (fun t u3 => t = 0 ∧ r = r2 ∧ Rel w.1 u3))) ∨ (k = 1 ∧ pX9_birds (xf (v4 + 1).toNatClampNeg) (xf (v4 + 2).toNatClampNeg) (xf (v4 + 3).toNatClampNeg) u (fun _ u2 => pX9_thrown u2 (fun t u3 => t = 1 ∧ Rel w.1 u3)))) C (hZ cs ss) (hR (cs + 1) (ss + 6) (Nat.le_trans (Nat.succ_le_succ hcs) hcN) (Nat.le_trans (Nat.add_le_add_right hss 6) hsN)) hs3 hA3 (kL_birds l D ad bd o T hst hs3 _ _ _ _ _ _ _ (h _ _ (fun r v h => Or.inl ⟨rfl, r, by exact pk_uLs (f := f) (k := Int32.toNatClampNeg 0) (x := r.toInt64), h⟩) (fun v h => Or.inr ⟨rfl, h⟩))) (okW_birds) m_L_65 ms_L_birds ⟨rfl, rfl, Nat.le_of_ble_eq_true rfl, Nat.le_of_ble_eq_true rfl⟩ rfl rfl (Nat.le_of_ble_eq_true rfl) dL_law_497 (fun k w hk => ?_)
  have C1 := hC (cs + 1) (ss + 6) (Nat.le_trans (Nat.succ_le_succ hcs) hcN) (Nat.le_trans (Nat.add_le_add_right hss 6) hsN)
  have hSX1 := SX_xcs hSX0 (cs + 1) (ss + 6)
  refine at_istore (lv' := [(0, .ref b), (1, .ref (ad 0)), (2, .ref (bd 0)), (3, .ref o), (4, .int v4), (5, .int k)]) C1 dL_law_500 (by decide) [1, 2, 3, 4, 5, 0] rfl ?_
  refine at_aload_n C1 dL_law_502 2 rfl ?_
  refine at_aload_n C1 dL_law_503 0 rfl ?_
  refine at_iload C1 dL_law_504 4 rfl ?_
  refine at_iconst (v := 1) C1 dL_law_506 (by decide) ?_
  refine at_iadd C1 dL_law_507 ?_
  refine at_sld C1 hSX1 (hin 1 (by decide)) dL_law_508 ?_
  refine at_aload_n C1 dL_law_509 0 rfl ?_
  refine at_iload C1 dL_law_510 4 rfl ?_
  refine at_iconst (v := 2) C1 dL_law_512 (by decide) ?_
  refine at_iadd C1 dL_law_513 ?_
  refine at_sld C1 hSX1 (hin 2 (by decide)) dL_law_514 ?_
  refine at_aload_n C1 dL_law_515 0 rfl ?_
  refine at_iload C1 dL_law_516 4 rfl ?_
  refine at_iconst (v := 3) C1 dL_law_518 (by decide) ?_
  refine at_iadd C1 dL_law_519 ?_
  refine at_sld C1 hSX1 (hin 3 (by decide)) dL_law_520 ?_
  rcases hk with ⟨rfl, r, hr0, h⟩ | ⟨rfl, h⟩
  · refine at_LM (K := (l, D, A, T)) C1 hs3 hA3 (kX9_birds l D bd T hs3.2.1 _ _ _ _ _ h) ok_X9_birds m_L_70 mi_X9_birds ml_X9_birds ⟨rfl, rfl, Nat.le_of_ble_eq_true rfl, Nat.le_of_ble_eq_true rfl⟩ rfl rfl (Nat.le_of_ble_eq_true rfl) dL_law_521 (fun r2 u2 h => ?_)
    refine at_istore (lv' := [(0, .ref b), (1, .ref (ad 0)), (2, .ref (bd 0)), (3, .ref o), (4, .int v4), (5, .int 0), (6, .int r2)]) C1 dL_law_524 (by decide) [1, 2, 3, 4, 5, 6, 0] rfl ?_
    refine at_aload_n C1 dL_law_526 2 rfl ?_
    refine at_LM (K := (l, D, A, T)) C1 hs3 hA3 (kX9_thrown l D bd T hs3.2.1 _ _ h) ok_X9_thrown m_L_71 mi_X9_thrown ml_X9_thrown ⟨rfl, rfl, Nat.le_of_ble_eq_true rfl, Nat.le_of_ble_eq_true rfl⟩ rfl rfl (Nat.le_of_ble_eq_true rfl) dL_law_527 (fun t u3 h => ?_)
    refine at_iload C1 dL_law_530 5 rfl ?_
    refine at_icmp_eq (tgt := 537) C1 dL_law_532 (by decide) (fun _ => ?_) (fun hc => absurd h.1 hc)
    refine at_iload C1 dL_law_537 5 rfl ?_
    refine at_if_ne (tgt := 554) C1 dL_law_539 (by decide) (fun hc => absurd rfl hc) (fun _ => ?_)
    refine at_aload_n C1 dL_law_542 3 rfl ?_
    refine at_iconst (v := 0) C1 dL_law_543 (by decide) ?_
    refine at_lald C1 67 (W3_g67 T ad bd o w.1 u3 w.2) (vp_in_iff.mpr (by decide)) dL_law_544 ?_
    refine at_iload C1 dL_law_545 6 rfl ?_
    refine at_i2l C1 dL_law_547 ?_
    refine at_lcmp C1 dL_law_548 ?_
    refine at_if_eq (tgt := 554) C1 dL_law_549 (by decide) (fun _ => ?_) (fun hc => absurd (by rw [hr0, h.2.1]; exact lg_cmp_self _) hc)
    refine at_goto (tgt := 773) C1 dL_law_554 (by decide) ?_
    refine at_sub [0, 1, 2, 3, 4] rfl ?_
    exact htail w.1 u3 w.2 (cs + 1) (ss + 6) h.2.2 (Nat.succ_le_succ hcs) (Nat.add_le_add_right hss 6)
  · refine at_LM (K := (l, D, A, T)) C1 hs3 hA3 (kX9_birds l D bd T hs3.2.1 _ _ _ _ _ h) ok_X9_birds m_L_70 mi_X9_birds ml_X9_birds ⟨rfl, rfl, Nat.le_of_ble_eq_true rfl, Nat.le_of_ble_eq_true rfl⟩ rfl rfl (Nat.le_of_ble_eq_true rfl) dL_law_521 (fun r2 u2 h => ?_)
    refine at_istore (lv' := [(0, .ref b), (1, .ref (ad 0)), (2, .ref (bd 0)), (3, .ref o), (4, .int v4), (5, .int 1), (6, .int r2)]) C1 dL_law_524 (by decide) [1, 2, 3, 4, 5, 6, 0] rfl ?_
    refine at_aload_n C1 dL_law_526 2 rfl ?_
    refine at_LM (K := (l, D, A, T)) C1 hs3 hA3 (kX9_thrown l D bd T hs3.2.1 _ _ h) ok_X9_thrown m_L_71 mi_X9_thrown ml_X9_thrown ⟨rfl, rfl, Nat.le_of_ble_eq_true rfl, Nat.le_of_ble_eq_true rfl⟩ rfl rfl (Nat.le_of_ble_eq_true rfl) dL_law_527 (fun t u3 h => ?_)
    refine at_iload C1 dL_law_530 5 rfl ?_
    refine at_icmp_eq (tgt := 537) C1 dL_law_532 (by decide) (fun _ => ?_) (fun hc => absurd h.1 hc)
    refine at_iload C1 dL_law_537 5 rfl ?_
    refine at_if_ne (tgt := 554) C1 dL_law_539 (by decide) (fun _ => ?_) (fun hc => absurd hc (by decide))
    refine at_goto (tgt := 773) C1 dL_law_554 (by decide) ?_
    refine at_sub [0, 1, 2, 3, 4] rfl ?_
    exact htail w.1 u3 w.2 (cs + 1) (ss + 6) h.2 (Nat.succ_le_succ hcs) (Nat.add_le_add_right hss 6)
set_option maxRecDepth 100000 in
set_option maxHeartbeats 8000000 in
theorem law_year {X : XT} {l : Launch} {D : va_G} {A : Nat → Prop} {T : TT} {ad bd : Nat → Nat} {o b L : Nat} {xf : Nat → Int32} {Rel : St → SM → Prop} {cN sN : Nat} (hC : ∀ a c : Nat, a ≤ 601024 → c ≤ 7293034 → Cx (xcs X a c) (l, D, A, T) cL_law RL 7 2048 84000) (hZ : ∀ a c : Nat, ZX (xcs X a c)) (hR : ∀ a c : Nat, a ≤ 601024 → c ≤ 7293034 → RX X a c) (hst : l.stackTraces = false) (hs3 : Sep3 ad bd o) (hA3 : ∀ q, A3 ad bd o q → A q) (hSX0 : SX X b L xf) (hcN : cN + 1 ≤ 601024) (hsN : sN + 6 ≤ 7293034) {v4 : Int32} {σ : St} {u : SM} {f : Nat → Int64} {cs ss : Nat} (hcs : cs ≤ cN) (hss : ss ≤ sN) (hin : ∀ k : Nat, k < 6 → vp_in (v4 + nI k) L) (hrel : Rel σ u) (hSim : Sim Rel) (htail : ∀ (σ2 : St) (u2 : SM) (f2 : Nat → Int64) (a c : Nat), Rel σ2 u2 → a ≤ cN + 1 → c ≤ sN + 6 → At (xcs X a c) 7 (W3 T ad bd o σ2 u2 f2) 773 [(0, .ref b), (1, .ref (ad 0)), (2, .ref (bd 0)), (3, .ref o), (4, .int v4)] []) : At (xcs X cs ss) 7 (W3 T ad bd o σ u f) 557 [(0, .ref b), (1, .ref (ad 0)), (2, .ref (bd 0)), (3, .ref o), (4, .int v4)] [] := by
  have C := hC cs ss (Nat.le_trans hcs (Nat.le_trans (Nat.le_succ _) hcN)) (Nat.le_trans hss (Nat.le_trans (Nat.le_add_right _ 6) hsN))
  have hSX := SX_xcs hSX0 cs ss
  have hsim := hSim σ u hrel
  have h := hsim.2.2.2.2.2.2.2.2.2.2.1 (xf (v4 + 1).toNatClampNeg) (xf (v4 + 2).toNatClampNeg)
  refine at_aload_n C dL_law_557 1 rfl ?_
  refine at_aload_n C dL_law_558 0 rfl ?_
  refine at_iload C dL_law_559 4 rfl ?_
  refine at_iconst (v := 1) C dL_law_561 (by decide) ?_
  refine at_iadd C dL_law_562 ?_
  refine at_sld C hSX (hin 1 (by decide)) dL_law_563 ?_
  refine at_aload_n C dL_law_564 0 rfl ?_
  refine at_iload C dL_law_565 4 rfl ?_
  refine at_iconst (v := 2) C dL_law_567 (by decide) ?_
  refine at_iadd C dL_law_568 ?_
  refine at_sld C hSX (hin 2 (by decide)) dL_law_569 ?_
  refine at_LC (K := (l, D, A, T)) C hs3 hA3 (kX8_year l D ad T hs3.1 _ _ _ _ h) ok_X8_year m_L_74 mi_X8_year ml_X8_year ⟨rfl, rfl, Nat.le_of_ble_eq_true rfl, Nat.le_of_ble_eq_true rfl⟩ rfl rfl (Nat.le_of_ble_eq_true rfl) dL_law_570 (fun r v h => ?_)
  refine at_aload_n C dL_law_573 2 rfl ?_
  refine at_aload_n C dL_law_574 0 rfl ?_
  refine at_iload C dL_law_575 4 rfl ?_
  refine at_iconst (v := 1) C dL_law_577 (by decide) ?_
  refine at_iadd C dL_law_578 ?_
  refine at_sld C hSX (hin 1 (by decide)) dL_law_579 ?_
  refine at_aload_n C dL_law_580 0 rfl ?_
  refine at_iload C dL_law_581 4 rfl ?_
  refine at_iconst (v := 2) C dL_law_583 (by decide) ?_
  refine at_iadd C dL_law_584 ?_
  refine at_sld C hSX (hin 2 (by decide)) dL_law_585 ?_
  refine at_LM (K := (l, D, A, T)) C hs3 hA3 (kX9_year l D bd T hs3.2.1 _ _ _ _ h) ok_X9_year m_L_77 mi_X9_year ml_X9_year ⟨rfl, rfl, Nat.le_of_ble_eq_true rfl, Nat.le_of_ble_eq_true rfl⟩ rfl rfl (Nat.le_of_ble_eq_true rfl) dL_law_586 (fun r2 u2 h => ?_)
  refine at_icmp_eq (tgt := 773) C dL_law_589 (by decide) (fun _ => ?_) (fun hc => absurd h.1 hc)
  exact htail v u2 f cs ss h.2 (Nat.le_succ_of_le hcs) (Nat.le_trans hss (Nat.le_add_right _ 6))
set_option maxRecDepth 100000 in
set_option maxHeartbeats 8000000 in
theorem law_passage {X : XT} {l : Launch} {D : va_G} {A : Nat → Prop} {T : TT} {ad bd : Nat → Nat} {o b L : Nat} {xf : Nat → Int32} {Rel : St → SM → Prop} {cN sN : Nat} (hC : ∀ a c : Nat, a ≤ 601024 → c ≤ 7293034 → Cx (xcs X a c) (l, D, A, T) cL_law RL 7 2048 84000) (hZ : ∀ a c : Nat, ZX (xcs X a c)) (hR : ∀ a c : Nat, a ≤ 601024 → c ≤ 7293034 → RX X a c) (hst : l.stackTraces = false) (hs3 : Sep3 ad bd o) (hA3 : ∀ q, A3 ad bd o q → A q) (hSX0 : SX X b L xf) (hcN : cN + 1 ≤ 601024) (hsN : sN + 6 ≤ 7293034) {v4 : Int32} {σ : St} {u : SM} {f : Nat → Int64} {cs ss : Nat} (hcs : cs ≤ cN) (hss : ss ≤ sN) (hin : ∀ k : Nat, k < 6 → vp_in (v4 + nI k) L) (hrel : Rel σ u) (hSim : Sim Rel) (htail : ∀ (σ2 : St) (u2 : SM) (f2 : Nat → Int64) (a c : Nat), Rel σ2 u2 → a ≤ cN + 1 → c ≤ sN + 6 → At (xcs X a c) 7 (W3 T ad bd o σ2 u2 f2) 773 [(0, .ref b), (1, .ref (ad 0)), (2, .ref (bd 0)), (3, .ref o), (4, .int v4)] []) : At (xcs X cs ss) 7 (W3 T ad bd o σ u f) 594 [(0, .ref b), (1, .ref (ad 0)), (2, .ref (bd 0)), (3, .ref o), (4, .int v4)] [] := by
  have C := hC cs ss (Nat.le_trans hcs (Nat.le_trans (Nat.le_succ _) hcN)) (Nat.le_trans hss (Nat.le_trans (Nat.le_add_right _ 6) hsN))
  have hSX := SX_xcs hSX0 cs ss
  have hsim := hSim σ u hrel
  have h := hsim.2.2.2.2.2.2.2.2.2.2.2.1 (xf (v4 + 1).toNatClampNeg) (xf (v4 + 2).toNatClampNeg) (xf (v4 + 3).toNatClampNeg)
  refine at_aload_n C dL_law_594 1 rfl ?_
  refine at_aload_n C dL_law_595 0 rfl ?_
  refine at_iload C dL_law_596 4 rfl ?_
  refine at_iconst (v := 1) C dL_law_598 (by decide) ?_
  refine at_iadd C dL_law_599 ?_
  refine at_sld C hSX (hin 1 (by decide)) dL_law_600 ?_
  refine at_aload_n C dL_law_601 0 rfl ?_
  refine at_iload C dL_law_602 4 rfl ?_
  refine at_iconst (v := 2) C dL_law_604 (by decide) ?_
  refine at_iadd C dL_law_605 ?_
  refine at_sld C hSX (hin 2 (by decide)) dL_law_606 ?_
  refine at_aload_n C dL_law_607 0 rfl ?_
  refine at_iload C dL_law_608 4 rfl ?_
  refine at_iconst (v := 3) C dL_law_610 (by decide) ?_
  refine at_iadd C dL_law_611 ?_
  refine at_sld C hSX (hin 3 (by decide)) dL_law_612 ?_
  refine at_LC (K := (l, D, A, T)) C hs3 hA3 (kX8_passage l D ad T hs3.1 _ _ _ _ _ h) ok_X8_passage m_L_78 mi_X8_passage ml_X8_passage ⟨rfl, rfl, Nat.le_of_ble_eq_true rfl, Nat.le_of_ble_eq_true rfl⟩ rfl rfl (Nat.le_of_ble_eq_true rfl) dL_law_613 (fun r v h => ?_)
  refine at_aload_n C dL_law_616 2 rfl ?_
  refine at_aload_n C dL_law_617 0 rfl ?_
  refine at_iload C dL_law_618 4 rfl ?_
  refine at_iconst (v := 1) C dL_law_620 (by decide) ?_
  refine at_iadd C dL_law_621 ?_
  refine at_sld C hSX (hin 1 (by decide)) dL_law_622 ?_
  refine at_aload_n C dL_law_623 0 rfl ?_
  refine at_iload C dL_law_624 4 rfl ?_
  refine at_iconst (v := 2) C dL_law_626 (by decide) ?_
  refine at_iadd C dL_law_627 ?_
  refine at_sld C hSX (hin 2 (by decide)) dL_law_628 ?_
  refine at_aload_n C dL_law_629 0 rfl ?_
  refine at_iload C dL_law_630 4 rfl ?_
  refine at_iconst (v := 3) C dL_law_632 (by decide) ?_
  refine at_iadd C dL_law_633 ?_
  refine at_sld C hSX (hin 3 (by decide)) dL_law_634 ?_
  refine at_LM (K := (l, D, A, T)) C hs3 hA3 (kX9_passage l D bd T hs3.2.1 _ _ _ _ _ h) ok_X9_passage m_L_81 mi_X9_passage ml_X9_passage ⟨rfl, rfl, Nat.le_of_ble_eq_true rfl, Nat.le_of_ble_eq_true rfl⟩ rfl rfl (Nat.le_of_ble_eq_true rfl) dL_law_635 (fun r2 u2 h => ?_)
  refine at_icmp_eq (tgt := 773) C dL_law_638 (by decide) (fun _ => ?_) (fun hc => absurd h.1 hc)
  exact htail v u2 f cs ss h.2 (Nat.le_succ_of_le hcs) (Nat.le_trans hss (Nat.le_add_right _ 6))
set_option maxRecDepth 100000 in
set_option maxHeartbeats 8000000 in
theorem law_change {X : XT} {l : Launch} {D : va_G} {A : Nat → Prop} {T : TT} {ad bd : Nat → Nat} {o b L : Nat} {xf : Nat → Int32} {Rel : St → SM → Prop} {cN sN : Nat} (hC : ∀ a c : Nat, a ≤ 601024 → c ≤ 7293034 → Cx (xcs X a c) (l, D, A, T) cL_law RL 7 2048 84000) (hZ : ∀ a c : Nat, ZX (xcs X a c)) (hR : ∀ a c : Nat, a ≤ 601024 → c ≤ 7293034 → RX X a c) (hst : l.stackTraces = false) (hs3 : Sep3 ad bd o) (hA3 : ∀ q, A3 ad bd o q → A q) (hSX0 : SX X b L xf) (hcN : cN + 1 ≤ 601024) (hsN : sN + 6 ≤ 7293034) {v4 : Int32} {σ : St} {u : SM} {f : Nat → Int64} {cs ss : Nat} (hcs : cs ≤ cN) (hss : ss ≤ sN) (hin : ∀ k : Nat, k < 6 → vp_in (v4 + nI k) L) (hrel : Rel σ u) (hSim : Sim Rel) (htail : ∀ (σ2 : St) (u2 : SM) (f2 : Nat → Int64) (a c : Nat), Rel σ2 u2 → a ≤ cN + 1 → c ≤ sN + 6 → At (xcs X a c) 7 (W3 T ad bd o σ2 u2 f2) 773 [(0, .ref b), (1, .ref (ad 0)), (2, .ref (bd 0)), (3, .ref o), (4, .int v4)] []) : At (xcs X cs ss) 7 (W3 T ad bd o σ u f) 643 [(0, .ref b), (1, .ref (ad 0)), (2, .ref (bd 0)), (3, .ref o), (4, .int v4)] [] := by
  have C := hC cs ss (Nat.le_trans hcs (Nat.le_trans (Nat.le_succ _) hcN)) (Nat.le_trans hss (Nat.le_trans (Nat.le_add_right _ 6) hsN))
  have hSX := SX_xcs hSX0 cs ss
  have hsim := hSim σ u hrel
  have h := hsim.2.2.2.2.2.2.2.2.2.2.2.2.1 (xf (v4 + 1).toNatClampNeg) (xf (v4 + 2).toNatClampNeg)
  refine at_aload_n C dL_law_643 1 rfl ?_
  refine at_aload_n C dL_law_644 0 rfl ?_
  refine at_iload C dL_law_645 4 rfl ?_
  refine at_iconst (v := 1) C dL_law_647 (by decide) ?_
  refine at_iadd C dL_law_648 ?_
  refine at_sld C hSX (hin 1 (by decide)) dL_law_649 ?_
  refine at_aload_n C dL_law_650 0 rfl ?_
  refine at_iload C dL_law_651 4 rfl ?_
  refine at_iconst (v := 2) C dL_law_653 (by decide) ?_
  refine at_iadd C dL_law_654 ?_
  refine at_sld C hSX (hin 2 (by decide)) dL_law_655 ?_
  refine at_LC (K := (l, D, A, T)) C hs3 hA3 (kX8_change l D ad T hs3.1 _ _ _ _ h) ok_X8_change m_L_82 mi_X8_change ml_X8_change ⟨rfl, rfl, Nat.le_of_ble_eq_true rfl, Nat.le_of_ble_eq_true rfl⟩ rfl rfl (Nat.le_of_ble_eq_true rfl) dL_law_656 (fun r v h => ?_)
  refine at_aload_n C dL_law_659 2 rfl ?_
  refine at_aload_n C dL_law_660 0 rfl ?_
  refine at_iload C dL_law_661 4 rfl ?_
  refine at_iconst (v := 1) C dL_law_663 (by decide) ?_
  refine at_iadd C dL_law_664 ?_
  refine at_sld C hSX (hin 1 (by decide)) dL_law_665 ?_
  refine at_aload_n C dL_law_666 0 rfl ?_
  refine at_iload C dL_law_667 4 rfl ?_
  refine at_iconst (v := 2) C dL_law_669 (by decide) ?_
  refine at_iadd C dL_law_670 ?_
  refine at_sld C hSX (hin 2 (by decide)) dL_law_671 ?_
  refine at_LM (K := (l, D, A, T)) C hs3 hA3 (kX9_change l D bd T hs3.2.1 _ _ _ _ h) ok_X9_change m_L_85 mi_X9_change ml_X9_change ⟨rfl, rfl, Nat.le_of_ble_eq_true rfl, Nat.le_of_ble_eq_true rfl⟩ rfl rfl (Nat.le_of_ble_eq_true rfl) dL_law_672 (fun r2 u2 h => ?_)
  refine at_icmp_eq (tgt := 773) C dL_law_675 (by decide) (fun _ => ?_) (fun hc => absurd h.1 hc)
  exact htail v u2 f cs ss h.2 (Nat.le_succ_of_le hcs) (Nat.le_trans hss (Nat.le_add_right _ 6))
set_option maxRecDepth 100000 in
set_option maxHeartbeats 8000000 in
theorem law_look {X : XT} {l : Launch} {D : va_G} {A : Nat → Prop} {T : TT} {ad bd : Nat → Nat} {o b L : Nat} {xf : Nat → Int32} {Rel : St → SM → Prop} {cN sN : Nat} (hC : ∀ a c : Nat, a ≤ 601024 → c ≤ 7293034 → Cx (xcs X a c) (l, D, A, T) cL_law RL 7 2048 84000) (hZ : ∀ a c : Nat, ZX (xcs X a c)) (hR : ∀ a c : Nat, a ≤ 601024 → c ≤ 7293034 → RX X a c) (hst : l.stackTraces = false) (hs3 : Sep3 ad bd o) (hA3 : ∀ q, A3 ad bd o q → A q) (hSX0 : SX X b L xf) (hcN : cN + 1 ≤ 601024) (hsN : sN + 6 ≤ 7293034) {v4 : Int32} {σ : St} {u : SM} {f : Nat → Int64} {cs ss : Nat} (hcs : cs ≤ cN) (hss : ss ≤ sN) (hin : ∀ k : Nat, k < 6 → vp_in (v4 + nI k) L) (hrel : Rel σ u) (hSim : Sim Rel) (htail : ∀ (σ2 : St) (u2 : SM) (f2 : Nat → Int64) (a c : Nat), Rel σ2 u2 → a ≤ cN + 1 → c ≤ sN + 6 → At (xcs X a c) 7 (W3 T ad bd o σ2 u2 f2) 773 [(0, .ref b), (1, .ref (ad 0)), (2, .ref (bd 0)), (3, .ref o), (4, .int v4)] []) : At (xcs X cs ss) 7 (W3 T ad bd o σ u f) 680 [(0, .ref b), (1, .ref (ad 0)), (2, .ref (bd 0)), (3, .ref o), (4, .int v4)] [] := by
  have C := hC cs ss (Nat.le_trans hcs (Nat.le_trans (Nat.le_succ _) hcN)) (Nat.le_trans hss (Nat.le_trans (Nat.le_add_right _ 6) hsN))
  have hSX := SX_xcs hSX0 cs ss
  have hsim := hSim σ u hrel
  have h := hsim.2.2.2.2.2.2.2.2.2.2.2.2.2.1 (xf (v4 + 1).toNatClampNeg) (xf (v4 + 2).toNatClampNeg)
  refine at_aload_n C dL_law_680 1 rfl ?_
  refine at_aload_n C dL_law_681 0 rfl ?_
  refine at_iload C dL_law_682 4 rfl ?_
  refine at_iconst (v := 1) C dL_law_684 (by decide) ?_
  refine at_iadd C dL_law_685 ?_
  refine at_sld C hSX (hin 1 (by decide)) dL_law_686 ?_
  refine at_aload_n C dL_law_687 0 rfl ?_
  refine at_iload C dL_law_688 4 rfl ?_
  refine at_iconst (v := 2) C dL_law_690 (by decide) ?_
  refine at_iadd C dL_law_691 ?_
  refine at_sld C hSX (hin 2 (by decide)) dL_law_692 ?_
  refine at_aload_n C dL_law_693 3 rfl ?_
  refine at_LW (K := (l, D, A, T)) (Q := fun k w => (k = 0 ∧ ∃ r : Int32, w.2 (Int32.toNatClampNeg 0) = r.toInt64 ∧ pX9_look (xf (v4 + 1).toNatClampNeg) (xf (v4 + 2).toNatClampNeg) u (fun r2 u2 => pX9_thrown u2 (fun t u3 => t = 0 ∧ r = r2 ∧ Rel w.1 u3))) ∨ (k = 1 ∧ pX9_look (xf (v4 + 1).toNatClampNeg) (xf (v4 + 2).toNatClampNeg) u (fun _ u2 => pX9_thrown u2 (fun t u3 => t = 1 ∧ Rel w.1 u3)))) C (hZ cs ss) (hR (cs + 1) (ss + 6) (Nat.le_trans (Nat.succ_le_succ hcs) hcN) (Nat.le_trans (Nat.add_le_add_right hss 6) hsN)) hs3 hA3 (kL_look l D ad bd o T hst hs3 _ _ _ _ _ _ (h _ _ (fun r v h => Or.inl ⟨rfl, r, by exact pk_uLs (f := f) (k := Int32.toNatClampNeg 0) (x := r.toInt64), h⟩) (fun v h => Or.inr ⟨rfl, h⟩))) (okW_look) m_L_86 ms_L_look ⟨rfl, rfl, Nat.le_of_ble_eq_true rfl, Nat.le_of_ble_eq_true rfl⟩ rfl rfl (Nat.le_of_ble_eq_true rfl) dL_law_694 (fun k w hk => ?_)
  have C1 := hC (cs + 1) (ss + 6) (Nat.le_trans (Nat.succ_le_succ hcs) hcN) (Nat.le_trans (Nat.add_le_add_right hss 6) hsN)
  have hSX1 := SX_xcs hSX0 (cs + 1) (ss + 6)
  refine at_istore (lv' := [(0, .ref b), (1, .ref (ad 0)), (2, .ref (bd 0)), (3, .ref o), (4, .int v4), (5, .int k)]) C1 dL_law_697 (by decide) [1, 2, 3, 4, 5, 0] rfl ?_
  refine at_aload_n C1 dL_law_699 2 rfl ?_
  refine at_aload_n C1 dL_law_700 0 rfl ?_
  refine at_iload C1 dL_law_701 4 rfl ?_
  refine at_iconst (v := 1) C1 dL_law_703 (by decide) ?_
  refine at_iadd C1 dL_law_704 ?_
  refine at_sld C1 hSX1 (hin 1 (by decide)) dL_law_705 ?_
  refine at_aload_n C1 dL_law_706 0 rfl ?_
  refine at_iload C1 dL_law_707 4 rfl ?_
  refine at_iconst (v := 2) C1 dL_law_709 (by decide) ?_
  refine at_iadd C1 dL_law_710 ?_
  refine at_sld C1 hSX1 (hin 2 (by decide)) dL_law_711 ?_
  rcases hk with ⟨rfl, r, hr0, h⟩ | ⟨rfl, h⟩
  · refine at_LM (K := (l, D, A, T)) C1 hs3 hA3 (kX9_look l D bd T hs3.2.1 _ _ _ _ h) ok_X9_look m_L_89 mi_X9_look ml_X9_look ⟨rfl, rfl, Nat.le_of_ble_eq_true rfl, Nat.le_of_ble_eq_true rfl⟩ rfl rfl (Nat.le_of_ble_eq_true rfl) dL_law_712 (fun r2 u2 h => ?_)
    refine at_istore (lv' := [(0, .ref b), (1, .ref (ad 0)), (2, .ref (bd 0)), (3, .ref o), (4, .int v4), (5, .int 0), (6, .int r2)]) C1 dL_law_715 (by decide) [1, 2, 3, 4, 5, 6, 0] rfl ?_
    refine at_aload_n C1 dL_law_717 2 rfl ?_
    refine at_LM (K := (l, D, A, T)) C1 hs3 hA3 (kX9_thrown l D bd T hs3.2.1 _ _ h) ok_X9_thrown m_L_71 mi_X9_thrown ml_X9_thrown ⟨rfl, rfl, Nat.le_of_ble_eq_true rfl, Nat.le_of_ble_eq_true rfl⟩ rfl rfl (Nat.le_of_ble_eq_true rfl) dL_law_718 (fun t u3 h => ?_)
    refine at_iload C1 dL_law_721 5 rfl ?_
    refine at_icmp_eq (tgt := 728) C1 dL_law_723 (by decide) (fun _ => ?_) (fun hc => absurd h.1 hc)
    refine at_iload C1 dL_law_728 5 rfl ?_
    refine at_if_ne (tgt := 745) C1 dL_law_730 (by decide) (fun hc => absurd rfl hc) (fun _ => ?_)
    refine at_aload_n C1 dL_law_733 3 rfl ?_
    refine at_iconst (v := 0) C1 dL_law_734 (by decide) ?_
    refine at_lald C1 67 (W3_g67 T ad bd o w.1 u3 w.2) (vp_in_iff.mpr (by decide)) dL_law_735 ?_
    refine at_iload C1 dL_law_736 6 rfl ?_
    refine at_i2l C1 dL_law_738 ?_
    refine at_lcmp C1 dL_law_739 ?_
    refine at_if_eq (tgt := 745) C1 dL_law_740 (by decide) (fun _ => ?_) (fun hc => absurd (by rw [hr0, h.2.1]; exact lg_cmp_self _) hc)
    refine at_goto (tgt := 773) C1 dL_law_745 (by decide) ?_
    refine at_sub [0, 1, 2, 3, 4] rfl ?_
    exact htail w.1 u3 w.2 (cs + 1) (ss + 6) h.2.2 (Nat.succ_le_succ hcs) (Nat.add_le_add_right hss 6)
  · refine at_LM (K := (l, D, A, T)) C1 hs3 hA3 (kX9_look l D bd T hs3.2.1 _ _ _ _ h) ok_X9_look m_L_89 mi_X9_look ml_X9_look ⟨rfl, rfl, Nat.le_of_ble_eq_true rfl, Nat.le_of_ble_eq_true rfl⟩ rfl rfl (Nat.le_of_ble_eq_true rfl) dL_law_712 (fun r2 u2 h => ?_)
    refine at_istore (lv' := [(0, .ref b), (1, .ref (ad 0)), (2, .ref (bd 0)), (3, .ref o), (4, .int v4), (5, .int 1), (6, .int r2)]) C1 dL_law_715 (by decide) [1, 2, 3, 4, 5, 6, 0] rfl ?_
    refine at_aload_n C1 dL_law_717 2 rfl ?_
    refine at_LM (K := (l, D, A, T)) C1 hs3 hA3 (kX9_thrown l D bd T hs3.2.1 _ _ h) ok_X9_thrown m_L_71 mi_X9_thrown ml_X9_thrown ⟨rfl, rfl, Nat.le_of_ble_eq_true rfl, Nat.le_of_ble_eq_true rfl⟩ rfl rfl (Nat.le_of_ble_eq_true rfl) dL_law_718 (fun t u3 h => ?_)
    refine at_iload C1 dL_law_721 5 rfl ?_
    refine at_icmp_eq (tgt := 728) C1 dL_law_723 (by decide) (fun _ => ?_) (fun hc => absurd h.1 hc)
    refine at_iload C1 dL_law_728 5 rfl ?_
    refine at_if_ne (tgt := 745) C1 dL_law_730 (by decide) (fun _ => ?_) (fun hc => absurd hc (by decide))
    refine at_goto (tgt := 773) C1 dL_law_745 (by decide) ?_
    refine at_sub [0, 1, 2, 3, 4] rfl ?_
    exact htail w.1 u3 w.2 (cs + 1) (ss + 6) h.2 (Nat.succ_le_succ hcs) (Nat.add_le_add_right hss 6)
set_option maxRecDepth 100000 in
set_option maxHeartbeats 8000000 in
theorem law_count {X : XT} {l : Launch} {D : va_G} {A : Nat → Prop} {T : TT} {ad bd : Nat → Nat} {o b L : Nat} {xf : Nat → Int32} {Rel : St → SM → Prop} {cN sN : Nat} (hC : ∀ a c : Nat, a ≤ 601024 → c ≤ 7293034 → Cx (xcs X a c) (l, D, A, T) cL_law RL 7 2048 84000) (hZ : ∀ a c : Nat, ZX (xcs X a c)) (hR : ∀ a c : Nat, a ≤ 601024 → c ≤ 7293034 → RX X a c) (hst : l.stackTraces = false) (hs3 : Sep3 ad bd o) (hA3 : ∀ q, A3 ad bd o q → A q) (hSX0 : SX X b L xf) (hcN : cN + 1 ≤ 601024) (hsN : sN + 6 ≤ 7293034) {v4 : Int32} {σ : St} {u : SM} {f : Nat → Int64} {cs ss : Nat} (hcs : cs ≤ cN) (hss : ss ≤ sN) (hin : ∀ k : Nat, k < 6 → vp_in (v4 + nI k) L) (hrel : Rel σ u) (hSim : Sim Rel) (htail : ∀ (σ2 : St) (u2 : SM) (f2 : Nat → Int64) (a c : Nat), Rel σ2 u2 → a ≤ cN + 1 → c ≤ sN + 6 → At (xcs X a c) 7 (W3 T ad bd o σ2 u2 f2) 773 [(0, .ref b), (1, .ref (ad 0)), (2, .ref (bd 0)), (3, .ref o), (4, .int v4)] []) : At (xcs X cs ss) 7 (W3 T ad bd o σ u f) 748 [(0, .ref b), (1, .ref (ad 0)), (2, .ref (bd 0)), (3, .ref o), (4, .int v4)] [] := by
  have C := hC cs ss (Nat.le_trans hcs (Nat.le_trans (Nat.le_succ _) hcN)) (Nat.le_trans hss (Nat.le_trans (Nat.le_add_right _ 6) hsN))
  have hSX := SX_xcs hSX0 cs ss
  have hsim := hSim σ u hrel
  have h := hsim.2.2.2.2.2.2.2.2.2.2.2.2.2.2 (xf (v4 + 1).toNatClampNeg)
  refine at_aload_n C dL_law_748 1 rfl ?_
  refine at_aload_n C dL_law_749 0 rfl ?_
  refine at_iload C dL_law_750 4 rfl ?_
  refine at_iconst (v := 1) C dL_law_752 (by decide) ?_
  refine at_iadd C dL_law_753 ?_
  refine at_sld C hSX (hin 1 (by decide)) dL_law_754 ?_
  refine at_LC (K := (l, D, A, T)) C hs3 hA3 (kX8_count l D ad T hs3.1 _ _ _ h) ok_X8_count m_L_90 mi_X8_count ml_X8_count ⟨rfl, rfl, Nat.le_of_ble_eq_true rfl, Nat.le_of_ble_eq_true rfl⟩ rfl rfl (Nat.le_of_ble_eq_true rfl) dL_law_755 (fun r v h => ?_)
  refine at_aload_n C dL_law_758 2 rfl ?_
  refine at_aload_n C dL_law_759 0 rfl ?_
  refine at_iload C dL_law_760 4 rfl ?_
  refine at_iconst (v := 1) C dL_law_762 (by decide) ?_
  refine at_iadd C dL_law_763 ?_
  refine at_sld C hSX (hin 1 (by decide)) dL_law_764 ?_
  refine at_LM (K := (l, D, A, T)) C hs3 hA3 (kX9_count l D bd T hs3.2.1 _ _ _ h) ok_X9_count m_L_93 mi_X9_count ml_X9_count ⟨rfl, rfl, Nat.le_of_ble_eq_true rfl, Nat.le_of_ble_eq_true rfl⟩ rfl rfl (Nat.le_of_ble_eq_true rfl) dL_law_765 (fun r2 u2 h => ?_)
  refine at_icmp_eq (tgt := 773) C dL_law_768 (by decide) (fun _ => ?_) (fun hc => absurd h.1 hc)
  exact htail v u2 f cs ss h.2 (Nat.le_succ_of_le hcs) (Nat.le_trans hss (Nat.le_add_right _ 6))

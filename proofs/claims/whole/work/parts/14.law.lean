theorem cwl_X9_crank : Cond.code yX9_crank cX9_crank 3 (some .int) ∈ tg := mem_tg 370 (by decide +kernel) rfl
theorem lk_RL_13 : LkV RL 13 yX9_crank cX9_crank 3 (some .int) 2 := ⟨mem_tg 367 (by decide +kernel) (by decide +kernel), mem_tg 368 (by decide +kernel) (by decide +kernel), mem_tg 369 (by decide +kernel) (by decide +kernel), mem_tg 47 (by decide +kernel) (by decide +kernel), cwl_X9_crank, by decide +kernel, by decide +kernel, by decide +kernel⟩
theorem cwl_X10_crank : Cond.code yX10_crank cX10_crank 4 (some .int) ∈ tg := mem_tg 880 (by decide +kernel) rfl
theorem lk_RL_17 : LkV RL 17 yX10_crank cX10_crank 4 (some .int) 2 := ⟨mem_tg 877 (by decide +kernel) (by decide +kernel), mem_tg 878 (by decide +kernel) (by decide +kernel), mem_tg 879 (by decide +kernel) (by decide +kernel), mem_tg 57 (by decide +kernel) (by decide +kernel), cwl_X10_crank, by decide +kernel, by decide +kernel, by decide +kernel⟩
theorem cwl_X9_bell : Cond.code yX9_bell cX9_bell 4 (some .int) ∈ tg := mem_tg 381 (by decide +kernel) rfl
theorem lk_RL_18 : LkV RL 18 yX9_bell cX9_bell 4 (some .int) 3 := ⟨mem_tg 378 (by decide +kernel) (by decide +kernel), mem_tg 379 (by decide +kernel) (by decide +kernel), mem_tg 380 (by decide +kernel) (by decide +kernel), mem_tg 47 (by decide +kernel) (by decide +kernel), cwl_X9_bell, by decide +kernel, by decide +kernel, by decide +kernel⟩
theorem cwl_X10_bell : Cond.code yX10_bell cX10_bell 5 (some .int) ∈ tg := mem_tg 887 (by decide +kernel) rfl
theorem lk_RL_22 : LkV RL 22 yX10_bell cX10_bell 5 (some .int) 3 := ⟨mem_tg 884 (by decide +kernel) (by decide +kernel), mem_tg 885 (by decide +kernel) (by decide +kernel), mem_tg 886 (by decide +kernel) (by decide +kernel), mem_tg 57 (by decide +kernel) (by decide +kernel), cwl_X10_bell, by decide +kernel, by decide +kernel, by decide +kernel⟩
theorem cwl_X9_heat : Cond.code yX9_heat cX9_heat 3 (some .int) ∈ tg := mem_tg 393 (by decide +kernel) rfl
theorem lk_RL_23 : LkV RL 23 yX9_heat cX9_heat 3 (some .int) 1 := ⟨mem_tg 390 (by decide +kernel) (by decide +kernel), mem_tg 391 (by decide +kernel) (by decide +kernel), mem_tg 392 (by decide +kernel) (by decide +kernel), mem_tg 47 (by decide +kernel) (by decide +kernel), cwl_X9_heat, by decide +kernel, by decide +kernel, by decide +kernel⟩
theorem cwl_X10_heat : Cond.code yX10_heat cX10_heat 3 (some .int) ∈ tg := mem_tg 891 (by decide +kernel) rfl
theorem lk_RL_27 : LkV RL 27 yX10_heat cX10_heat 3 (some .int) 1 := ⟨mem_tg 888 (by decide +kernel) (by decide +kernel), mem_tg 889 (by decide +kernel) (by decide +kernel), mem_tg 890 (by decide +kernel) (by decide +kernel), mem_tg 57 (by decide +kernel) (by decide +kernel), cwl_X10_heat, by decide +kernel, by decide +kernel, by decide +kernel⟩
theorem cwl_X9_pull : Cond.code yX9_pull cX9_pull 7 (some .int) ∈ tg := mem_tg 397 (by decide +kernel) rfl
theorem lk_RL_28 : LkV RL 28 yX9_pull cX9_pull 7 (some .int) 5 := ⟨mem_tg 394 (by decide +kernel) (by decide +kernel), mem_tg 395 (by decide +kernel) (by decide +kernel), mem_tg 396 (by decide +kernel) (by decide +kernel), mem_tg 47 (by decide +kernel) (by decide +kernel), cwl_X9_pull, by decide +kernel, by decide +kernel, by decide +kernel⟩
theorem cwl_X10_pull : Cond.code yX10_pull cX10_pull 6 (some .int) ∈ tg := mem_tg 895 (by decide +kernel) rfl
theorem lk_RL_32 : LkV RL 32 yX10_pull cX10_pull 6 (some .int) 5 := ⟨mem_tg 892 (by decide +kernel) (by decide +kernel), mem_tg 893 (by decide +kernel) (by decide +kernel), mem_tg 894 (by decide +kernel) (by decide +kernel), mem_tg 57 (by decide +kernel) (by decide +kernel), cwl_X10_pull, by decide +kernel, by decide +kernel, by decide +kernel⟩
theorem cwl_X9_cross : Cond.code yX9_cross cX9_cross 3 (some .int) ∈ tg := mem_tg 412 (by decide +kernel) rfl
theorem lk_RL_33 : LkV RL 33 yX9_cross cX9_cross 3 (some .int) 2 := ⟨mem_tg 409 (by decide +kernel) (by decide +kernel), mem_tg 410 (by decide +kernel) (by decide +kernel), mem_tg 411 (by decide +kernel) (by decide +kernel), mem_tg 47 (by decide +kernel) (by decide +kernel), cwl_X9_cross, by decide +kernel, by decide +kernel, by decide +kernel⟩
theorem cwl_X10_cross : Cond.code yX10_cross cX10_cross 3 (some .int) ∈ tg := mem_tg 903 (by decide +kernel) rfl
theorem lk_RL_36 : LkV RL 36 yX10_cross cX10_cross 3 (some .int) 2 := ⟨mem_tg 900 (by decide +kernel) (by decide +kernel), mem_tg 901 (by decide +kernel) (by decide +kernel), mem_tg 902 (by decide +kernel) (by decide +kernel), mem_tg 57 (by decide +kernel) (by decide +kernel), cwl_X10_cross, by decide +kernel, by decide +kernel, by decide +kernel⟩
theorem cwl_X9_uncross : Cond.code yX9_uncross cX9_uncross 1 (some .int) ∈ tg := mem_tg 424 (by decide +kernel) rfl
theorem lk_RL_37 : LkV RL 37 yX9_uncross cX9_uncross 1 (some .int) 0 := ⟨mem_tg 421 (by decide +kernel) (by decide +kernel), mem_tg 422 (by decide +kernel) (by decide +kernel), mem_tg 423 (by decide +kernel) (by decide +kernel), mem_tg 47 (by decide +kernel) (by decide +kernel), cwl_X9_uncross, by decide +kernel, by decide +kernel, by decide +kernel⟩
theorem cwl_X10_uncross : Cond.code yX10_uncross cX10_uncross 2 (some .int) ∈ tg := mem_tg 911 (by decide +kernel) rfl
theorem lk_RL_41 : LkV RL 41 yX10_uncross cX10_uncross 2 (some .int) 0 := ⟨mem_tg 908 (by decide +kernel) (by decide +kernel), mem_tg 909 (by decide +kernel) (by decide +kernel), mem_tg 910 (by decide +kernel) (by decide +kernel), mem_tg 57 (by decide +kernel) (by decide +kernel), cwl_X10_uncross, by decide +kernel, by decide +kernel, by decide +kernel⟩
theorem cwl_X9_force : Cond.code yX9_force cX9_force 2 (some .int) ∈ tg := mem_tg 432 (by decide +kernel) rfl
theorem lk_RL_42 : LkV RL 42 yX9_force cX9_force 2 (some .int) 1 := ⟨mem_tg 429 (by decide +kernel) (by decide +kernel), mem_tg 430 (by decide +kernel) (by decide +kernel), mem_tg 431 (by decide +kernel) (by decide +kernel), mem_tg 47 (by decide +kernel) (by decide +kernel), cwl_X9_force, by decide +kernel, by decide +kernel, by decide +kernel⟩
theorem cwl_X10_force : Cond.code yX10_force cX10_force 2 (some .int) ∈ tg := mem_tg 915 (by decide +kernel) rfl
theorem lk_RL_45 : LkV RL 45 yX10_force cX10_force 2 (some .int) 1 := ⟨mem_tg 912 (by decide +kernel) (by decide +kernel), mem_tg 913 (by decide +kernel) (by decide +kernel), mem_tg 914 (by decide +kernel) (by decide +kernel), mem_tg 57 (by decide +kernel) (by decide +kernel), cwl_X10_force, by decide +kernel, by decide +kernel, by decide +kernel⟩
theorem cwl_X9_would : Cond.code yX9_would cX9_would 4 (some .int) ∈ tg := mem_tg 457 (by decide +kernel) rfl
theorem lk_RL_46 : LkV RL 46 yX9_would cX9_would 4 (some .int) 2 := ⟨mem_tg 454 (by decide +kernel) (by decide +kernel), mem_tg 455 (by decide +kernel) (by decide +kernel), mem_tg 456 (by decide +kernel) (by decide +kernel), mem_tg 47 (by decide +kernel) (by decide +kernel), cwl_X9_would, by decide +kernel, by decide +kernel, by decide +kernel⟩
theorem cwl_X10_would : Cond.code yX10_would cX10_would 3 (some .int) ∈ tg := mem_tg 935 (by decide +kernel) rfl
theorem lk_RL_49 : LkV RL 49 yX10_would cX10_would 3 (some .int) 2 := ⟨mem_tg 932 (by decide +kernel) (by decide +kernel), mem_tg 933 (by decide +kernel) (by decide +kernel), mem_tg 934 (by decide +kernel) (by decide +kernel), mem_tg 57 (by decide +kernel) (by decide +kernel), cwl_X10_would, by decide +kernel, by decide +kernel, by decide +kernel⟩
theorem cwl_X9_means : Cond.code yX9_means cX9_means 5 (some .int) ∈ tg := mem_tg 482 (by decide +kernel) rfl
theorem lk_RL_50 : LkV RL 50 yX9_means cX9_means 5 (some .int) 3 := ⟨mem_tg 479 (by decide +kernel) (by decide +kernel), mem_tg 480 (by decide +kernel) (by decide +kernel), mem_tg 481 (by decide +kernel) (by decide +kernel), mem_tg 47 (by decide +kernel) (by decide +kernel), cwl_X9_means, by decide +kernel, by decide +kernel, by decide +kernel⟩
theorem cwl_X10_means : Cond.code yX10_means cX10_means 9 (some .int) ∈ tg := mem_tg 955 (by decide +kernel) rfl
theorem lk_RL_53 : LkV RL 53 yX10_means cX10_means 9 (some .int) 3 := ⟨mem_tg 952 (by decide +kernel) (by decide +kernel), mem_tg 953 (by decide +kernel) (by decide +kernel), mem_tg 954 (by decide +kernel) (by decide +kernel), mem_tg 57 (by decide +kernel) (by decide +kernel), cwl_X10_means, by decide +kernel, by decide +kernel, by decide +kernel⟩
theorem cwl_X9_servant : Cond.code yX9_servant cX9_servant 4 (some .int) ∈ tg := mem_tg 496 (by decide +kernel) rfl
theorem lk_RL_54 : LkV RL 54 yX9_servant cX9_servant 4 (some .int) 3 := ⟨mem_tg 493 (by decide +kernel) (by decide +kernel), mem_tg 494 (by decide +kernel) (by decide +kernel), mem_tg 495 (by decide +kernel) (by decide +kernel), mem_tg 47 (by decide +kernel) (by decide +kernel), cwl_X9_servant, by decide +kernel, by decide +kernel, by decide +kernel⟩
theorem cwl_X10_servant : Cond.code yX10_servant cX10_servant 4 (some .int) ∈ tg := mem_tg 959 (by decide +kernel) rfl
theorem lk_RL_57 : LkV RL 57 yX10_servant cX10_servant 4 (some .int) 3 := ⟨mem_tg 956 (by decide +kernel) (by decide +kernel), mem_tg 957 (by decide +kernel) (by decide +kernel), mem_tg 958 (by decide +kernel) (by decide +kernel), mem_tg 57 (by decide +kernel) (by decide +kernel), cwl_X10_servant, by decide +kernel, by decide +kernel, by decide +kernel⟩
theorem cwl_X9_ring : Cond.code yX9_ring cX9_ring 5 (some .int) ∈ tg := mem_tg 504 (by decide +kernel) rfl
theorem lk_RL_58 : LkV RL 58 yX9_ring cX9_ring 5 (some .int) 1 := ⟨mem_tg 501 (by decide +kernel) (by decide +kernel), mem_tg 502 (by decide +kernel) (by decide +kernel), mem_tg 503 (by decide +kernel) (by decide +kernel), mem_tg 47 (by decide +kernel) (by decide +kernel), cwl_X9_ring, by decide +kernel, by decide +kernel, by decide +kernel⟩
theorem cwl_X10_ring : Cond.code yX10_ring cX10_ring 6 (some .int) ∈ tg := mem_tg 963 (by decide +kernel) rfl
theorem lk_RL_61 : LkV RL 61 yX10_ring cX10_ring 6 (some .int) 1 := ⟨mem_tg 960 (by decide +kernel) (by decide +kernel), mem_tg 961 (by decide +kernel) (by decide +kernel), mem_tg 962 (by decide +kernel) (by decide +kernel), mem_tg 57 (by decide +kernel) (by decide +kernel), cwl_X10_ring, by decide +kernel, by decide +kernel, by decide +kernel⟩
theorem cwl_X9_ticks : Cond.code yX9_ticks cX9_ticks 3 (some .int) ∈ tg := mem_tg 517 (by decide +kernel) rfl
theorem lk_RL_62 : LkV RL 62 yX9_ticks cX9_ticks 3 (some .int) 1 := ⟨mem_tg 514 (by decide +kernel) (by decide +kernel), mem_tg 515 (by decide +kernel) (by decide +kernel), mem_tg 516 (by decide +kernel) (by decide +kernel), mem_tg 47 (by decide +kernel) (by decide +kernel), cwl_X9_ticks, by decide +kernel, by decide +kernel, by decide +kernel⟩
theorem cwl_X10_ticks : Cond.code yX10_ticks cX10_ticks 3 (some .int) ∈ tg := mem_tg 971 (by decide +kernel) rfl
theorem lk_RL_65 : LkV RL 65 yX10_ticks cX10_ticks 3 (some .int) 1 := ⟨mem_tg 968 (by decide +kernel) (by decide +kernel), mem_tg 969 (by decide +kernel) (by decide +kernel), mem_tg 970 (by decide +kernel) (by decide +kernel), mem_tg 57 (by decide +kernel) (by decide +kernel), cwl_X10_ticks, by decide +kernel, by decide +kernel, by decide +kernel⟩
theorem cwl_X9_takeBack : Cond.code yX9_takeBack cX9_takeBack 3 (some .int) ∈ tg := mem_tg 584 (by decide +kernel) rfl
theorem lk_RL_66 : LkV RL 66 yX9_takeBack cX9_takeBack 3 (some .int) 1 := ⟨mem_tg 581 (by decide +kernel) (by decide +kernel), mem_tg 582 (by decide +kernel) (by decide +kernel), mem_tg 583 (by decide +kernel) (by decide +kernel), mem_tg 47 (by decide +kernel) (by decide +kernel), cwl_X9_takeBack, by decide +kernel, by decide +kernel, by decide +kernel⟩
theorem cwl_X10_takeBack : Cond.code yX10_takeBack cX10_takeBack 3 (some .int) ∈ tg := mem_tg 1006 (by decide +kernel) rfl
theorem lk_RL_69 : LkV RL 69 yX10_takeBack cX10_takeBack 3 (some .int) 1 := ⟨mem_tg 1003 (by decide +kernel) (by decide +kernel), mem_tg 1004 (by decide +kernel) (by decide +kernel), mem_tg 1005 (by decide +kernel) (by decide +kernel), mem_tg 57 (by decide +kernel) (by decide +kernel), cwl_X10_takeBack, by decide +kernel, by decide +kernel, by decide +kernel⟩
theorem cwl_X9_flags : Cond.code yX9_flags cX9_flags 3 (some .int) ∈ tg := mem_tg 593 (by decide +kernel) rfl
theorem lk_RL_70 : LkV RL 70 yX9_flags cX9_flags 3 (some .int) 1 := ⟨mem_tg 590 (by decide +kernel) (by decide +kernel), mem_tg 591 (by decide +kernel) (by decide +kernel), mem_tg 592 (by decide +kernel) (by decide +kernel), mem_tg 47 (by decide +kernel) (by decide +kernel), cwl_X9_flags, by decide +kernel, by decide +kernel, by decide +kernel⟩
theorem cwl_X10_flags : Cond.code yX10_flags cX10_flags 3 (some .int) ∈ tg := mem_tg 1010 (by decide +kernel) rfl
theorem lk_RL_73 : LkV RL 73 yX10_flags cX10_flags 3 (some .int) 1 := ⟨mem_tg 1007 (by decide +kernel) (by decide +kernel), mem_tg 1008 (by decide +kernel) (by decide +kernel), mem_tg 1009 (by decide +kernel) (by decide +kernel), mem_tg 57 (by decide +kernel) (by decide +kernel), cwl_X10_flags, by decide +kernel, by decide +kernel, by decide +kernel⟩
theorem cwl_X9_about : Cond.code yX9_about cX9_about 3 (some .int) ∈ tg := mem_tg 597 (by decide +kernel) rfl
theorem lk_RL_74 : LkV RL 74 yX9_about cX9_about 3 (some .int) 2 := ⟨mem_tg 594 (by decide +kernel) (by decide +kernel), mem_tg 595 (by decide +kernel) (by decide +kernel), mem_tg 596 (by decide +kernel) (by decide +kernel), mem_tg 47 (by decide +kernel) (by decide +kernel), cwl_X9_about, by decide +kernel, by decide +kernel, by decide +kernel⟩
theorem cwl_X10_about : Cond.code yX10_about cX10_about 3 (some .int) ∈ tg := mem_tg 1014 (by decide +kernel) rfl
theorem lk_RL_77 : LkV RL 77 yX10_about cX10_about 3 (some .int) 2 := ⟨mem_tg 1011 (by decide +kernel) (by decide +kernel), mem_tg 1012 (by decide +kernel) (by decide +kernel), mem_tg 1013 (by decide +kernel) (by decide +kernel), mem_tg 57 (by decide +kernel) (by decide +kernel), cwl_X10_about, by decide +kernel, by decide +kernel, by decide +kernel⟩
theorem cwl_X9_servantTold : Cond.code yX9_servantTold cX9_servantTold 3 (some .int) ∈ tg := mem_tg 601 (by decide +kernel) rfl
theorem lk_RL_78 : LkV RL 78 yX9_servantTold cX9_servantTold 3 (some .int) 2 := ⟨mem_tg 598 (by decide +kernel) (by decide +kernel), mem_tg 599 (by decide +kernel) (by decide +kernel), mem_tg 600 (by decide +kernel) (by decide +kernel), mem_tg 47 (by decide +kernel) (by decide +kernel), cwl_X9_servantTold, by decide +kernel, by decide +kernel, by decide +kernel⟩
theorem cwl_X10_servantTold : Cond.code yX10_servantTold cX10_servantTold 3 (some .int) ∈ tg := mem_tg 1018 (by decide +kernel) rfl
theorem lk_RL_81 : LkV RL 81 yX10_servantTold cX10_servantTold 3 (some .int) 2 := ⟨mem_tg 1015 (by decide +kernel) (by decide +kernel), mem_tg 1016 (by decide +kernel) (by decide +kernel), mem_tg 1017 (by decide +kernel) (by decide +kernel), mem_tg 57 (by decide +kernel) (by decide +kernel), cwl_X10_servantTold, by decide +kernel, by decide +kernel, by decide +kernel⟩
theorem cwl_X9_way : Cond.code yX9_way cX9_way 3 (some .int) ∈ tg := mem_tg 606 (by decide +kernel) rfl
theorem lk_RL_82 : LkV RL 82 yX9_way cX9_way 3 (some .int) 2 := ⟨mem_tg 603 (by decide +kernel) (by decide +kernel), mem_tg 604 (by decide +kernel) (by decide +kernel), mem_tg 605 (by decide +kernel) (by decide +kernel), mem_tg 47 (by decide +kernel) (by decide +kernel), cwl_X9_way, by decide +kernel, by decide +kernel, by decide +kernel⟩
theorem cwl_X10_way : Cond.code yX10_way cX10_way 3 (some .int) ∈ tg := mem_tg 1026 (by decide +kernel) rfl
theorem lk_RL_85 : LkV RL 85 yX10_way cX10_way 3 (some .int) 2 := ⟨mem_tg 1023 (by decide +kernel) (by decide +kernel), mem_tg 1024 (by decide +kernel) (by decide +kernel), mem_tg 1025 (by decide +kernel) (by decide +kernel), mem_tg 57 (by decide +kernel) (by decide +kernel), cwl_X10_way, by decide +kernel, by decide +kernel, by decide +kernel⟩
theorem cwl_X9_swings : Cond.code yX9_swings cX9_swings 2 (some .int) ∈ tg := mem_tg 611 (by decide +kernel) rfl
theorem lk_RL_86 : LkV RL 86 yX9_swings cX9_swings 2 (some .int) 1 := ⟨mem_tg 608 (by decide +kernel) (by decide +kernel), mem_tg 609 (by decide +kernel) (by decide +kernel), mem_tg 610 (by decide +kernel) (by decide +kernel), mem_tg 47 (by decide +kernel) (by decide +kernel), cwl_X9_swings, by decide +kernel, by decide +kernel, by decide +kernel⟩
theorem cwl_X10_swings : Cond.code yX10_swings cX10_swings 4 (some .int) ∈ tg := mem_tg 1030 (by decide +kernel) rfl
theorem lk_RL_89 : LkV RL 89 yX10_swings cX10_swings 4 (some .int) 1 := ⟨mem_tg 1027 (by decide +kernel) (by decide +kernel), mem_tg 1028 (by decide +kernel) (by decide +kernel), mem_tg 1029 (by decide +kernel) (by decide +kernel), mem_tg 57 (by decide +kernel) (by decide +kernel), cwl_X10_swings, by decide +kernel, by decide +kernel, by decide +kernel⟩
theorem cwl_X9_share : Cond.code yX9_share cX9_share 2 (some .int) ∈ tg := mem_tg 619 (by decide +kernel) rfl
theorem lk_RL_90 : LkV RL 90 yX9_share cX9_share 2 (some .int) 1 := ⟨mem_tg 616 (by decide +kernel) (by decide +kernel), mem_tg 617 (by decide +kernel) (by decide +kernel), mem_tg 618 (by decide +kernel) (by decide +kernel), mem_tg 47 (by decide +kernel) (by decide +kernel), cwl_X9_share, by decide +kernel, by decide +kernel, by decide +kernel⟩
theorem cwl_X10_share : Cond.code yX10_share cX10_share 4 (some .int) ∈ tg := mem_tg 1034 (by decide +kernel) rfl
theorem lk_RL_93 : LkV RL 93 yX10_share cX10_share 4 (some .int) 1 := ⟨mem_tg 1031 (by decide +kernel) (by decide +kernel), mem_tg 1032 (by decide +kernel) (by decide +kernel), mem_tg 1033 (by decide +kernel) (by decide +kernel), mem_tg 57 (by decide +kernel) (by decide +kernel), cwl_X10_share, by decide +kernel, by decide +kernel, by decide +kernel⟩
theorem cwl_X9_send : Cond.code yX9_send cX9_send 3 (some .int) ∈ tg := mem_tg 654 (by decide +kernel) rfl
theorem lk_RL_94 : LkV RL 94 yX9_send cX9_send 3 (some .int) 0 := ⟨mem_tg 651 (by decide +kernel) (by decide +kernel), mem_tg 652 (by decide +kernel) (by decide +kernel), mem_tg 653 (by decide +kernel) (by decide +kernel), mem_tg 47 (by decide +kernel) (by decide +kernel), cwl_X9_send, by decide +kernel, by decide +kernel, by decide +kernel⟩
theorem cwl_X10_send : Cond.code yX10_send cX10_send 5 (some .int) ∈ tg := mem_tg 1055 (by decide +kernel) rfl
theorem lk_RL_97 : LkV RL 97 yX10_send cX10_send 5 (some .int) 0 := ⟨mem_tg 1052 (by decide +kernel) (by decide +kernel), mem_tg 1053 (by decide +kernel) (by decide +kernel), mem_tg 1054 (by decide +kernel) (by decide +kernel), mem_tg 57 (by decide +kernel) (by decide +kernel), cwl_X10_send, by decide +kernel, by decide +kernel, by decide +kernel⟩
theorem cwl_X9_test : Cond.code yX9_test cX9_test 4 (some .int) ∈ tg := mem_tg 659 (by decide +kernel) rfl
theorem lk_RL_98 : LkV RL 98 yX9_test cX9_test 4 (some .int) 3 := ⟨mem_tg 656 (by decide +kernel) (by decide +kernel), mem_tg 657 (by decide +kernel) (by decide +kernel), mem_tg 658 (by decide +kernel) (by decide +kernel), mem_tg 47 (by decide +kernel) (by decide +kernel), cwl_X9_test, by decide +kernel, by decide +kernel, by decide +kernel⟩
theorem cwl_X10_test : Cond.code yX10_test cX10_test 4 (some .int) ∈ tg := mem_tg 1059 (by decide +kernel) rfl
theorem lk_RL_101 : LkV RL 101 yX10_test cX10_test 4 (some .int) 3 := ⟨mem_tg 1056 (by decide +kernel) (by decide +kernel), mem_tg 1057 (by decide +kernel) (by decide +kernel), mem_tg 1058 (by decide +kernel) (by decide +kernel), mem_tg 57 (by decide +kernel) (by decide +kernel), cwl_X10_test, by decide +kernel, by decide +kernel, by decide +kernel⟩
theorem cwl_X9_noTests : Cond.code yX9_noTests cX9_noTests 1 (some .int) ∈ tg := mem_tg 676 (by decide +kernel) rfl
theorem lk_RL_102 : LkV RL 102 yX9_noTests cX9_noTests 1 (some .int) 0 := ⟨mem_tg 673 (by decide +kernel) (by decide +kernel), mem_tg 674 (by decide +kernel) (by decide +kernel), mem_tg 675 (by decide +kernel) (by decide +kernel), mem_tg 47 (by decide +kernel) (by decide +kernel), cwl_X9_noTests, by decide +kernel, by decide +kernel, by decide +kernel⟩
theorem cwl_X10_noTests : Cond.code yX10_noTests cX10_noTests 2 (some .int) ∈ tg := mem_tg 1063 (by decide +kernel) rfl
theorem lk_RL_105 : LkV RL 105 yX10_noTests cX10_noTests 2 (some .int) 0 := ⟨mem_tg 1060 (by decide +kernel) (by decide +kernel), mem_tg 1061 (by decide +kernel) (by decide +kernel), mem_tg 1062 (by decide +kernel) (by decide +kernel), mem_tg 57 (by decide +kernel) (by decide +kernel), cwl_X10_noTests, by decide +kernel, by decide +kernel, by decide +kernel⟩
theorem cwl_X9_fault : Cond.code yX9_fault cX9_fault 2 (some .int) ∈ tg := mem_tg 684 (by decide +kernel) rfl
theorem lk_RL_106 : LkV RL 106 yX9_fault cX9_fault 2 (some .int) 1 := ⟨mem_tg 681 (by decide +kernel) (by decide +kernel), mem_tg 682 (by decide +kernel) (by decide +kernel), mem_tg 683 (by decide +kernel) (by decide +kernel), mem_tg 47 (by decide +kernel) (by decide +kernel), cwl_X9_fault, by decide +kernel, by decide +kernel, by decide +kernel⟩
theorem cwl_X10_fault : Cond.code yX10_fault cX10_fault 4 (some .int) ∈ tg := mem_tg 1067 (by decide +kernel) rfl
theorem lk_RL_109 : LkV RL 109 yX10_fault cX10_fault 4 (some .int) 1 := ⟨mem_tg 1064 (by decide +kernel) (by decide +kernel), mem_tg 1065 (by decide +kernel) (by decide +kernel), mem_tg 1066 (by decide +kernel) (by decide +kernel), mem_tg 57 (by decide +kernel) (by decide +kernel), cwl_X10_fault, by decide +kernel, by decide +kernel, by decide +kernel⟩
theorem cwl_X9_nextTest : Cond.code yX9_nextTest cX9_nextTest 1 (some .int) ∈ tg := mem_tg 688 (by decide +kernel) rfl
theorem lk_RL_110 : LkV RL 110 yX9_nextTest cX9_nextTest 1 (some .int) 0 := ⟨mem_tg 685 (by decide +kernel) (by decide +kernel), mem_tg 686 (by decide +kernel) (by decide +kernel), mem_tg 687 (by decide +kernel) (by decide +kernel), mem_tg 47 (by decide +kernel) (by decide +kernel), cwl_X9_nextTest, by decide +kernel, by decide +kernel, by decide +kernel⟩
theorem cwl_X10_nextTest : Cond.code yX10_nextTest cX10_nextTest 9 (some .int) ∈ tg := mem_tg 1075 (by decide +kernel) rfl
theorem lk_RL_113 : LkV RL 113 yX10_nextTest cX10_nextTest 9 (some .int) 0 := ⟨mem_tg 1072 (by decide +kernel) (by decide +kernel), mem_tg 1073 (by decide +kernel) (by decide +kernel), mem_tg 1074 (by decide +kernel) (by decide +kernel), mem_tg 57 (by decide +kernel) (by decide +kernel), cwl_X10_nextTest, by decide +kernel, by decide +kernel, by decide +kernel⟩
theorem cwl_X9_frame : Cond.code yX9_frame cX9_frame 4 (some .int) ∈ tg := mem_tg 701 (by decide +kernel) rfl
theorem lk_RL_114 : LkV RL 114 yX9_frame cX9_frame 4 (some .int) 3 := ⟨mem_tg 698 (by decide +kernel) (by decide +kernel), mem_tg 699 (by decide +kernel) (by decide +kernel), mem_tg 700 (by decide +kernel) (by decide +kernel), mem_tg 47 (by decide +kernel) (by decide +kernel), cwl_X9_frame, by decide +kernel, by decide +kernel, by decide +kernel⟩
theorem cwl_X10_frame : Cond.code yX10_frame cX10_frame 5 (some .int) ∈ tg := mem_tg 1080 (by decide +kernel) rfl
theorem lk_RL_117 : LkV RL 117 yX10_frame cX10_frame 5 (some .int) 3 := ⟨mem_tg 1077 (by decide +kernel) (by decide +kernel), mem_tg 1078 (by decide +kernel) (by decide +kernel), mem_tg 1079 (by decide +kernel) (by decide +kernel), mem_tg 57 (by decide +kernel) (by decide +kernel), cwl_X10_frame, by decide +kernel, by decide +kernel, by decide +kernel⟩
theorem cwl_X9_wires : Cond.code yX9_wires cX9_wires 3 (some .int) ∈ tg := mem_tg 721 (by decide +kernel) rfl
theorem lk_RL_118 : LkV RL 118 yX9_wires cX9_wires 3 (some .int) 1 := ⟨mem_tg 718 (by decide +kernel) (by decide +kernel), mem_tg 719 (by decide +kernel) (by decide +kernel), mem_tg 720 (by decide +kernel) (by decide +kernel), mem_tg 47 (by decide +kernel) (by decide +kernel), cwl_X9_wires, by decide +kernel, by decide +kernel, by decide +kernel⟩
theorem cwl_X10_wires : Cond.code yX10_wires cX10_wires 8 (some .int) ∈ tg := mem_tg 1087 (by decide +kernel) rfl
theorem lk_RL_121 : LkV RL 121 yX10_wires cX10_wires 8 (some .int) 1 := ⟨mem_tg 1084 (by decide +kernel) (by decide +kernel), mem_tg 1085 (by decide +kernel) (by decide +kernel), mem_tg 1086 (by decide +kernel) (by decide +kernel), mem_tg 57 (by decide +kernel) (by decide +kernel), cwl_X10_wires, by decide +kernel, by decide +kernel, by decide +kernel⟩
theorem cwl_X9_count : Cond.code yX9_count cX9_count 2 (some .int) ∈ tg := mem_tg 754 (by decide +kernel) rfl
theorem lk_RL_122 : LkV RL 122 yX9_count cX9_count 2 (some .int) 1 := ⟨mem_tg 751 (by decide +kernel) (by decide +kernel), mem_tg 752 (by decide +kernel) (by decide +kernel), mem_tg 753 (by decide +kernel) (by decide +kernel), mem_tg 47 (by decide +kernel) (by decide +kernel), cwl_X9_count, by decide +kernel, by decide +kernel, by decide +kernel⟩
theorem cwl_X10_count : Cond.code yX10_count cX10_count 5 (some .int) ∈ tg := mem_tg 1096 (by decide +kernel) rfl
theorem lk_RL_125 : LkV RL 125 yX10_count cX10_count 5 (some .int) 1 := ⟨mem_tg 1093 (by decide +kernel) (by decide +kernel), mem_tg 1094 (by decide +kernel) (by decide +kernel), mem_tg 1095 (by decide +kernel) (by decide +kernel), mem_tg 57 (by decide +kernel) (by decide +kernel), cwl_X10_count, by decide +kernel, by decide +kernel, by decide +kernel⟩
theorem ic_6 : Int32.ofInt 6 = (6 : Int32) := by decide
def St_crank (fu : Nat) (Rel : Mem → Mem → Prop) : Prop := ∀ (a0 a1 : Int32) (x y : Mem), Rel x y → ∃ (r : Int32) (x' y' : Mem), (F_X9_crank fu a0 a1 x) = some (r, x') ∧ (F_X10_crank fu a0 a1 y) = some (r, y') ∧ Rel x' y'
def St_bell (fu : Nat) (Rel : Mem → Mem → Prop) : Prop := ∀ (a0 a1 a2 : Int32) (x y : Mem), Rel x y → ∃ (r : Int32) (x' y' : Mem), (F_X9_bell fu a0 a1 a2 x) = some (r, x') ∧ (F_X10_bell fu a0 a1 a2 y) = some (r, y') ∧ Rel x' y'
def St_heat (fu : Nat) (Rel : Mem → Mem → Prop) : Prop := ∀ (a0 : Int32) (x y : Mem), Rel x y → ∃ (r : Int32) (x' y' : Mem), (F_X9_heat fu a0 x) = some (r, x') ∧ (F_X10_heat fu a0 y) = some (r, y') ∧ Rel x' y'
def St_pull (fu : Nat) (Rel : Mem → Mem → Prop) : Prop := ∀ (a0 a1 a2 a3 a4 : Int32) (x y : Mem), Rel x y → ∃ (r : Int32) (x' y' : Mem), (F_X9_pull fu a0 a1 a2 a3 a4 x) = some (r, x') ∧ (F_X10_pull fu a0 a1 a2 a3 a4 y) = some (r, y') ∧ Rel x' y'
def St_cross (fu : Nat) (Rel : Mem → Mem → Prop) : Prop := ∀ (a0 a1 : Int32) (x y : Mem), Rel x y → ∃ (r : Int32) (x' y' : Mem), (F_X9_cross fu a0 a1 x) = some (r, x') ∧ (F_X10_cross fu a0 a1 y) = some (r, y') ∧ Rel x' y'
def St_uncross (fu : Nat) (Rel : Mem → Mem → Prop) : Prop := ∀ (x y : Mem), Rel x y → ∃ (r : Int32) (x' y' : Mem), (F_X9_uncross fu x) = some (r, x') ∧ (F_X10_uncross fu y) = some (r, y') ∧ Rel x' y'
def St_force (fu : Nat) (Rel : Mem → Mem → Prop) : Prop := ∀ (a0 : Int32) (x y : Mem), Rel x y → ∃ (r : Int32) (x' y' : Mem), (pr (F_X9_force fu a0 x) x) = some (r, x') ∧ (pr (F_X10_force fu a0 y) y) = some (r, y') ∧ Rel x' y'
def St_would (fu : Nat) (Rel : Mem → Mem → Prop) : Prop := ∀ (a0 a1 : Int32) (x y : Mem), Rel x y → ∃ (r : Int32) (x' y' : Mem), (pr (F_X9_would fu a0 a1 x) x) = some (r, x') ∧ (pr (F_X10_would fu a0 a1 y) y) = some (r, y') ∧ Rel x' y'
def St_means (fu : Nat) (Rel : Mem → Mem → Prop) : Prop := ∀ (a0 a1 a2 : Int32) (x y : Mem), Rel x y → ∃ (r : Int32) (x' y' : Mem), (pr (F_X9_means fu a0 a1 a2 x) x) = some (r, x') ∧ (pr (F_X10_means fu a0 a1 a2 y) y) = some (r, y') ∧ Rel x' y'
def St_servant (fu : Nat) (Rel : Mem → Mem → Prop) : Prop := ∀ (a0 a1 a2 : Int32) (x y : Mem), Rel x y → ∃ (r : Int32) (x' y' : Mem), (F_X9_servant fu a0 a1 a2 x) = some (r, x') ∧ (F_X10_servant fu a0 a1 a2 y) = some (r, y') ∧ Rel x' y'
def St_ring (fu : Nat) (Rel : Mem → Mem → Prop) : Prop := ∀ (a0 : Int32) (x y : Mem), Rel x y → ∃ (r : Int32) (x' y' : Mem), (F_X9_ring fu a0 x) = some (r, x') ∧ (F_X10_ring fu a0 y) = some (r, y') ∧ Rel x' y'
def St_ticks (fu : Nat) (Rel : Mem → Mem → Prop) : Prop := ∀ (a0 : Int32) (x y : Mem), Rel x y → ∃ (r : Int32) (x' y' : Mem), (F_X9_ticks fu a0 x) = some (r, x') ∧ (F_X10_ticks fu a0 y) = some (r, y') ∧ Rel x' y'
def St_takeBack (fu : Nat) (Rel : Mem → Mem → Prop) : Prop := ∀ (a0 : Int32) (x y : Mem), Rel x y → ∃ (r : Int32) (x' y' : Mem), (F_X9_takeBack fu a0 x) = some (r, x') ∧ (F_X10_takeBack fu a0 y) = some (r, y') ∧ Rel x' y'
def St_flags (fu : Nat) (Rel : Mem → Mem → Prop) : Prop := ∀ (a0 : Int32) (x y : Mem), Rel x y → ∃ (r : Int32) (x' y' : Mem), (F_X9_flags fu a0 x) = some (r, x') ∧ (F_X10_flags fu a0 y) = some (r, y') ∧ Rel x' y'
def St_about (fu : Nat) (Rel : Mem → Mem → Prop) : Prop := ∀ (a0 a1 : Int32) (x y : Mem), Rel x y → ∃ (r : Int32) (x' y' : Mem), (pr (F_X9_about fu a0 a1 x) x) = some (r, x') ∧ (pr (F_X10_about fu a0 a1 y) y) = some (r, y') ∧ Rel x' y'
def St_servantTold (fu : Nat) (Rel : Mem → Mem → Prop) : Prop := ∀ (a0 a1 : Int32) (x y : Mem), Rel x y → ∃ (r : Int32) (x' y' : Mem), (pr (F_X9_servantTold fu a0 a1 x) x) = some (r, x') ∧ (pr (F_X10_servantTold fu a0 a1 y) y) = some (r, y') ∧ Rel x' y'
def St_way (fu : Nat) (Rel : Mem → Mem → Prop) : Prop := ∀ (a0 a1 : Int32) (x y : Mem), Rel x y → ∃ (r : Int32) (x' y' : Mem), (pr (F_X9_way fu a0 a1 x) x) = some (r, x') ∧ (pr (F_X10_way fu a0 a1 y) y) = some (r, y') ∧ Rel x' y'
def St_swings (fu : Nat) (Rel : Mem → Mem → Prop) : Prop := ∀ (a0 : Int32) (x y : Mem), Rel x y → ∃ (r : Int32) (x' y' : Mem), (pr (F_X9_swings fu a0 x) x) = some (r, x') ∧ (pr (F_X10_swings fu a0 y) y) = some (r, y') ∧ Rel x' y'
def St_share (fu : Nat) (Rel : Mem → Mem → Prop) : Prop := ∀ (a0 : Int32) (x y : Mem), Rel x y → ∃ (r : Int32) (x' y' : Mem), (F_X9_share fu a0 x) = some (r, x') ∧ (F_X10_share fu a0 y) = some (r, y') ∧ Rel x' y'
def St_send (fu : Nat) (Rel : Mem → Mem → Prop) : Prop := ∀ (x y : Mem), Rel x y → ∃ (r : Int32) (x' y' : Mem), (F_X9_send fu x) = some (r, x') ∧ (F_X10_send fu y) = some (r, y') ∧ Rel x' y'
def St_test (fu : Nat) (Rel : Mem → Mem → Prop) : Prop := ∀ (a0 a1 a2 : Int32) (x y : Mem), Rel x y → ∃ (r : Int32) (x' y' : Mem), (F_X9_test fu a0 a1 a2 x) = some (r, x') ∧ (F_X10_test fu a0 a1 a2 y) = some (r, y') ∧ Rel x' y'
def St_noTests (fu : Nat) (Rel : Mem → Mem → Prop) : Prop := ∀ (x y : Mem), Rel x y → ∃ (r : Int32) (x' y' : Mem), (F_X9_noTests fu x) = some (r, x') ∧ (F_X10_noTests fu y) = some (r, y') ∧ Rel x' y'
def St_fault (fu : Nat) (Rel : Mem → Mem → Prop) : Prop := ∀ (a0 : Int32) (x y : Mem), Rel x y → ∃ (r : Int32) (x' y' : Mem), (pr (F_X9_fault fu a0 x) x) = some (r, x') ∧ (pr (F_X10_fault fu a0 y) y) = some (r, y') ∧ Rel x' y'
def St_nextTest (fu : Nat) (Rel : Mem → Mem → Prop) : Prop := ∀ (x y : Mem), Rel x y → ∃ (r : Int32) (x' y' : Mem), (F_X9_nextTest fu x) = some (r, x') ∧ (pr (F_X10_nextTest fu y) y) = some (r, y') ∧ Rel x' y'
def St_frame (fu : Nat) (Rel : Mem → Mem → Prop) : Prop := ∀ (a0 a1 a2 : Int32) (x y : Mem), Rel x y → ∃ (r : Int32) (x' y' : Mem), (F_X9_frame fu a0 a1 a2 x) = some (r, x') ∧ (F_X10_frame fu a0 a1 a2 y) = some (r, y') ∧ Rel x' y'
def St_wires (fu : Nat) (Rel : Mem → Mem → Prop) : Prop := ∀ (a0 : Int32) (x y : Mem), Rel x y → ∃ (r : Int32) (x' y' : Mem), (F_X9_wires fu a0 x) = some (r, x') ∧ (F_X10_wires fu a0 y) = some (r, y') ∧ Rel x' y'
def St_count (fu : Nat) (Rel : Mem → Mem → Prop) : Prop := ∀ (a0 : Int32) (x y : Mem), Rel x y → ∃ (r : Int32) (x' y' : Mem), (pr (F_X9_count fu a0 x) x) = some (r, x') ∧ (pr (F_X10_count fu a0 y) y) = some (r, y') ∧ Rel x' y'
set_option maxRecDepth 100000 in
set_option maxHeartbeats 4000000 in
theorem lc_crank {p : Program} {l : Launch} {e : Env} {s : State} {m : MethodId} {below : List Frame} {meth : Method} {c : Code} {D : va_G} {cy : ClassId} {adX adM : Nat → Nat} {b L : Nat} {xs : Nat → Int32} {nc ns fu : Nat} {Rel : Mem → Mem → Prop} (S_ : St_crank fu Rel) {i : Int32} {x y : Mem} (X : LX p s m meth c D cy adX adM b L xs nc ns) (hin1 : vp_in (i + 1) L) (hin2 : vp_in (i + 2) L) (hin3 : vp_in (i + 3) L) (hin4 : vp_in (i + 4) L) (hin5 : vp_in (i + 5) L) (hR : Rel x y)
    (kk : ∀ x' y', Rel x' y' → LSm p l e s m below meth c D cy adX adM b nc ns 937 [some (.ref b), some (.ref (adX 0)), some (.ref (adM 0)), some (.int i)] [] x' y') : LSm p l e s m below meth c D cy adX adM b nc ns 156 [some (.ref b), some (.ref (adX 0)), some (.ref (adM 0)), some (.int i)] [] x y := by
  obtain ⟨r, x', y', h1, h2, h3⟩ := S_ (xs (i + 1 : Int32).toNatClampNeg) (xs (i + 2 : Int32).toNatClampNeg) x y hR
  refine l_aload_n (pc := 156) X rfl dL_law_156 ?_
  refine l_arg (pc := 157) X ic_1 hin1 dL_law_157 dL_law_158 dL_law_159 dL_law_160 dL_law_161 ?_
  refine l_arg (pc := 162) X ic_2 hin2 dL_law_162 dL_law_163 dL_law_164 dL_law_165 dL_law_166 ?_
  refine l_callX (pc := 167) (As := [.int (xs (i + 1 : Int32).toNatClampNeg), .int (xs (i + 2 : Int32).toNatClampNeg)]) (st := []) X lk_RL_13 (c_X9_crank l D cy _ fu _ _ _) h1 rfl rfl rfl ⟨by decide, by decide⟩ (Nat.le_of_ble_eq_true rfl) dL_law_167 ?_
  refine l_aload_n (pc := 170) X rfl dL_law_170 ?_
  refine l_arg (pc := 171) X ic_1 hin1 dL_law_171 dL_law_172 dL_law_173 dL_law_174 dL_law_175 ?_
  refine l_arg (pc := 176) X ic_2 hin2 dL_law_176 dL_law_177 dL_law_178 dL_law_179 dL_law_180 ?_
  refine l_callM (pc := 181) (As := [.int (xs (i + 1 : Int32).toNatClampNeg), .int (xs (i + 2 : Int32).toNatClampNeg)]) (st := [.int r]) X lk_RL_17 (c_X10_crank l D cy _ fu _ _ _) h2 rfl rfl rfl ⟨by decide, by decide⟩ (Nat.le_of_ble_eq_true rfl) dL_law_181 ?_
  refine l_icmp_eq (pc := 184) X 937 rfl dL_law_184 ?_
  exact kk x' y' h3
set_option maxRecDepth 100000 in
set_option maxHeartbeats 4000000 in
theorem lc_bell {p : Program} {l : Launch} {e : Env} {s : State} {m : MethodId} {below : List Frame} {meth : Method} {c : Code} {D : va_G} {cy : ClassId} {adX adM : Nat → Nat} {b L : Nat} {xs : Nat → Int32} {nc ns fu : Nat} {Rel : Mem → Mem → Prop} (S_ : St_bell fu Rel) {i : Int32} {x y : Mem} (X : LX p s m meth c D cy adX adM b L xs nc ns) (hin1 : vp_in (i + 1) L) (hin2 : vp_in (i + 2) L) (hin3 : vp_in (i + 3) L) (hin4 : vp_in (i + 4) L) (hin5 : vp_in (i + 5) L) (hR : Rel x y)
    (kk : ∀ x' y', Rel x' y' → LSm p l e s m below meth c D cy adX adM b nc ns 937 [some (.ref b), some (.ref (adX 0)), some (.ref (adM 0)), some (.int i)] [] x' y') : LSm p l e s m below meth c D cy adX adM b nc ns 189 [some (.ref b), some (.ref (adX 0)), some (.ref (adM 0)), some (.int i)] [] x y := by
  obtain ⟨r, x', y', h1, h2, h3⟩ := S_ (xs (i + 1 : Int32).toNatClampNeg) (xs (i + 2 : Int32).toNatClampNeg) (xs (i + 3 : Int32).toNatClampNeg) x y hR
  refine l_aload_n (pc := 189) X rfl dL_law_189 ?_
  refine l_arg (pc := 190) X ic_1 hin1 dL_law_190 dL_law_191 dL_law_192 dL_law_193 dL_law_194 ?_
  refine l_arg (pc := 195) X ic_2 hin2 dL_law_195 dL_law_196 dL_law_197 dL_law_198 dL_law_199 ?_
  refine l_arg (pc := 200) X ic_3 hin3 dL_law_200 dL_law_201 dL_law_202 dL_law_203 dL_law_204 ?_
  refine l_callX (pc := 205) (As := [.int (xs (i + 1 : Int32).toNatClampNeg), .int (xs (i + 2 : Int32).toNatClampNeg), .int (xs (i + 3 : Int32).toNatClampNeg)]) (st := []) X lk_RL_18 (c_X9_bell l D cy _ fu _ _ _ _) h1 rfl rfl rfl ⟨by decide, by decide⟩ (Nat.le_of_ble_eq_true rfl) dL_law_205 ?_
  refine l_aload_n (pc := 208) X rfl dL_law_208 ?_
  refine l_arg (pc := 209) X ic_1 hin1 dL_law_209 dL_law_210 dL_law_211 dL_law_212 dL_law_213 ?_
  refine l_arg (pc := 214) X ic_2 hin2 dL_law_214 dL_law_215 dL_law_216 dL_law_217 dL_law_218 ?_
  refine l_arg (pc := 219) X ic_3 hin3 dL_law_219 dL_law_220 dL_law_221 dL_law_222 dL_law_223 ?_
  refine l_callM (pc := 224) (As := [.int (xs (i + 1 : Int32).toNatClampNeg), .int (xs (i + 2 : Int32).toNatClampNeg), .int (xs (i + 3 : Int32).toNatClampNeg)]) (st := [.int r]) X lk_RL_22 (c_X10_bell l D cy _ fu _ _ _ _) h2 rfl rfl rfl ⟨by decide, by decide⟩ (Nat.le_of_ble_eq_true rfl) dL_law_224 ?_
  refine l_icmp_eq (pc := 227) X 937 rfl dL_law_227 ?_
  exact kk x' y' h3
set_option maxRecDepth 100000 in
set_option maxHeartbeats 4000000 in
theorem lc_heat {p : Program} {l : Launch} {e : Env} {s : State} {m : MethodId} {below : List Frame} {meth : Method} {c : Code} {D : va_G} {cy : ClassId} {adX adM : Nat → Nat} {b L : Nat} {xs : Nat → Int32} {nc ns fu : Nat} {Rel : Mem → Mem → Prop} (S_ : St_heat fu Rel) {i : Int32} {x y : Mem} (X : LX p s m meth c D cy adX adM b L xs nc ns) (hin1 : vp_in (i + 1) L) (hin2 : vp_in (i + 2) L) (hin3 : vp_in (i + 3) L) (hin4 : vp_in (i + 4) L) (hin5 : vp_in (i + 5) L) (hR : Rel x y)
    (kk : ∀ x' y', Rel x' y' → LSm p l e s m below meth c D cy adX adM b nc ns 937 [some (.ref b), some (.ref (adX 0)), some (.ref (adM 0)), some (.int i)] [] x' y') : LSm p l e s m below meth c D cy adX adM b nc ns 232 [some (.ref b), some (.ref (adX 0)), some (.ref (adM 0)), some (.int i)] [] x y := by
  obtain ⟨r, x', y', h1, h2, h3⟩ := S_ (xs (i + 1 : Int32).toNatClampNeg) x y hR
  refine l_aload_n (pc := 232) X rfl dL_law_232 ?_
  refine l_arg (pc := 233) X ic_1 hin1 dL_law_233 dL_law_234 dL_law_235 dL_law_236 dL_law_237 ?_
  refine l_callX (pc := 238) (As := [.int (xs (i + 1 : Int32).toNatClampNeg)]) (st := []) X lk_RL_23 (c_X9_heat l D cy _ fu _ _) h1 rfl rfl rfl ⟨by decide, by decide⟩ (Nat.le_of_ble_eq_true rfl) dL_law_238 ?_
  refine l_aload_n (pc := 241) X rfl dL_law_241 ?_
  refine l_arg (pc := 242) X ic_1 hin1 dL_law_242 dL_law_243 dL_law_244 dL_law_245 dL_law_246 ?_
  refine l_callM (pc := 247) (As := [.int (xs (i + 1 : Int32).toNatClampNeg)]) (st := [.int r]) X lk_RL_27 (c_X10_heat l D cy _ fu _ _) h2 rfl rfl rfl ⟨by decide, by decide⟩ (Nat.le_of_ble_eq_true rfl) dL_law_247 ?_
  refine l_icmp_eq (pc := 250) X 937 rfl dL_law_250 ?_
  exact kk x' y' h3
set_option maxRecDepth 100000 in
set_option maxHeartbeats 4000000 in
theorem lc_pull {p : Program} {l : Launch} {e : Env} {s : State} {m : MethodId} {below : List Frame} {meth : Method} {c : Code} {D : va_G} {cy : ClassId} {adX adM : Nat → Nat} {b L : Nat} {xs : Nat → Int32} {nc ns fu : Nat} {Rel : Mem → Mem → Prop} (S_ : St_pull fu Rel) {i : Int32} {x y : Mem} (X : LX p s m meth c D cy adX adM b L xs nc ns) (hin1 : vp_in (i + 1) L) (hin2 : vp_in (i + 2) L) (hin3 : vp_in (i + 3) L) (hin4 : vp_in (i + 4) L) (hin5 : vp_in (i + 5) L) (hR : Rel x y)
    (kk : ∀ x' y', Rel x' y' → LSm p l e s m below meth c D cy adX adM b nc ns 937 [some (.ref b), some (.ref (adX 0)), some (.ref (adM 0)), some (.int i)] [] x' y') : LSm p l e s m below meth c D cy adX adM b nc ns 255 [some (.ref b), some (.ref (adX 0)), some (.ref (adM 0)), some (.int i)] [] x y := by
  obtain ⟨r, x', y', h1, h2, h3⟩ := S_ (xs (i + 1 : Int32).toNatClampNeg) (xs (i + 2 : Int32).toNatClampNeg) (xs (i + 3 : Int32).toNatClampNeg) (xs (i + 4 : Int32).toNatClampNeg) (xs (i + 5 : Int32).toNatClampNeg) x y hR
  refine l_aload_n (pc := 255) X rfl dL_law_255 ?_
  refine l_arg (pc := 256) X ic_1 hin1 dL_law_256 dL_law_257 dL_law_258 dL_law_259 dL_law_260 ?_
  refine l_arg (pc := 261) X ic_2 hin2 dL_law_261 dL_law_262 dL_law_263 dL_law_264 dL_law_265 ?_
  refine l_arg (pc := 266) X ic_3 hin3 dL_law_266 dL_law_267 dL_law_268 dL_law_269 dL_law_270 ?_
  refine l_arg (pc := 271) X ic_4 hin4 dL_law_271 dL_law_272 dL_law_273 dL_law_274 dL_law_275 ?_
  refine l_arg (pc := 276) X ic_5 hin5 dL_law_276 dL_law_277 dL_law_278 dL_law_279 dL_law_280 ?_
  refine l_callX (pc := 281) (As := [.int (xs (i + 1 : Int32).toNatClampNeg), .int (xs (i + 2 : Int32).toNatClampNeg), .int (xs (i + 3 : Int32).toNatClampNeg), .int (xs (i + 4 : Int32).toNatClampNeg), .int (xs (i + 5 : Int32).toNatClampNeg)]) (st := []) X lk_RL_28 (c_X9_pull l D cy _ fu _ _ _ _ _ _) h1 rfl rfl rfl ⟨by decide, by decide⟩ (Nat.le_of_ble_eq_true rfl) dL_law_281 ?_
  refine l_aload_n (pc := 284) X rfl dL_law_284 ?_
  refine l_arg (pc := 285) X ic_1 hin1 dL_law_285 dL_law_286 dL_law_287 dL_law_288 dL_law_289 ?_
  refine l_arg (pc := 290) X ic_2 hin2 dL_law_290 dL_law_291 dL_law_292 dL_law_293 dL_law_294 ?_
  refine l_arg (pc := 295) X ic_3 hin3 dL_law_295 dL_law_296 dL_law_297 dL_law_298 dL_law_299 ?_
  refine l_arg (pc := 300) X ic_4 hin4 dL_law_300 dL_law_301 dL_law_302 dL_law_303 dL_law_304 ?_
  refine l_arg (pc := 305) X ic_5 hin5 dL_law_305 dL_law_306 dL_law_307 dL_law_308 dL_law_309 ?_
  refine l_callM (pc := 310) (As := [.int (xs (i + 1 : Int32).toNatClampNeg), .int (xs (i + 2 : Int32).toNatClampNeg), .int (xs (i + 3 : Int32).toNatClampNeg), .int (xs (i + 4 : Int32).toNatClampNeg), .int (xs (i + 5 : Int32).toNatClampNeg)]) (st := [.int r]) X lk_RL_32 (c_X10_pull l D cy _ fu _ _ _ _ _ _) h2 rfl rfl rfl ⟨by decide, by decide⟩ (Nat.le_of_ble_eq_true rfl) dL_law_310 ?_
  refine l_icmp_eq (pc := 313) X 937 rfl dL_law_313 ?_
  exact kk x' y' h3
set_option maxRecDepth 100000 in
set_option maxHeartbeats 4000000 in
theorem lc_cross {p : Program} {l : Launch} {e : Env} {s : State} {m : MethodId} {below : List Frame} {meth : Method} {c : Code} {D : va_G} {cy : ClassId} {adX adM : Nat → Nat} {b L : Nat} {xs : Nat → Int32} {nc ns fu : Nat} {Rel : Mem → Mem → Prop} (S_ : St_cross fu Rel) {i : Int32} {x y : Mem} (X : LX p s m meth c D cy adX adM b L xs nc ns) (hin1 : vp_in (i + 1) L) (hin2 : vp_in (i + 2) L) (hin3 : vp_in (i + 3) L) (hin4 : vp_in (i + 4) L) (hin5 : vp_in (i + 5) L) (hR : Rel x y)
    (kk : ∀ x' y', Rel x' y' → LSm p l e s m below meth c D cy adX adM b nc ns 937 [some (.ref b), some (.ref (adX 0)), some (.ref (adM 0)), some (.int i)] [] x' y') : LSm p l e s m below meth c D cy adX adM b nc ns 318 [some (.ref b), some (.ref (adX 0)), some (.ref (adM 0)), some (.int i)] [] x y := by
  obtain ⟨r, x', y', h1, h2, h3⟩ := S_ (xs (i + 1 : Int32).toNatClampNeg) (xs (i + 2 : Int32).toNatClampNeg) x y hR
  refine l_aload_n (pc := 318) X rfl dL_law_318 ?_
  refine l_arg (pc := 319) X ic_1 hin1 dL_law_319 dL_law_320 dL_law_321 dL_law_322 dL_law_323 ?_
  refine l_arg (pc := 324) X ic_2 hin2 dL_law_324 dL_law_325 dL_law_326 dL_law_327 dL_law_328 ?_
  refine l_callX (pc := 329) (As := [.int (xs (i + 1 : Int32).toNatClampNeg), .int (xs (i + 2 : Int32).toNatClampNeg)]) (st := []) X lk_RL_33 (c_X9_cross l D cy _ fu _ _ _) h1 rfl rfl rfl ⟨by decide, by decide⟩ (Nat.le_of_ble_eq_true rfl) dL_law_329 ?_
  refine l_aload_n (pc := 332) X rfl dL_law_332 ?_
  refine l_arg (pc := 333) X ic_1 hin1 dL_law_333 dL_law_334 dL_law_335 dL_law_336 dL_law_337 ?_
  refine l_arg (pc := 338) X ic_2 hin2 dL_law_338 dL_law_339 dL_law_340 dL_law_341 dL_law_342 ?_
  refine l_callM (pc := 343) (As := [.int (xs (i + 1 : Int32).toNatClampNeg), .int (xs (i + 2 : Int32).toNatClampNeg)]) (st := [.int r]) X lk_RL_36 (c_X10_cross l D cy _ fu _ _ _) h2 rfl rfl rfl ⟨by decide, by decide⟩ (Nat.le_of_ble_eq_true rfl) dL_law_343 ?_
  refine l_icmp_eq (pc := 346) X 937 rfl dL_law_346 ?_
  exact kk x' y' h3
set_option maxRecDepth 100000 in
set_option maxHeartbeats 4000000 in
theorem lc_uncross {p : Program} {l : Launch} {e : Env} {s : State} {m : MethodId} {below : List Frame} {meth : Method} {c : Code} {D : va_G} {cy : ClassId} {adX adM : Nat → Nat} {b L : Nat} {xs : Nat → Int32} {nc ns fu : Nat} {Rel : Mem → Mem → Prop} (S_ : St_uncross fu Rel) {i : Int32} {x y : Mem} (X : LX p s m meth c D cy adX adM b L xs nc ns) (hin1 : vp_in (i + 1) L) (hin2 : vp_in (i + 2) L) (hin3 : vp_in (i + 3) L) (hin4 : vp_in (i + 4) L) (hin5 : vp_in (i + 5) L) (hR : Rel x y)
    (kk : ∀ x' y', Rel x' y' → LSm p l e s m below meth c D cy adX adM b nc ns 937 [some (.ref b), some (.ref (adX 0)), some (.ref (adM 0)), some (.int i)] [] x' y') : LSm p l e s m below meth c D cy adX adM b nc ns 351 [some (.ref b), some (.ref (adX 0)), some (.ref (adM 0)), some (.int i)] [] x y := by
  obtain ⟨r, x', y', h1, h2, h3⟩ := S_ x y hR
  refine l_aload_n (pc := 351) X rfl dL_law_351 ?_
  refine l_callX (pc := 352) (As := []) (st := []) X lk_RL_37 (c_X9_uncross l D cy _ fu _) h1 rfl rfl rfl ⟨by decide, by decide⟩ (Nat.le_of_ble_eq_true rfl) dL_law_352 ?_
  refine l_aload_n (pc := 355) X rfl dL_law_355 ?_
  refine l_callM (pc := 356) (As := []) (st := [.int r]) X lk_RL_41 (c_X10_uncross l D cy _ fu _) h2 rfl rfl rfl ⟨by decide, by decide⟩ (Nat.le_of_ble_eq_true rfl) dL_law_356 ?_
  refine l_icmp_eq (pc := 359) X 937 rfl dL_law_359 ?_
  exact kk x' y' h3
set_option maxRecDepth 100000 in
set_option maxHeartbeats 4000000 in
theorem lc_force {p : Program} {l : Launch} {e : Env} {s : State} {m : MethodId} {below : List Frame} {meth : Method} {c : Code} {D : va_G} {cy : ClassId} {adX adM : Nat → Nat} {b L : Nat} {xs : Nat → Int32} {nc ns fu : Nat} {Rel : Mem → Mem → Prop} (S_ : St_force fu Rel) {i : Int32} {x y : Mem} (X : LX p s m meth c D cy adX adM b L xs nc ns) (hin1 : vp_in (i + 1) L) (hin2 : vp_in (i + 2) L) (hin3 : vp_in (i + 3) L) (hin4 : vp_in (i + 4) L) (hin5 : vp_in (i + 5) L) (hR : Rel x y)
    (kk : ∀ x' y', Rel x' y' → LSm p l e s m below meth c D cy adX adM b nc ns 937 [some (.ref b), some (.ref (adX 0)), some (.ref (adM 0)), some (.int i)] [] x' y') : LSm p l e s m below meth c D cy adX adM b nc ns 364 [some (.ref b), some (.ref (adX 0)), some (.ref (adM 0)), some (.int i)] [] x y := by
  obtain ⟨r, x', y', h1, h2, h3⟩ := S_ (xs (i + 1 : Int32).toNatClampNeg) x y hR
  refine l_aload_n (pc := 364) X rfl dL_law_364 ?_
  refine l_arg (pc := 365) X ic_1 hin1 dL_law_365 dL_law_366 dL_law_367 dL_law_368 dL_law_369 ?_
  refine l_callX (pc := 370) (As := [.int (xs (i + 1 : Int32).toNatClampNeg)]) (st := []) X lk_RL_42 (c_X9_force l D cy _ fu _ _) h1 rfl rfl rfl ⟨by decide, by decide⟩ (Nat.le_of_ble_eq_true rfl) dL_law_370 ?_
  refine l_aload_n (pc := 373) X rfl dL_law_373 ?_
  refine l_arg (pc := 374) X ic_1 hin1 dL_law_374 dL_law_375 dL_law_376 dL_law_377 dL_law_378 ?_
  refine l_callM (pc := 379) (As := [.int (xs (i + 1 : Int32).toNatClampNeg)]) (st := [.int r]) X lk_RL_45 (c_X10_force l D cy _ fu _ _) h2 rfl rfl rfl ⟨by decide, by decide⟩ (Nat.le_of_ble_eq_true rfl) dL_law_379 ?_
  refine l_icmp_eq (pc := 382) X 937 rfl dL_law_382 ?_
  exact kk x' y' h3
set_option maxRecDepth 100000 in
set_option maxHeartbeats 4000000 in
theorem lc_would {p : Program} {l : Launch} {e : Env} {s : State} {m : MethodId} {below : List Frame} {meth : Method} {c : Code} {D : va_G} {cy : ClassId} {adX adM : Nat → Nat} {b L : Nat} {xs : Nat → Int32} {nc ns fu : Nat} {Rel : Mem → Mem → Prop} (S_ : St_would fu Rel) {i : Int32} {x y : Mem} (X : LX p s m meth c D cy adX adM b L xs nc ns) (hin1 : vp_in (i + 1) L) (hin2 : vp_in (i + 2) L) (hin3 : vp_in (i + 3) L) (hin4 : vp_in (i + 4) L) (hin5 : vp_in (i + 5) L) (hR : Rel x y)
    (kk : ∀ x' y', Rel x' y' → LSm p l e s m below meth c D cy adX adM b nc ns 937 [some (.ref b), some (.ref (adX 0)), some (.ref (adM 0)), some (.int i)] [] x' y') : LSm p l e s m below meth c D cy adX adM b nc ns 387 [some (.ref b), some (.ref (adX 0)), some (.ref (adM 0)), some (.int i)] [] x y := by
  obtain ⟨r, x', y', h1, h2, h3⟩ := S_ (xs (i + 1 : Int32).toNatClampNeg) (xs (i + 2 : Int32).toNatClampNeg) x y hR
  refine l_aload_n (pc := 387) X rfl dL_law_387 ?_
  refine l_arg (pc := 388) X ic_1 hin1 dL_law_388 dL_law_389 dL_law_390 dL_law_391 dL_law_392 ?_
  refine l_arg (pc := 393) X ic_2 hin2 dL_law_393 dL_law_394 dL_law_395 dL_law_396 dL_law_397 ?_
  refine l_callX (pc := 398) (As := [.int (xs (i + 1 : Int32).toNatClampNeg), .int (xs (i + 2 : Int32).toNatClampNeg)]) (st := []) X lk_RL_46 (c_X9_would l D cy _ fu _ _ _) h1 rfl rfl rfl ⟨by decide, by decide⟩ (Nat.le_of_ble_eq_true rfl) dL_law_398 ?_
  refine l_aload_n (pc := 401) X rfl dL_law_401 ?_
  refine l_arg (pc := 402) X ic_1 hin1 dL_law_402 dL_law_403 dL_law_404 dL_law_405 dL_law_406 ?_
  refine l_arg (pc := 407) X ic_2 hin2 dL_law_407 dL_law_408 dL_law_409 dL_law_410 dL_law_411 ?_
  refine l_callM (pc := 412) (As := [.int (xs (i + 1 : Int32).toNatClampNeg), .int (xs (i + 2 : Int32).toNatClampNeg)]) (st := [.int r]) X lk_RL_49 (c_X10_would l D cy _ fu _ _ _) h2 rfl rfl rfl ⟨by decide, by decide⟩ (Nat.le_of_ble_eq_true rfl) dL_law_412 ?_
  refine l_icmp_eq (pc := 415) X 937 rfl dL_law_415 ?_
  exact kk x' y' h3
set_option maxRecDepth 100000 in
set_option maxHeartbeats 4000000 in
theorem lc_means {p : Program} {l : Launch} {e : Env} {s : State} {m : MethodId} {below : List Frame} {meth : Method} {c : Code} {D : va_G} {cy : ClassId} {adX adM : Nat → Nat} {b L : Nat} {xs : Nat → Int32} {nc ns fu : Nat} {Rel : Mem → Mem → Prop} (S_ : St_means fu Rel) {i : Int32} {x y : Mem} (X : LX p s m meth c D cy adX adM b L xs nc ns) (hin1 : vp_in (i + 1) L) (hin2 : vp_in (i + 2) L) (hin3 : vp_in (i + 3) L) (hin4 : vp_in (i + 4) L) (hin5 : vp_in (i + 5) L) (hR : Rel x y)
    (kk : ∀ x' y', Rel x' y' → LSm p l e s m below meth c D cy adX adM b nc ns 937 [some (.ref b), some (.ref (adX 0)), some (.ref (adM 0)), some (.int i)] [] x' y') : LSm p l e s m below meth c D cy adX adM b nc ns 420 [some (.ref b), some (.ref (adX 0)), some (.ref (adM 0)), some (.int i)] [] x y := by
  obtain ⟨r, x', y', h1, h2, h3⟩ := S_ (xs (i + 1 : Int32).toNatClampNeg) (xs (i + 2 : Int32).toNatClampNeg) (xs (i + 3 : Int32).toNatClampNeg) x y hR
  refine l_aload_n (pc := 420) X rfl dL_law_420 ?_
  refine l_arg (pc := 421) X ic_1 hin1 dL_law_421 dL_law_422 dL_law_423 dL_law_424 dL_law_425 ?_
  refine l_arg (pc := 426) X ic_2 hin2 dL_law_426 dL_law_427 dL_law_428 dL_law_429 dL_law_430 ?_
  refine l_arg (pc := 431) X ic_3 hin3 dL_law_431 dL_law_432 dL_law_433 dL_law_434 dL_law_435 ?_
  refine l_callX (pc := 436) (As := [.int (xs (i + 1 : Int32).toNatClampNeg), .int (xs (i + 2 : Int32).toNatClampNeg), .int (xs (i + 3 : Int32).toNatClampNeg)]) (st := []) X lk_RL_50 (c_X9_means l D cy _ fu _ _ _ _) h1 rfl rfl rfl ⟨by decide, by decide⟩ (Nat.le_of_ble_eq_true rfl) dL_law_436 ?_
  refine l_aload_n (pc := 439) X rfl dL_law_439 ?_
  refine l_arg (pc := 440) X ic_1 hin1 dL_law_440 dL_law_441 dL_law_442 dL_law_443 dL_law_444 ?_
  refine l_arg (pc := 445) X ic_2 hin2 dL_law_445 dL_law_446 dL_law_447 dL_law_448 dL_law_449 ?_
  refine l_arg (pc := 450) X ic_3 hin3 dL_law_450 dL_law_451 dL_law_452 dL_law_453 dL_law_454 ?_
  refine l_callM (pc := 455) (As := [.int (xs (i + 1 : Int32).toNatClampNeg), .int (xs (i + 2 : Int32).toNatClampNeg), .int (xs (i + 3 : Int32).toNatClampNeg)]) (st := [.int r]) X lk_RL_53 (c_X10_means l D cy _ fu _ _ _ _) h2 rfl rfl rfl ⟨by decide, by decide⟩ (Nat.le_of_ble_eq_true rfl) dL_law_455 ?_
  refine l_icmp_eq (pc := 458) X 937 rfl dL_law_458 ?_
  exact kk x' y' h3
set_option maxRecDepth 100000 in
set_option maxHeartbeats 4000000 in
theorem lc_servant {p : Program} {l : Launch} {e : Env} {s : State} {m : MethodId} {below : List Frame} {meth : Method} {c : Code} {D : va_G} {cy : ClassId} {adX adM : Nat → Nat} {b L : Nat} {xs : Nat → Int32} {nc ns fu : Nat} {Rel : Mem → Mem → Prop} (S_ : St_servant fu Rel) {i : Int32} {x y : Mem} (X : LX p s m meth c D cy adX adM b L xs nc ns) (hin1 : vp_in (i + 1) L) (hin2 : vp_in (i + 2) L) (hin3 : vp_in (i + 3) L) (hin4 : vp_in (i + 4) L) (hin5 : vp_in (i + 5) L) (hR : Rel x y)
    (kk : ∀ x' y', Rel x' y' → LSm p l e s m below meth c D cy adX adM b nc ns 937 [some (.ref b), some (.ref (adX 0)), some (.ref (adM 0)), some (.int i)] [] x' y') : LSm p l e s m below meth c D cy adX adM b nc ns 463 [some (.ref b), some (.ref (adX 0)), some (.ref (adM 0)), some (.int i)] [] x y := by
  obtain ⟨r, x', y', h1, h2, h3⟩ := S_ (xs (i + 1 : Int32).toNatClampNeg) (xs (i + 2 : Int32).toNatClampNeg) (xs (i + 3 : Int32).toNatClampNeg) x y hR
  refine l_aload_n (pc := 463) X rfl dL_law_463 ?_
  refine l_arg (pc := 464) X ic_1 hin1 dL_law_464 dL_law_465 dL_law_466 dL_law_467 dL_law_468 ?_
  refine l_arg (pc := 469) X ic_2 hin2 dL_law_469 dL_law_470 dL_law_471 dL_law_472 dL_law_473 ?_
  refine l_arg (pc := 474) X ic_3 hin3 dL_law_474 dL_law_475 dL_law_476 dL_law_477 dL_law_478 ?_
  refine l_callX (pc := 479) (As := [.int (xs (i + 1 : Int32).toNatClampNeg), .int (xs (i + 2 : Int32).toNatClampNeg), .int (xs (i + 3 : Int32).toNatClampNeg)]) (st := []) X lk_RL_54 (c_X9_servant l D cy _ fu _ _ _ _) h1 rfl rfl rfl ⟨by decide, by decide⟩ (Nat.le_of_ble_eq_true rfl) dL_law_479 ?_
  refine l_aload_n (pc := 482) X rfl dL_law_482 ?_
  refine l_arg (pc := 483) X ic_1 hin1 dL_law_483 dL_law_484 dL_law_485 dL_law_486 dL_law_487 ?_
  refine l_arg (pc := 488) X ic_2 hin2 dL_law_488 dL_law_489 dL_law_490 dL_law_491 dL_law_492 ?_
  refine l_arg (pc := 493) X ic_3 hin3 dL_law_493 dL_law_494 dL_law_495 dL_law_496 dL_law_497 ?_
  refine l_callM (pc := 498) (As := [.int (xs (i + 1 : Int32).toNatClampNeg), .int (xs (i + 2 : Int32).toNatClampNeg), .int (xs (i + 3 : Int32).toNatClampNeg)]) (st := [.int r]) X lk_RL_57 (c_X10_servant l D cy _ fu _ _ _ _) h2 rfl rfl rfl ⟨by decide, by decide⟩ (Nat.le_of_ble_eq_true rfl) dL_law_498 ?_
  refine l_icmp_eq (pc := 501) X 937 rfl dL_law_501 ?_
  exact kk x' y' h3
set_option maxRecDepth 100000 in
set_option maxHeartbeats 4000000 in
theorem lc_ring {p : Program} {l : Launch} {e : Env} {s : State} {m : MethodId} {below : List Frame} {meth : Method} {c : Code} {D : va_G} {cy : ClassId} {adX adM : Nat → Nat} {b L : Nat} {xs : Nat → Int32} {nc ns fu : Nat} {Rel : Mem → Mem → Prop} (S_ : St_ring fu Rel) {i : Int32} {x y : Mem} (X : LX p s m meth c D cy adX adM b L xs nc ns) (hin1 : vp_in (i + 1) L) (hin2 : vp_in (i + 2) L) (hin3 : vp_in (i + 3) L) (hin4 : vp_in (i + 4) L) (hin5 : vp_in (i + 5) L) (hR : Rel x y)
    (kk : ∀ x' y', Rel x' y' → LSm p l e s m below meth c D cy adX adM b nc ns 937 [some (.ref b), some (.ref (adX 0)), some (.ref (adM 0)), some (.int i)] [] x' y') : LSm p l e s m below meth c D cy adX adM b nc ns 506 [some (.ref b), some (.ref (adX 0)), some (.ref (adM 0)), some (.int i)] [] x y := by
  obtain ⟨r, x', y', h1, h2, h3⟩ := S_ (xs (i + 1 : Int32).toNatClampNeg) x y hR
  refine l_aload_n (pc := 506) X rfl dL_law_506 ?_
  refine l_arg (pc := 507) X ic_1 hin1 dL_law_507 dL_law_508 dL_law_509 dL_law_510 dL_law_511 ?_
  refine l_callX (pc := 512) (As := [.int (xs (i + 1 : Int32).toNatClampNeg)]) (st := []) X lk_RL_58 (c_X9_ring l D cy _ fu _ _) h1 rfl rfl rfl ⟨by decide, by decide⟩ (Nat.le_of_ble_eq_true rfl) dL_law_512 ?_
  refine l_aload_n (pc := 515) X rfl dL_law_515 ?_
  refine l_arg (pc := 516) X ic_1 hin1 dL_law_516 dL_law_517 dL_law_518 dL_law_519 dL_law_520 ?_
  refine l_callM (pc := 521) (As := [.int (xs (i + 1 : Int32).toNatClampNeg)]) (st := [.int r]) X lk_RL_61 (c_X10_ring l D cy _ fu _ _) h2 rfl rfl rfl ⟨by decide, by decide⟩ (Nat.le_of_ble_eq_true rfl) dL_law_521 ?_
  refine l_icmp_eq (pc := 524) X 937 rfl dL_law_524 ?_
  exact kk x' y' h3
set_option maxRecDepth 100000 in
set_option maxHeartbeats 4000000 in
theorem lc_ticks {p : Program} {l : Launch} {e : Env} {s : State} {m : MethodId} {below : List Frame} {meth : Method} {c : Code} {D : va_G} {cy : ClassId} {adX adM : Nat → Nat} {b L : Nat} {xs : Nat → Int32} {nc ns fu : Nat} {Rel : Mem → Mem → Prop} (S_ : St_ticks fu Rel) {i : Int32} {x y : Mem} (X : LX p s m meth c D cy adX adM b L xs nc ns) (hin1 : vp_in (i + 1) L) (hin2 : vp_in (i + 2) L) (hin3 : vp_in (i + 3) L) (hin4 : vp_in (i + 4) L) (hin5 : vp_in (i + 5) L) (hR : Rel x y)
    (kk : ∀ x' y', Rel x' y' → LSm p l e s m below meth c D cy adX adM b nc ns 937 [some (.ref b), some (.ref (adX 0)), some (.ref (adM 0)), some (.int i)] [] x' y') : LSm p l e s m below meth c D cy adX adM b nc ns 529 [some (.ref b), some (.ref (adX 0)), some (.ref (adM 0)), some (.int i)] [] x y := by
  obtain ⟨r, x', y', h1, h2, h3⟩ := S_ (xs (i + 1 : Int32).toNatClampNeg) x y hR
  refine l_aload_n (pc := 529) X rfl dL_law_529 ?_
  refine l_arg (pc := 530) X ic_1 hin1 dL_law_530 dL_law_531 dL_law_532 dL_law_533 dL_law_534 ?_
  refine l_callX (pc := 535) (As := [.int (xs (i + 1 : Int32).toNatClampNeg)]) (st := []) X lk_RL_62 (c_X9_ticks l D cy _ fu _ _) h1 rfl rfl rfl ⟨by decide, by decide⟩ (Nat.le_of_ble_eq_true rfl) dL_law_535 ?_
  refine l_aload_n (pc := 538) X rfl dL_law_538 ?_
  refine l_arg (pc := 539) X ic_1 hin1 dL_law_539 dL_law_540 dL_law_541 dL_law_542 dL_law_543 ?_
  refine l_callM (pc := 544) (As := [.int (xs (i + 1 : Int32).toNatClampNeg)]) (st := [.int r]) X lk_RL_65 (c_X10_ticks l D cy _ fu _ _) h2 rfl rfl rfl ⟨by decide, by decide⟩ (Nat.le_of_ble_eq_true rfl) dL_law_544 ?_
  refine l_icmp_eq (pc := 547) X 937 rfl dL_law_547 ?_
  exact kk x' y' h3
set_option maxRecDepth 100000 in
set_option maxHeartbeats 4000000 in
theorem lc_takeBack {p : Program} {l : Launch} {e : Env} {s : State} {m : MethodId} {below : List Frame} {meth : Method} {c : Code} {D : va_G} {cy : ClassId} {adX adM : Nat → Nat} {b L : Nat} {xs : Nat → Int32} {nc ns fu : Nat} {Rel : Mem → Mem → Prop} (S_ : St_takeBack fu Rel) {i : Int32} {x y : Mem} (X : LX p s m meth c D cy adX adM b L xs nc ns) (hin1 : vp_in (i + 1) L) (hin2 : vp_in (i + 2) L) (hin3 : vp_in (i + 3) L) (hin4 : vp_in (i + 4) L) (hin5 : vp_in (i + 5) L) (hR : Rel x y)
    (kk : ∀ x' y', Rel x' y' → LSm p l e s m below meth c D cy adX adM b nc ns 937 [some (.ref b), some (.ref (adX 0)), some (.ref (adM 0)), some (.int i)] [] x' y') : LSm p l e s m below meth c D cy adX adM b nc ns 552 [some (.ref b), some (.ref (adX 0)), some (.ref (adM 0)), some (.int i)] [] x y := by
  obtain ⟨r, x', y', h1, h2, h3⟩ := S_ (xs (i + 1 : Int32).toNatClampNeg) x y hR
  refine l_aload_n (pc := 552) X rfl dL_law_552 ?_
  refine l_arg (pc := 553) X ic_1 hin1 dL_law_553 dL_law_554 dL_law_555 dL_law_556 dL_law_557 ?_
  refine l_callX (pc := 558) (As := [.int (xs (i + 1 : Int32).toNatClampNeg)]) (st := []) X lk_RL_66 (c_X9_takeBack l D cy _ fu _ _) h1 rfl rfl rfl ⟨by decide, by decide⟩ (Nat.le_of_ble_eq_true rfl) dL_law_558 ?_
  refine l_aload_n (pc := 561) X rfl dL_law_561 ?_
  refine l_arg (pc := 562) X ic_1 hin1 dL_law_562 dL_law_563 dL_law_564 dL_law_565 dL_law_566 ?_
  refine l_callM (pc := 567) (As := [.int (xs (i + 1 : Int32).toNatClampNeg)]) (st := [.int r]) X lk_RL_69 (c_X10_takeBack l D cy _ fu _ _) h2 rfl rfl rfl ⟨by decide, by decide⟩ (Nat.le_of_ble_eq_true rfl) dL_law_567 ?_
  refine l_icmp_eq (pc := 570) X 937 rfl dL_law_570 ?_
  exact kk x' y' h3
set_option maxRecDepth 100000 in
set_option maxHeartbeats 4000000 in
theorem lc_flags {p : Program} {l : Launch} {e : Env} {s : State} {m : MethodId} {below : List Frame} {meth : Method} {c : Code} {D : va_G} {cy : ClassId} {adX adM : Nat → Nat} {b L : Nat} {xs : Nat → Int32} {nc ns fu : Nat} {Rel : Mem → Mem → Prop} (S_ : St_flags fu Rel) {i : Int32} {x y : Mem} (X : LX p s m meth c D cy adX adM b L xs nc ns) (hin1 : vp_in (i + 1) L) (hin2 : vp_in (i + 2) L) (hin3 : vp_in (i + 3) L) (hin4 : vp_in (i + 4) L) (hin5 : vp_in (i + 5) L) (hR : Rel x y)
    (kk : ∀ x' y', Rel x' y' → LSm p l e s m below meth c D cy adX adM b nc ns 937 [some (.ref b), some (.ref (adX 0)), some (.ref (adM 0)), some (.int i)] [] x' y') : LSm p l e s m below meth c D cy adX adM b nc ns 575 [some (.ref b), some (.ref (adX 0)), some (.ref (adM 0)), some (.int i)] [] x y := by
  obtain ⟨r, x', y', h1, h2, h3⟩ := S_ (xs (i + 1 : Int32).toNatClampNeg) x y hR
  refine l_aload_n (pc := 575) X rfl dL_law_575 ?_
  refine l_arg (pc := 576) X ic_1 hin1 dL_law_576 dL_law_577 dL_law_578 dL_law_579 dL_law_580 ?_
  refine l_callX (pc := 581) (As := [.int (xs (i + 1 : Int32).toNatClampNeg)]) (st := []) X lk_RL_70 (c_X9_flags l D cy _ fu _ _) h1 rfl rfl rfl ⟨by decide, by decide⟩ (Nat.le_of_ble_eq_true rfl) dL_law_581 ?_
  refine l_aload_n (pc := 584) X rfl dL_law_584 ?_
  refine l_arg (pc := 585) X ic_1 hin1 dL_law_585 dL_law_586 dL_law_587 dL_law_588 dL_law_589 ?_
  refine l_callM (pc := 590) (As := [.int (xs (i + 1 : Int32).toNatClampNeg)]) (st := [.int r]) X lk_RL_73 (c_X10_flags l D cy _ fu _ _) h2 rfl rfl rfl ⟨by decide, by decide⟩ (Nat.le_of_ble_eq_true rfl) dL_law_590 ?_
  refine l_icmp_eq (pc := 593) X 937 rfl dL_law_593 ?_
  exact kk x' y' h3
set_option maxRecDepth 100000 in
set_option maxHeartbeats 4000000 in
theorem lc_about {p : Program} {l : Launch} {e : Env} {s : State} {m : MethodId} {below : List Frame} {meth : Method} {c : Code} {D : va_G} {cy : ClassId} {adX adM : Nat → Nat} {b L : Nat} {xs : Nat → Int32} {nc ns fu : Nat} {Rel : Mem → Mem → Prop} (S_ : St_about fu Rel) {i : Int32} {x y : Mem} (X : LX p s m meth c D cy adX adM b L xs nc ns) (hin1 : vp_in (i + 1) L) (hin2 : vp_in (i + 2) L) (hin3 : vp_in (i + 3) L) (hin4 : vp_in (i + 4) L) (hin5 : vp_in (i + 5) L) (hR : Rel x y)
    (kk : ∀ x' y', Rel x' y' → LSm p l e s m below meth c D cy adX adM b nc ns 937 [some (.ref b), some (.ref (adX 0)), some (.ref (adM 0)), some (.int i)] [] x' y') : LSm p l e s m below meth c D cy adX adM b nc ns 598 [some (.ref b), some (.ref (adX 0)), some (.ref (adM 0)), some (.int i)] [] x y := by
  obtain ⟨r, x', y', h1, h2, h3⟩ := S_ (xs (i + 1 : Int32).toNatClampNeg) (xs (i + 2 : Int32).toNatClampNeg) x y hR
  refine l_aload_n (pc := 598) X rfl dL_law_598 ?_
  refine l_arg (pc := 599) X ic_1 hin1 dL_law_599 dL_law_600 dL_law_601 dL_law_602 dL_law_603 ?_
  refine l_arg (pc := 604) X ic_2 hin2 dL_law_604 dL_law_605 dL_law_606 dL_law_607 dL_law_608 ?_
  refine l_callX (pc := 609) (As := [.int (xs (i + 1 : Int32).toNatClampNeg), .int (xs (i + 2 : Int32).toNatClampNeg)]) (st := []) X lk_RL_74 (c_X9_about l D cy _ fu _ _ _) h1 rfl rfl rfl ⟨by decide, by decide⟩ (Nat.le_of_ble_eq_true rfl) dL_law_609 ?_
  refine l_aload_n (pc := 612) X rfl dL_law_612 ?_
  refine l_arg (pc := 613) X ic_1 hin1 dL_law_613 dL_law_614 dL_law_615 dL_law_616 dL_law_617 ?_
  refine l_arg (pc := 618) X ic_2 hin2 dL_law_618 dL_law_619 dL_law_620 dL_law_621 dL_law_622 ?_
  refine l_callM (pc := 623) (As := [.int (xs (i + 1 : Int32).toNatClampNeg), .int (xs (i + 2 : Int32).toNatClampNeg)]) (st := [.int r]) X lk_RL_77 (c_X10_about l D cy _ fu _ _ _) h2 rfl rfl rfl ⟨by decide, by decide⟩ (Nat.le_of_ble_eq_true rfl) dL_law_623 ?_
  refine l_icmp_eq (pc := 626) X 937 rfl dL_law_626 ?_
  exact kk x' y' h3
set_option maxRecDepth 100000 in
set_option maxHeartbeats 4000000 in
theorem lc_servantTold {p : Program} {l : Launch} {e : Env} {s : State} {m : MethodId} {below : List Frame} {meth : Method} {c : Code} {D : va_G} {cy : ClassId} {adX adM : Nat → Nat} {b L : Nat} {xs : Nat → Int32} {nc ns fu : Nat} {Rel : Mem → Mem → Prop} (S_ : St_servantTold fu Rel) {i : Int32} {x y : Mem} (X : LX p s m meth c D cy adX adM b L xs nc ns) (hin1 : vp_in (i + 1) L) (hin2 : vp_in (i + 2) L) (hin3 : vp_in (i + 3) L) (hin4 : vp_in (i + 4) L) (hin5 : vp_in (i + 5) L) (hR : Rel x y)
    (kk : ∀ x' y', Rel x' y' → LSm p l e s m below meth c D cy adX adM b nc ns 937 [some (.ref b), some (.ref (adX 0)), some (.ref (adM 0)), some (.int i)] [] x' y') : LSm p l e s m below meth c D cy adX adM b nc ns 631 [some (.ref b), some (.ref (adX 0)), some (.ref (adM 0)), some (.int i)] [] x y := by
  obtain ⟨r, x', y', h1, h2, h3⟩ := S_ (xs (i + 1 : Int32).toNatClampNeg) (xs (i + 2 : Int32).toNatClampNeg) x y hR
  refine l_aload_n (pc := 631) X rfl dL_law_631 ?_
  refine l_arg (pc := 632) X ic_1 hin1 dL_law_632 dL_law_633 dL_law_634 dL_law_635 dL_law_636 ?_
  refine l_arg (pc := 637) X ic_2 hin2 dL_law_637 dL_law_638 dL_law_639 dL_law_640 dL_law_641 ?_
  refine l_callX (pc := 642) (As := [.int (xs (i + 1 : Int32).toNatClampNeg), .int (xs (i + 2 : Int32).toNatClampNeg)]) (st := []) X lk_RL_78 (c_X9_servantTold l D cy _ fu _ _ _) h1 rfl rfl rfl ⟨by decide, by decide⟩ (Nat.le_of_ble_eq_true rfl) dL_law_642 ?_
  refine l_aload_n (pc := 645) X rfl dL_law_645 ?_
  refine l_arg (pc := 646) X ic_1 hin1 dL_law_646 dL_law_647 dL_law_648 dL_law_649 dL_law_650 ?_
  refine l_arg (pc := 651) X ic_2 hin2 dL_law_651 dL_law_652 dL_law_653 dL_law_654 dL_law_655 ?_
  refine l_callM (pc := 656) (As := [.int (xs (i + 1 : Int32).toNatClampNeg), .int (xs (i + 2 : Int32).toNatClampNeg)]) (st := [.int r]) X lk_RL_81 (c_X10_servantTold l D cy _ fu _ _ _) h2 rfl rfl rfl ⟨by decide, by decide⟩ (Nat.le_of_ble_eq_true rfl) dL_law_656 ?_
  refine l_icmp_eq (pc := 659) X 937 rfl dL_law_659 ?_
  exact kk x' y' h3
set_option maxRecDepth 100000 in
set_option maxHeartbeats 4000000 in
theorem lc_way {p : Program} {l : Launch} {e : Env} {s : State} {m : MethodId} {below : List Frame} {meth : Method} {c : Code} {D : va_G} {cy : ClassId} {adX adM : Nat → Nat} {b L : Nat} {xs : Nat → Int32} {nc ns fu : Nat} {Rel : Mem → Mem → Prop} (S_ : St_way fu Rel) {i : Int32} {x y : Mem} (X : LX p s m meth c D cy adX adM b L xs nc ns) (hin1 : vp_in (i + 1) L) (hin2 : vp_in (i + 2) L) (hin3 : vp_in (i + 3) L) (hin4 : vp_in (i + 4) L) (hin5 : vp_in (i + 5) L) (hR : Rel x y)
    (kk : ∀ x' y', Rel x' y' → LSm p l e s m below meth c D cy adX adM b nc ns 937 [some (.ref b), some (.ref (adX 0)), some (.ref (adM 0)), some (.int i)] [] x' y') : LSm p l e s m below meth c D cy adX adM b nc ns 664 [some (.ref b), some (.ref (adX 0)), some (.ref (adM 0)), some (.int i)] [] x y := by
  obtain ⟨r, x', y', h1, h2, h3⟩ := S_ (xs (i + 1 : Int32).toNatClampNeg) (xs (i + 2 : Int32).toNatClampNeg) x y hR
  refine l_aload_n (pc := 664) X rfl dL_law_664 ?_
  refine l_arg (pc := 665) X ic_1 hin1 dL_law_665 dL_law_666 dL_law_667 dL_law_668 dL_law_669 ?_
  refine l_arg (pc := 670) X ic_2 hin2 dL_law_670 dL_law_671 dL_law_672 dL_law_673 dL_law_674 ?_
  refine l_callX (pc := 675) (As := [.int (xs (i + 1 : Int32).toNatClampNeg), .int (xs (i + 2 : Int32).toNatClampNeg)]) (st := []) X lk_RL_82 (c_X9_way l D cy _ fu _ _ _) h1 rfl rfl rfl ⟨by decide, by decide⟩ (Nat.le_of_ble_eq_true rfl) dL_law_675 ?_
  refine l_aload_n (pc := 678) X rfl dL_law_678 ?_
  refine l_arg (pc := 679) X ic_1 hin1 dL_law_679 dL_law_680 dL_law_681 dL_law_682 dL_law_683 ?_
  refine l_arg (pc := 684) X ic_2 hin2 dL_law_684 dL_law_685 dL_law_686 dL_law_687 dL_law_688 ?_
  refine l_callM (pc := 689) (As := [.int (xs (i + 1 : Int32).toNatClampNeg), .int (xs (i + 2 : Int32).toNatClampNeg)]) (st := [.int r]) X lk_RL_85 (c_X10_way l D cy _ fu _ _ _) h2 rfl rfl rfl ⟨by decide, by decide⟩ (Nat.le_of_ble_eq_true rfl) dL_law_689 ?_
  refine l_icmp_eq (pc := 692) X 937 rfl dL_law_692 ?_
  exact kk x' y' h3
set_option maxRecDepth 100000 in
set_option maxHeartbeats 4000000 in
theorem lc_swings {p : Program} {l : Launch} {e : Env} {s : State} {m : MethodId} {below : List Frame} {meth : Method} {c : Code} {D : va_G} {cy : ClassId} {adX adM : Nat → Nat} {b L : Nat} {xs : Nat → Int32} {nc ns fu : Nat} {Rel : Mem → Mem → Prop} (S_ : St_swings fu Rel) {i : Int32} {x y : Mem} (X : LX p s m meth c D cy adX adM b L xs nc ns) (hin1 : vp_in (i + 1) L) (hin2 : vp_in (i + 2) L) (hin3 : vp_in (i + 3) L) (hin4 : vp_in (i + 4) L) (hin5 : vp_in (i + 5) L) (hR : Rel x y)
    (kk : ∀ x' y', Rel x' y' → LSm p l e s m below meth c D cy adX adM b nc ns 937 [some (.ref b), some (.ref (adX 0)), some (.ref (adM 0)), some (.int i)] [] x' y') : LSm p l e s m below meth c D cy adX adM b nc ns 697 [some (.ref b), some (.ref (adX 0)), some (.ref (adM 0)), some (.int i)] [] x y := by
  obtain ⟨r, x', y', h1, h2, h3⟩ := S_ (xs (i + 1 : Int32).toNatClampNeg) x y hR
  refine l_aload_n (pc := 697) X rfl dL_law_697 ?_
  refine l_arg (pc := 698) X ic_1 hin1 dL_law_698 dL_law_699 dL_law_700 dL_law_701 dL_law_702 ?_
  refine l_callX (pc := 703) (As := [.int (xs (i + 1 : Int32).toNatClampNeg)]) (st := []) X lk_RL_86 (c_X9_swings l D cy _ fu _ _) h1 rfl rfl rfl ⟨by decide, by decide⟩ (Nat.le_of_ble_eq_true rfl) dL_law_703 ?_
  refine l_aload_n (pc := 706) X rfl dL_law_706 ?_
  refine l_arg (pc := 707) X ic_1 hin1 dL_law_707 dL_law_708 dL_law_709 dL_law_710 dL_law_711 ?_
  refine l_callM (pc := 712) (As := [.int (xs (i + 1 : Int32).toNatClampNeg)]) (st := [.int r]) X lk_RL_89 (c_X10_swings l D cy _ fu _ _) h2 rfl rfl rfl ⟨by decide, by decide⟩ (Nat.le_of_ble_eq_true rfl) dL_law_712 ?_
  refine l_icmp_eq (pc := 715) X 937 rfl dL_law_715 ?_
  exact kk x' y' h3
set_option maxRecDepth 100000 in
set_option maxHeartbeats 4000000 in
theorem lc_share {p : Program} {l : Launch} {e : Env} {s : State} {m : MethodId} {below : List Frame} {meth : Method} {c : Code} {D : va_G} {cy : ClassId} {adX adM : Nat → Nat} {b L : Nat} {xs : Nat → Int32} {nc ns fu : Nat} {Rel : Mem → Mem → Prop} (S_ : St_share fu Rel) {i : Int32} {x y : Mem} (X : LX p s m meth c D cy adX adM b L xs nc ns) (hin1 : vp_in (i + 1) L) (hin2 : vp_in (i + 2) L) (hin3 : vp_in (i + 3) L) (hin4 : vp_in (i + 4) L) (hin5 : vp_in (i + 5) L) (hR : Rel x y)
    (kk : ∀ x' y', Rel x' y' → LSm p l e s m below meth c D cy adX adM b nc ns 937 [some (.ref b), some (.ref (adX 0)), some (.ref (adM 0)), some (.int i)] [] x' y') : LSm p l e s m below meth c D cy adX adM b nc ns 720 [some (.ref b), some (.ref (adX 0)), some (.ref (adM 0)), some (.int i)] [] x y := by
  obtain ⟨r, x', y', h1, h2, h3⟩ := S_ (xs (i + 1 : Int32).toNatClampNeg) x y hR
  refine l_aload_n (pc := 720) X rfl dL_law_720 ?_
  refine l_arg (pc := 721) X ic_1 hin1 dL_law_721 dL_law_722 dL_law_723 dL_law_724 dL_law_725 ?_
  refine l_callX (pc := 726) (As := [.int (xs (i + 1 : Int32).toNatClampNeg)]) (st := []) X lk_RL_90 (c_X9_share l D cy _ fu _ _) h1 rfl rfl rfl ⟨by decide, by decide⟩ (Nat.le_of_ble_eq_true rfl) dL_law_726 ?_
  refine l_aload_n (pc := 729) X rfl dL_law_729 ?_
  refine l_arg (pc := 730) X ic_1 hin1 dL_law_730 dL_law_731 dL_law_732 dL_law_733 dL_law_734 ?_
  refine l_callM (pc := 735) (As := [.int (xs (i + 1 : Int32).toNatClampNeg)]) (st := [.int r]) X lk_RL_93 (c_X10_share l D cy _ fu _ _) h2 rfl rfl rfl ⟨by decide, by decide⟩ (Nat.le_of_ble_eq_true rfl) dL_law_735 ?_
  refine l_icmp_eq (pc := 738) X 937 rfl dL_law_738 ?_
  exact kk x' y' h3
set_option maxRecDepth 100000 in
set_option maxHeartbeats 4000000 in
theorem lc_send {p : Program} {l : Launch} {e : Env} {s : State} {m : MethodId} {below : List Frame} {meth : Method} {c : Code} {D : va_G} {cy : ClassId} {adX adM : Nat → Nat} {b L : Nat} {xs : Nat → Int32} {nc ns fu : Nat} {Rel : Mem → Mem → Prop} (S_ : St_send fu Rel) {i : Int32} {x y : Mem} (X : LX p s m meth c D cy adX adM b L xs nc ns) (hin1 : vp_in (i + 1) L) (hin2 : vp_in (i + 2) L) (hin3 : vp_in (i + 3) L) (hin4 : vp_in (i + 4) L) (hin5 : vp_in (i + 5) L) (hR : Rel x y)
    (kk : ∀ x' y', Rel x' y' → LSm p l e s m below meth c D cy adX adM b nc ns 937 [some (.ref b), some (.ref (adX 0)), some (.ref (adM 0)), some (.int i)] [] x' y') : LSm p l e s m below meth c D cy adX adM b nc ns 743 [some (.ref b), some (.ref (adX 0)), some (.ref (adM 0)), some (.int i)] [] x y := by
  obtain ⟨r, x', y', h1, h2, h3⟩ := S_ x y hR
  refine l_aload_n (pc := 743) X rfl dL_law_743 ?_
  refine l_callX (pc := 744) (As := []) (st := []) X lk_RL_94 (c_X9_send l D cy _ fu _) h1 rfl rfl rfl ⟨by decide, by decide⟩ (Nat.le_of_ble_eq_true rfl) dL_law_744 ?_
  refine l_aload_n (pc := 747) X rfl dL_law_747 ?_
  refine l_callM (pc := 748) (As := []) (st := [.int r]) X lk_RL_97 (c_X10_send l D cy _ fu _) h2 rfl rfl rfl ⟨by decide, by decide⟩ (Nat.le_of_ble_eq_true rfl) dL_law_748 ?_
  refine l_icmp_eq (pc := 751) X 937 rfl dL_law_751 ?_
  exact kk x' y' h3
set_option maxRecDepth 100000 in
set_option maxHeartbeats 4000000 in
theorem lc_test {p : Program} {l : Launch} {e : Env} {s : State} {m : MethodId} {below : List Frame} {meth : Method} {c : Code} {D : va_G} {cy : ClassId} {adX adM : Nat → Nat} {b L : Nat} {xs : Nat → Int32} {nc ns fu : Nat} {Rel : Mem → Mem → Prop} (S_ : St_test fu Rel) {i : Int32} {x y : Mem} (X : LX p s m meth c D cy adX adM b L xs nc ns) (hin1 : vp_in (i + 1) L) (hin2 : vp_in (i + 2) L) (hin3 : vp_in (i + 3) L) (hin4 : vp_in (i + 4) L) (hin5 : vp_in (i + 5) L) (hR : Rel x y)
    (kk : ∀ x' y', Rel x' y' → LSm p l e s m below meth c D cy adX adM b nc ns 937 [some (.ref b), some (.ref (adX 0)), some (.ref (adM 0)), some (.int i)] [] x' y') : LSm p l e s m below meth c D cy adX adM b nc ns 756 [some (.ref b), some (.ref (adX 0)), some (.ref (adM 0)), some (.int i)] [] x y := by
  obtain ⟨r, x', y', h1, h2, h3⟩ := S_ (xs (i + 1 : Int32).toNatClampNeg) (xs (i + 2 : Int32).toNatClampNeg) (xs (i + 3 : Int32).toNatClampNeg) x y hR
  refine l_aload_n (pc := 756) X rfl dL_law_756 ?_
  refine l_arg (pc := 757) X ic_1 hin1 dL_law_757 dL_law_758 dL_law_759 dL_law_760 dL_law_761 ?_
  refine l_arg (pc := 762) X ic_2 hin2 dL_law_762 dL_law_763 dL_law_764 dL_law_765 dL_law_766 ?_
  refine l_arg (pc := 767) X ic_3 hin3 dL_law_767 dL_law_768 dL_law_769 dL_law_770 dL_law_771 ?_
  refine l_callX (pc := 772) (As := [.int (xs (i + 1 : Int32).toNatClampNeg), .int (xs (i + 2 : Int32).toNatClampNeg), .int (xs (i + 3 : Int32).toNatClampNeg)]) (st := []) X lk_RL_98 (c_X9_test l D cy _ fu _ _ _ _) h1 rfl rfl rfl ⟨by decide, by decide⟩ (Nat.le_of_ble_eq_true rfl) dL_law_772 ?_
  refine l_aload_n (pc := 775) X rfl dL_law_775 ?_
  refine l_arg (pc := 776) X ic_1 hin1 dL_law_776 dL_law_777 dL_law_778 dL_law_779 dL_law_780 ?_
  refine l_arg (pc := 781) X ic_2 hin2 dL_law_781 dL_law_782 dL_law_783 dL_law_784 dL_law_785 ?_
  refine l_arg (pc := 786) X ic_3 hin3 dL_law_786 dL_law_787 dL_law_788 dL_law_789 dL_law_790 ?_
  refine l_callM (pc := 791) (As := [.int (xs (i + 1 : Int32).toNatClampNeg), .int (xs (i + 2 : Int32).toNatClampNeg), .int (xs (i + 3 : Int32).toNatClampNeg)]) (st := [.int r]) X lk_RL_101 (c_X10_test l D cy _ fu _ _ _ _) h2 rfl rfl rfl ⟨by decide, by decide⟩ (Nat.le_of_ble_eq_true rfl) dL_law_791 ?_
  refine l_icmp_eq (pc := 794) X 937 rfl dL_law_794 ?_
  exact kk x' y' h3
set_option maxRecDepth 100000 in
set_option maxHeartbeats 4000000 in
theorem lc_noTests {p : Program} {l : Launch} {e : Env} {s : State} {m : MethodId} {below : List Frame} {meth : Method} {c : Code} {D : va_G} {cy : ClassId} {adX adM : Nat → Nat} {b L : Nat} {xs : Nat → Int32} {nc ns fu : Nat} {Rel : Mem → Mem → Prop} (S_ : St_noTests fu Rel) {i : Int32} {x y : Mem} (X : LX p s m meth c D cy adX adM b L xs nc ns) (hin1 : vp_in (i + 1) L) (hin2 : vp_in (i + 2) L) (hin3 : vp_in (i + 3) L) (hin4 : vp_in (i + 4) L) (hin5 : vp_in (i + 5) L) (hR : Rel x y)
    (kk : ∀ x' y', Rel x' y' → LSm p l e s m below meth c D cy adX adM b nc ns 937 [some (.ref b), some (.ref (adX 0)), some (.ref (adM 0)), some (.int i)] [] x' y') : LSm p l e s m below meth c D cy adX adM b nc ns 799 [some (.ref b), some (.ref (adX 0)), some (.ref (adM 0)), some (.int i)] [] x y := by
  obtain ⟨r, x', y', h1, h2, h3⟩ := S_ x y hR
  refine l_aload_n (pc := 799) X rfl dL_law_799 ?_
  refine l_callX (pc := 800) (As := []) (st := []) X lk_RL_102 (c_X9_noTests l D cy _ fu _) h1 rfl rfl rfl ⟨by decide, by decide⟩ (Nat.le_of_ble_eq_true rfl) dL_law_800 ?_
  refine l_aload_n (pc := 803) X rfl dL_law_803 ?_
  refine l_callM (pc := 804) (As := []) (st := [.int r]) X lk_RL_105 (c_X10_noTests l D cy _ fu _) h2 rfl rfl rfl ⟨by decide, by decide⟩ (Nat.le_of_ble_eq_true rfl) dL_law_804 ?_
  refine l_icmp_eq (pc := 807) X 937 rfl dL_law_807 ?_
  exact kk x' y' h3
set_option maxRecDepth 100000 in
set_option maxHeartbeats 4000000 in
theorem lc_fault {p : Program} {l : Launch} {e : Env} {s : State} {m : MethodId} {below : List Frame} {meth : Method} {c : Code} {D : va_G} {cy : ClassId} {adX adM : Nat → Nat} {b L : Nat} {xs : Nat → Int32} {nc ns fu : Nat} {Rel : Mem → Mem → Prop} (S_ : St_fault fu Rel) {i : Int32} {x y : Mem} (X : LX p s m meth c D cy adX adM b L xs nc ns) (hin1 : vp_in (i + 1) L) (hin2 : vp_in (i + 2) L) (hin3 : vp_in (i + 3) L) (hin4 : vp_in (i + 4) L) (hin5 : vp_in (i + 5) L) (hR : Rel x y)
    (kk : ∀ x' y', Rel x' y' → LSm p l e s m below meth c D cy adX adM b nc ns 937 [some (.ref b), some (.ref (adX 0)), some (.ref (adM 0)), some (.int i)] [] x' y') : LSm p l e s m below meth c D cy adX adM b nc ns 812 [some (.ref b), some (.ref (adX 0)), some (.ref (adM 0)), some (.int i)] [] x y := by
  obtain ⟨r, x', y', h1, h2, h3⟩ := S_ (xs (i + 1 : Int32).toNatClampNeg) x y hR
  refine l_aload_n (pc := 812) X rfl dL_law_812 ?_
  refine l_arg (pc := 813) X ic_1 hin1 dL_law_813 dL_law_814 dL_law_815 dL_law_816 dL_law_817 ?_
  refine l_callX (pc := 818) (As := [.int (xs (i + 1 : Int32).toNatClampNeg)]) (st := []) X lk_RL_106 (c_X9_fault l D cy _ fu _ _) h1 rfl rfl rfl ⟨by decide, by decide⟩ (Nat.le_of_ble_eq_true rfl) dL_law_818 ?_
  refine l_aload_n (pc := 821) X rfl dL_law_821 ?_
  refine l_arg (pc := 822) X ic_1 hin1 dL_law_822 dL_law_823 dL_law_824 dL_law_825 dL_law_826 ?_
  refine l_callM (pc := 827) (As := [.int (xs (i + 1 : Int32).toNatClampNeg)]) (st := [.int r]) X lk_RL_109 (c_X10_fault l D cy _ fu _ _) h2 rfl rfl rfl ⟨by decide, by decide⟩ (Nat.le_of_ble_eq_true rfl) dL_law_827 ?_
  refine l_icmp_eq (pc := 830) X 937 rfl dL_law_830 ?_
  exact kk x' y' h3
set_option maxRecDepth 100000 in
set_option maxHeartbeats 4000000 in
theorem lc_nextTest {p : Program} {l : Launch} {e : Env} {s : State} {m : MethodId} {below : List Frame} {meth : Method} {c : Code} {D : va_G} {cy : ClassId} {adX adM : Nat → Nat} {b L : Nat} {xs : Nat → Int32} {nc ns fu : Nat} {Rel : Mem → Mem → Prop} (S_ : St_nextTest fu Rel) {i : Int32} {x y : Mem} (X : LX p s m meth c D cy adX adM b L xs nc ns) (hin1 : vp_in (i + 1) L) (hin2 : vp_in (i + 2) L) (hin3 : vp_in (i + 3) L) (hin4 : vp_in (i + 4) L) (hin5 : vp_in (i + 5) L) (hR : Rel x y)
    (kk : ∀ x' y', Rel x' y' → LSm p l e s m below meth c D cy adX adM b nc ns 937 [some (.ref b), some (.ref (adX 0)), some (.ref (adM 0)), some (.int i)] [] x' y') : LSm p l e s m below meth c D cy adX adM b nc ns 835 [some (.ref b), some (.ref (adX 0)), some (.ref (adM 0)), some (.int i)] [] x y := by
  obtain ⟨r, x', y', h1, h2, h3⟩ := S_ x y hR
  refine l_aload_n (pc := 835) X rfl dL_law_835 ?_
  refine l_callX (pc := 836) (As := []) (st := []) X lk_RL_110 (c_X9_nextTest l D cy _ fu _) h1 rfl rfl rfl ⟨by decide, by decide⟩ (Nat.le_of_ble_eq_true rfl) dL_law_836 ?_
  refine l_aload_n (pc := 839) X rfl dL_law_839 ?_
  refine l_callM (pc := 840) (As := []) (st := [.int r]) X lk_RL_113 (c_X10_nextTest l D cy _ fu _) h2 rfl rfl rfl ⟨by decide, by decide⟩ (Nat.le_of_ble_eq_true rfl) dL_law_840 ?_
  refine l_icmp_eq (pc := 843) X 937 rfl dL_law_843 ?_
  exact kk x' y' h3
set_option maxRecDepth 100000 in
set_option maxHeartbeats 4000000 in
theorem lc_frame {p : Program} {l : Launch} {e : Env} {s : State} {m : MethodId} {below : List Frame} {meth : Method} {c : Code} {D : va_G} {cy : ClassId} {adX adM : Nat → Nat} {b L : Nat} {xs : Nat → Int32} {nc ns fu : Nat} {Rel : Mem → Mem → Prop} (S_ : St_frame fu Rel) {i : Int32} {x y : Mem} (X : LX p s m meth c D cy adX adM b L xs nc ns) (hin1 : vp_in (i + 1) L) (hin2 : vp_in (i + 2) L) (hin3 : vp_in (i + 3) L) (hin4 : vp_in (i + 4) L) (hin5 : vp_in (i + 5) L) (hR : Rel x y)
    (kk : ∀ x' y', Rel x' y' → LSm p l e s m below meth c D cy adX adM b nc ns 937 [some (.ref b), some (.ref (adX 0)), some (.ref (adM 0)), some (.int i)] [] x' y') : LSm p l e s m below meth c D cy adX adM b nc ns 848 [some (.ref b), some (.ref (adX 0)), some (.ref (adM 0)), some (.int i)] [] x y := by
  obtain ⟨r, x', y', h1, h2, h3⟩ := S_ (xs (i + 1 : Int32).toNatClampNeg) (xs (i + 2 : Int32).toNatClampNeg) (xs (i + 3 : Int32).toNatClampNeg) x y hR
  refine l_aload_n (pc := 848) X rfl dL_law_848 ?_
  refine l_arg (pc := 849) X ic_1 hin1 dL_law_849 dL_law_850 dL_law_851 dL_law_852 dL_law_853 ?_
  refine l_arg (pc := 854) X ic_2 hin2 dL_law_854 dL_law_855 dL_law_856 dL_law_857 dL_law_858 ?_
  refine l_arg (pc := 859) X ic_3 hin3 dL_law_859 dL_law_860 dL_law_861 dL_law_862 dL_law_863 ?_
  refine l_callX (pc := 864) (As := [.int (xs (i + 1 : Int32).toNatClampNeg), .int (xs (i + 2 : Int32).toNatClampNeg), .int (xs (i + 3 : Int32).toNatClampNeg)]) (st := []) X lk_RL_114 (c_X9_frame l D cy _ fu _ _ _ _) h1 rfl rfl rfl ⟨by decide, by decide⟩ (Nat.le_of_ble_eq_true rfl) dL_law_864 ?_
  refine l_aload_n (pc := 867) X rfl dL_law_867 ?_
  refine l_arg (pc := 868) X ic_1 hin1 dL_law_868 dL_law_869 dL_law_870 dL_law_871 dL_law_872 ?_
  refine l_arg (pc := 873) X ic_2 hin2 dL_law_873 dL_law_874 dL_law_875 dL_law_876 dL_law_877 ?_
  refine l_arg (pc := 878) X ic_3 hin3 dL_law_878 dL_law_879 dL_law_880 dL_law_881 dL_law_882 ?_
  refine l_callM (pc := 883) (As := [.int (xs (i + 1 : Int32).toNatClampNeg), .int (xs (i + 2 : Int32).toNatClampNeg), .int (xs (i + 3 : Int32).toNatClampNeg)]) (st := [.int r]) X lk_RL_117 (c_X10_frame l D cy _ fu _ _ _ _) h2 rfl rfl rfl ⟨by decide, by decide⟩ (Nat.le_of_ble_eq_true rfl) dL_law_883 ?_
  refine l_icmp_eq (pc := 886) X 937 rfl dL_law_886 ?_
  exact kk x' y' h3
set_option maxRecDepth 100000 in
set_option maxHeartbeats 4000000 in
theorem lc_wires {p : Program} {l : Launch} {e : Env} {s : State} {m : MethodId} {below : List Frame} {meth : Method} {c : Code} {D : va_G} {cy : ClassId} {adX adM : Nat → Nat} {b L : Nat} {xs : Nat → Int32} {nc ns fu : Nat} {Rel : Mem → Mem → Prop} (S_ : St_wires fu Rel) {i : Int32} {x y : Mem} (X : LX p s m meth c D cy adX adM b L xs nc ns) (hin1 : vp_in (i + 1) L) (hin2 : vp_in (i + 2) L) (hin3 : vp_in (i + 3) L) (hin4 : vp_in (i + 4) L) (hin5 : vp_in (i + 5) L) (hR : Rel x y)
    (kk : ∀ x' y', Rel x' y' → LSm p l e s m below meth c D cy adX adM b nc ns 937 [some (.ref b), some (.ref (adX 0)), some (.ref (adM 0)), some (.int i)] [] x' y') : LSm p l e s m below meth c D cy adX adM b nc ns 891 [some (.ref b), some (.ref (adX 0)), some (.ref (adM 0)), some (.int i)] [] x y := by
  obtain ⟨r, x', y', h1, h2, h3⟩ := S_ (xs (i + 1 : Int32).toNatClampNeg) x y hR
  refine l_aload_n (pc := 891) X rfl dL_law_891 ?_
  refine l_arg (pc := 892) X ic_1 hin1 dL_law_892 dL_law_893 dL_law_894 dL_law_895 dL_law_896 ?_
  refine l_callX (pc := 897) (As := [.int (xs (i + 1 : Int32).toNatClampNeg)]) (st := []) X lk_RL_118 (c_X9_wires l D cy _ fu _ _) h1 rfl rfl rfl ⟨by decide, by decide⟩ (Nat.le_of_ble_eq_true rfl) dL_law_897 ?_
  refine l_aload_n (pc := 900) X rfl dL_law_900 ?_
  refine l_arg (pc := 901) X ic_1 hin1 dL_law_901 dL_law_902 dL_law_903 dL_law_904 dL_law_905 ?_
  refine l_callM (pc := 906) (As := [.int (xs (i + 1 : Int32).toNatClampNeg)]) (st := [.int r]) X lk_RL_121 (c_X10_wires l D cy _ fu _ _) h2 rfl rfl rfl ⟨by decide, by decide⟩ (Nat.le_of_ble_eq_true rfl) dL_law_906 ?_
  refine l_icmp_eq (pc := 909) X 937 rfl dL_law_909 ?_
  exact kk x' y' h3
set_option maxRecDepth 100000 in
set_option maxHeartbeats 4000000 in
theorem lc_count {p : Program} {l : Launch} {e : Env} {s : State} {m : MethodId} {below : List Frame} {meth : Method} {c : Code} {D : va_G} {cy : ClassId} {adX adM : Nat → Nat} {b L : Nat} {xs : Nat → Int32} {nc ns fu : Nat} {Rel : Mem → Mem → Prop} (S_ : St_count fu Rel) {i : Int32} {x y : Mem} (X : LX p s m meth c D cy adX adM b L xs nc ns) (hin1 : vp_in (i + 1) L) (hin2 : vp_in (i + 2) L) (hin3 : vp_in (i + 3) L) (hin4 : vp_in (i + 4) L) (hin5 : vp_in (i + 5) L) (hR : Rel x y)
    (kk : ∀ x' y', Rel x' y' → LSm p l e s m below meth c D cy adX adM b nc ns 937 [some (.ref b), some (.ref (adX 0)), some (.ref (adM 0)), some (.int i)] [] x' y') : LSm p l e s m below meth c D cy adX adM b nc ns 914 [some (.ref b), some (.ref (adX 0)), some (.ref (adM 0)), some (.int i)] [] x y := by
  obtain ⟨r, x', y', h1, h2, h3⟩ := S_ (xs (i + 1 : Int32).toNatClampNeg) x y hR
  refine l_aload_n (pc := 914) X rfl dL_law_914 ?_
  refine l_arg (pc := 915) X ic_1 hin1 dL_law_915 dL_law_916 dL_law_917 dL_law_918 dL_law_919 ?_
  refine l_callX (pc := 920) (As := [.int (xs (i + 1 : Int32).toNatClampNeg)]) (st := []) X lk_RL_122 (c_X9_count l D cy _ fu _ _) h1 rfl rfl rfl ⟨by decide, by decide⟩ (Nat.le_of_ble_eq_true rfl) dL_law_920 ?_
  refine l_aload_n (pc := 923) X rfl dL_law_923 ?_
  refine l_arg (pc := 924) X ic_1 hin1 dL_law_924 dL_law_925 dL_law_926 dL_law_927 dL_law_928 ?_
  refine l_callM (pc := 929) (As := [.int (xs (i + 1 : Int32).toNatClampNeg)]) (st := [.int r]) X lk_RL_125 (c_X10_count l D cy _ fu _ _) h2 rfl rfl rfl ⟨by decide, by decide⟩ (Nat.le_of_ble_eq_true rfl) dL_law_929 ?_
  refine l_icmp_eq (pc := 932) X 937 rfl dL_law_932 ?_
  exact kk x' y' h3
set_option maxRecDepth 100000 in
set_option maxHeartbeats 4000000 in
theorem law_loop {p : Program} {l : Launch} {e : Env} {s : State} {m : MethodId} {below : List Frame} {meth : Method} {c : Code} {D : va_G} {cy : ClassId} {adX adM : Nat → Nat} {b L : Nat} {xs : Nat → Int32} {nc ns fu : Nat} {Rel : Mem → Mem → Prop} (S_crank : St_crank fu Rel) (S_bell : St_bell fu Rel) (S_heat : St_heat fu Rel) (S_pull : St_pull fu Rel) (S_cross : St_cross fu Rel) (S_uncross : St_uncross fu Rel) (S_force : St_force fu Rel) (S_would : St_would fu Rel) (S_means : St_means fu Rel) (S_servant : St_servant fu Rel) (S_ring : St_ring fu Rel) (S_ticks : St_ticks fu Rel) (S_takeBack : St_takeBack fu Rel) (S_flags : St_flags fu Rel) (S_about : St_about fu Rel) (S_servantTold : St_servantTold fu Rel) (S_way : St_way fu Rel) (S_swings : St_swings fu Rel) (S_share : St_share fu Rel) (S_send : St_send fu Rel) (S_test : St_test fu Rel) (S_noTests : St_noTests fu Rel) (S_fault : St_fault fu Rel) (S_nextTest : St_nextTest fu Rel) (S_frame : St_frame fu Rel) (S_wires : St_wires fu Rel) (S_count : St_count fu Rel) (hL : L ≤ 3072) (X : LX p s m meth c D cy adX adM b L xs nc ns) :
    ∀ (n j : Nat), L ≤ j + n → j ≤ L + 6 → ∀ (i : Int32) (x y : Mem), i = nI j → Rel x y → LSm p l e s m below meth c D cy adX adM b nc ns 18 [some (.ref b), some (.ref (adX 0)), some (.ref (adM 0)), some (.int i)] [] x y := by
  have hsub : (nI L - 6).toInt = (L : Int) - 6 := pk_sub_toInt (a := L) (b := 6) (by omega) (by omega)
  have exit : ∀ (i : Int32) (x y : Mem), LSm p l e s m below meth c D cy adX adM b nc ns 943 [some (.ref b), some (.ref (adX 0)), some (.ref (adM 0)), some (.int i)] [] x y := by
    intro i x y
    refine l_iconst (pc := 943) X ic_1 dL_law_943 ?_
    exact l_ret X dL_law_944
  have head : ∀ (j : Nat), j ≤ L + 6 → ∀ (i : Int32) (x y : Mem), i = nI j → (j + 6 ≤ L → LSm p l e s m below meth c D cy adX adM b nc ns 27 [some (.ref b), some (.ref (adX 0)), some (.ref (adM 0)), some (.int i)] [] x y) → LSm p l e s m below meth c D cy adX adM b nc ns 18 [some (.ref b), some (.ref (adX 0)), some (.ref (adM 0)), some (.int i)] [] x y := by
    intro j hj i x y hi hgo
    refine l_iload_n (pc := 18) X rfl dL_law_18 ?_
    refine l_aload_n (pc := 19) X rfl dL_law_19 ?_
    refine l_alen (pc := 20) X dL_law_20 ?_
    refine l_bipush (pc := 21) X bp_6 dL_law_21 ?_
    refine l_isub (pc := 23) X dL_law_23 ?_
    refine l_icmp_gt (pc := 24) X 943 rfl dL_law_24 (fun _ => exit i x y) (fun h => ?_)
    refine hgo ?_
    rw [Int32.lt_iff_toInt_lt, hsub, hi, nI_toInt (by omega)] at h
    omega
  intro n
  induction n with
  | zero =>
    intro j h1 h2 i x y hi hR
    exact head j h2 i x y hi (fun h => absurd h (by omega))
  | succ n ih =>
    intro j h1 h2 i x y hi hR
    refine head j h2 i x y hi (fun h => ?_)
    have hinc : ∀ k : Nat, k < 6 → vp_in (i + nI k) L := fun k hk => by rw [hi, nI_add]; exact vp_in_nI (by omega) (by omega)
    have hin0 : vp_in i L := by rw [hi]; exact vp_in_nI (by omega) (by omega)
    have next : ∀ (x y : Mem), Rel x y → LSm p l e s m below meth c D cy adX adM b nc ns 937 [some (.ref b), some (.ref (adX 0)), some (.ref (adM 0)), some (.int i)] [] x y := by
      intro x y hR
      refine l_iinc (pc := 937) X [some (.ref b), some (.ref (adX 0)), some (.ref (adM 0)), some (.int (i + 6))] rfl (by decide) rfl ic_6 dL_law_937 ?_
      refine l_goto (pc := 940) X 18 rfl dL_law_940 ?_
      exact ih (j + 6) (by omega) (by omega) (i + 6) x y (by rw [hi]; exact nI_add j 6) hR
    refine l_aload_n (pc := 27) X rfl dL_law_27 ?_
    refine l_iload_n (pc := 28) X rfl dL_law_28 ?_
    refine l_sld (pc := 29) X hin0 dL_law_29 ?_
    refine l_bipush (pc := 30) X bp_31 dL_law_30 ?_
    refine l_iand (pc := 32) X dL_law_32 ?_
    generalize (xs i.toNatClampNeg) &&& (31 : Int32) = v
    by_cases e_0 : v = 0
    · refine l_tabI (pc := 33) X 156 (by rw [e_0]; decide) (by rw [e_0]; decide) (by rw [e_0]; rfl) rfl dL_law_33 ?_
      exact lc_crank S_crank X (hinc 1 (by decide)) (hinc 2 (by decide)) (hinc 3 (by decide)) (hinc 4 (by decide)) (hinc 5 (by decide)) hR next
    by_cases e_1 : v = 1
    · refine l_tabI (pc := 33) X 189 (by rw [e_1]; decide) (by rw [e_1]; decide) (by rw [e_1]; rfl) rfl dL_law_33 ?_
      exact lc_bell S_bell X (hinc 1 (by decide)) (hinc 2 (by decide)) (hinc 3 (by decide)) (hinc 4 (by decide)) (hinc 5 (by decide)) hR next
    by_cases e_2 : v = 2
    · refine l_tabI (pc := 33) X 232 (by rw [e_2]; decide) (by rw [e_2]; decide) (by rw [e_2]; rfl) rfl dL_law_33 ?_
      exact lc_heat S_heat X (hinc 1 (by decide)) (hinc 2 (by decide)) (hinc 3 (by decide)) (hinc 4 (by decide)) (hinc 5 (by decide)) hR next
    by_cases e_3 : v = 3
    · refine l_tabI (pc := 33) X 255 (by rw [e_3]; decide) (by rw [e_3]; decide) (by rw [e_3]; rfl) rfl dL_law_33 ?_
      exact lc_pull S_pull X (hinc 1 (by decide)) (hinc 2 (by decide)) (hinc 3 (by decide)) (hinc 4 (by decide)) (hinc 5 (by decide)) hR next
    by_cases e_4 : v = 4
    · refine l_tabI (pc := 33) X 318 (by rw [e_4]; decide) (by rw [e_4]; decide) (by rw [e_4]; rfl) rfl dL_law_33 ?_
      exact lc_cross S_cross X (hinc 1 (by decide)) (hinc 2 (by decide)) (hinc 3 (by decide)) (hinc 4 (by decide)) (hinc 5 (by decide)) hR next
    by_cases e_5 : v = 5
    · refine l_tabI (pc := 33) X 351 (by rw [e_5]; decide) (by rw [e_5]; decide) (by rw [e_5]; rfl) rfl dL_law_33 ?_
      exact lc_uncross S_uncross X (hinc 1 (by decide)) (hinc 2 (by decide)) (hinc 3 (by decide)) (hinc 4 (by decide)) (hinc 5 (by decide)) hR next
    by_cases e_6 : v = 6
    · refine l_tabI (pc := 33) X 364 (by rw [e_6]; decide) (by rw [e_6]; decide) (by rw [e_6]; rfl) rfl dL_law_33 ?_
      exact lc_force S_force X (hinc 1 (by decide)) (hinc 2 (by decide)) (hinc 3 (by decide)) (hinc 4 (by decide)) (hinc 5 (by decide)) hR next
    by_cases e_7 : v = 7
    · refine l_tabI (pc := 33) X 387 (by rw [e_7]; decide) (by rw [e_7]; decide) (by rw [e_7]; rfl) rfl dL_law_33 ?_
      exact lc_would S_would X (hinc 1 (by decide)) (hinc 2 (by decide)) (hinc 3 (by decide)) (hinc 4 (by decide)) (hinc 5 (by decide)) hR next
    by_cases e_8 : v = 8
    · refine l_tabI (pc := 33) X 420 (by rw [e_8]; decide) (by rw [e_8]; decide) (by rw [e_8]; rfl) rfl dL_law_33 ?_
      exact lc_means S_means X (hinc 1 (by decide)) (hinc 2 (by decide)) (hinc 3 (by decide)) (hinc 4 (by decide)) (hinc 5 (by decide)) hR next
    by_cases e_9 : v = 9
    · refine l_tabI (pc := 33) X 463 (by rw [e_9]; decide) (by rw [e_9]; decide) (by rw [e_9]; rfl) rfl dL_law_33 ?_
      exact lc_servant S_servant X (hinc 1 (by decide)) (hinc 2 (by decide)) (hinc 3 (by decide)) (hinc 4 (by decide)) (hinc 5 (by decide)) hR next
    by_cases e_10 : v = 10
    · refine l_tabI (pc := 33) X 506 (by rw [e_10]; decide) (by rw [e_10]; decide) (by rw [e_10]; rfl) rfl dL_law_33 ?_
      exact lc_ring S_ring X (hinc 1 (by decide)) (hinc 2 (by decide)) (hinc 3 (by decide)) (hinc 4 (by decide)) (hinc 5 (by decide)) hR next
    by_cases e_11 : v = 11
    · refine l_tabI (pc := 33) X 529 (by rw [e_11]; decide) (by rw [e_11]; decide) (by rw [e_11]; rfl) rfl dL_law_33 ?_
      exact lc_ticks S_ticks X (hinc 1 (by decide)) (hinc 2 (by decide)) (hinc 3 (by decide)) (hinc 4 (by decide)) (hinc 5 (by decide)) hR next
    by_cases e_12 : v = 12
    · refine l_tabI (pc := 33) X 552 (by rw [e_12]; decide) (by rw [e_12]; decide) (by rw [e_12]; rfl) rfl dL_law_33 ?_
      exact lc_takeBack S_takeBack X (hinc 1 (by decide)) (hinc 2 (by decide)) (hinc 3 (by decide)) (hinc 4 (by decide)) (hinc 5 (by decide)) hR next
    by_cases e_13 : v = 13
    · refine l_tabI (pc := 33) X 575 (by rw [e_13]; decide) (by rw [e_13]; decide) (by rw [e_13]; rfl) rfl dL_law_33 ?_
      exact lc_flags S_flags X (hinc 1 (by decide)) (hinc 2 (by decide)) (hinc 3 (by decide)) (hinc 4 (by decide)) (hinc 5 (by decide)) hR next
    by_cases e_14 : v = 14
    · refine l_tabI (pc := 33) X 598 (by rw [e_14]; decide) (by rw [e_14]; decide) (by rw [e_14]; rfl) rfl dL_law_33 ?_
      exact lc_about S_about X (hinc 1 (by decide)) (hinc 2 (by decide)) (hinc 3 (by decide)) (hinc 4 (by decide)) (hinc 5 (by decide)) hR next
    by_cases e_15 : v = 15
    · refine l_tabI (pc := 33) X 631 (by rw [e_15]; decide) (by rw [e_15]; decide) (by rw [e_15]; rfl) rfl dL_law_33 ?_
      exact lc_servantTold S_servantTold X (hinc 1 (by decide)) (hinc 2 (by decide)) (hinc 3 (by decide)) (hinc 4 (by decide)) (hinc 5 (by decide)) hR next
    by_cases e_16 : v = 16
    · refine l_tabI (pc := 33) X 664 (by rw [e_16]; decide) (by rw [e_16]; decide) (by rw [e_16]; rfl) rfl dL_law_33 ?_
      exact lc_way S_way X (hinc 1 (by decide)) (hinc 2 (by decide)) (hinc 3 (by decide)) (hinc 4 (by decide)) (hinc 5 (by decide)) hR next
    by_cases e_17 : v = 17
    · refine l_tabI (pc := 33) X 697 (by rw [e_17]; decide) (by rw [e_17]; decide) (by rw [e_17]; rfl) rfl dL_law_33 ?_
      exact lc_swings S_swings X (hinc 1 (by decide)) (hinc 2 (by decide)) (hinc 3 (by decide)) (hinc 4 (by decide)) (hinc 5 (by decide)) hR next
    by_cases e_18 : v = 18
    · refine l_tabI (pc := 33) X 720 (by rw [e_18]; decide) (by rw [e_18]; decide) (by rw [e_18]; rfl) rfl dL_law_33 ?_
      exact lc_share S_share X (hinc 1 (by decide)) (hinc 2 (by decide)) (hinc 3 (by decide)) (hinc 4 (by decide)) (hinc 5 (by decide)) hR next
    by_cases e_19 : v = 19
    · refine l_tabI (pc := 33) X 743 (by rw [e_19]; decide) (by rw [e_19]; decide) (by rw [e_19]; rfl) rfl dL_law_33 ?_
      exact lc_send S_send X (hinc 1 (by decide)) (hinc 2 (by decide)) (hinc 3 (by decide)) (hinc 4 (by decide)) (hinc 5 (by decide)) hR next
    by_cases e_20 : v = 20
    · refine l_tabI (pc := 33) X 756 (by rw [e_20]; decide) (by rw [e_20]; decide) (by rw [e_20]; rfl) rfl dL_law_33 ?_
      exact lc_test S_test X (hinc 1 (by decide)) (hinc 2 (by decide)) (hinc 3 (by decide)) (hinc 4 (by decide)) (hinc 5 (by decide)) hR next
    by_cases e_21 : v = 21
    · refine l_tabI (pc := 33) X 799 (by rw [e_21]; decide) (by rw [e_21]; decide) (by rw [e_21]; rfl) rfl dL_law_33 ?_
      exact lc_noTests S_noTests X (hinc 1 (by decide)) (hinc 2 (by decide)) (hinc 3 (by decide)) (hinc 4 (by decide)) (hinc 5 (by decide)) hR next
    by_cases e_22 : v = 22
    · refine l_tabI (pc := 33) X 812 (by rw [e_22]; decide) (by rw [e_22]; decide) (by rw [e_22]; rfl) rfl dL_law_33 ?_
      exact lc_fault S_fault X (hinc 1 (by decide)) (hinc 2 (by decide)) (hinc 3 (by decide)) (hinc 4 (by decide)) (hinc 5 (by decide)) hR next
    by_cases e_23 : v = 23
    · refine l_tabI (pc := 33) X 835 (by rw [e_23]; decide) (by rw [e_23]; decide) (by rw [e_23]; rfl) rfl dL_law_33 ?_
      exact lc_nextTest S_nextTest X (hinc 1 (by decide)) (hinc 2 (by decide)) (hinc 3 (by decide)) (hinc 4 (by decide)) (hinc 5 (by decide)) hR next
    by_cases e_24 : v = 24
    · refine l_tabI (pc := 33) X 848 (by rw [e_24]; decide) (by rw [e_24]; decide) (by rw [e_24]; rfl) rfl dL_law_33 ?_
      exact lc_frame S_frame X (hinc 1 (by decide)) (hinc 2 (by decide)) (hinc 3 (by decide)) (hinc 4 (by decide)) (hinc 5 (by decide)) hR next
    by_cases e_25 : v = 25
    · refine l_tabI (pc := 33) X 891 (by rw [e_25]; decide) (by rw [e_25]; decide) (by rw [e_25]; rfl) rfl dL_law_33 ?_
      exact lc_wires S_wires X (hinc 1 (by decide)) (hinc 2 (by decide)) (hinc 3 (by decide)) (hinc 4 (by decide)) (hinc 5 (by decide)) hR next
    by_cases e_26 : v = 26
    · refine l_tabI (pc := 33) X 914 (by rw [e_26]; decide) (by rw [e_26]; decide) (by rw [e_26]; rfl) rfl dL_law_33 ?_
      exact lc_count S_count X (hinc 1 (by decide)) (hinc 2 (by decide)) (hinc 3 (by decide)) (hinc 4 (by decide)) (hinc 5 (by decide)) hR next
    have hT : (v : Int32).toInt < (0 : Int) ∨ (26 : Int) < (v : Int32).toInt := tabO _ 26 (by decide) (fun k hk => by rcases (show k = 0 ∨ k = 1 ∨ k = 2 ∨ k = 3 ∨ k = 4 ∨ k = 5 ∨ k = 6 ∨ k = 7 ∨ k = 8 ∨ k = 9 ∨ k = 10 ∨ k = 11 ∨ k = 12 ∨ k = 13 ∨ k = 14 ∨ k = 15 ∨ k = 16 ∨ k = 17 ∨ k = 18 ∨ k = 19 ∨ k = 20 ∨ k = 21 ∨ k = 22 ∨ k = 23 ∨ k = 24 ∨ k = 25 ∨ k = 26 by omega) with rfl | rfl | rfl | rfl | rfl | rfl | rfl | rfl | rfl | rfl | rfl | rfl | rfl | rfl | rfl | rfl | rfl | rfl | rfl | rfl | rfl | rfl | rfl | rfl | rfl | rfl | rfl <;> first | exact e_0 | exact e_1 | exact e_2 | exact e_3 | exact e_4 | exact e_5 | exact e_6 | exact e_7 | exact e_8 | exact e_9 | exact e_10 | exact e_11 | exact e_12 | exact e_13 | exact e_14 | exact e_15 | exact e_16 | exact e_17 | exact e_18 | exact e_19 | exact e_20 | exact e_21 | exact e_22 | exact e_23 | exact e_24 | exact e_25 | exact e_26)
    refine l_tabO (pc := 33) X 937 hT rfl dL_law_33 ?_
    exact next x y hR
def x0 (z : Mem) : Mem := fun a => match a with
  | 8 => z 0
  | 33 => z 1
  | 34 => z 2
  | _ => fun _ => 0
def y0 : Mem := fun a => match a with
  | 11 => upd (upd (upd (upd (upd (upd (upd (upd (upd (upd (upd (upd (fun _ => 0) 0 (-1)) 1 (-1)) 2 (-1)) 3 (-1)) 4 (-1)) 5 (-1)) 6 (-1)) 7 (-1)) 8 (-1)) 9 (-1)) 10 (-1)) 11 (-1)
  | 18 => upd (upd (upd (upd (upd (fun _ => 0) 0 (-4)) 1 (-4)) 2 (-4)) 3 (-4)) 4 (-4)
  | _ => fun _ => 0
set_option maxRecDepth 100000 in
set_option maxHeartbeats 8000000 in
theorem whole_start_of {p : Program} {e : Env} {s : State} {m : MethodId} {below : List Frame} {meth : Method} {c : Code} (l : Launch) {b L fu : Nat} {xs : Nat → Int32} {Rel : Mem → Mem → Prop} {r : Int32} {z : Mem} (hT : F_X2F_takeAll fu (fun _ _ => 0) = some (r, z)) (hR0 : Rel (x0 z) y0) (S_crank : St_crank fu Rel) (S_bell : St_bell fu Rel) (S_heat : St_heat fu Rel) (S_pull : St_pull fu Rel) (S_cross : St_cross fu Rel) (S_uncross : St_uncross fu Rel) (S_force : St_force fu Rel) (S_would : St_would fu Rel) (S_means : St_means fu Rel) (S_servant : St_servant fu Rel) (S_ring : St_ring fu Rel) (S_ticks : St_ticks fu Rel) (S_takeBack : St_takeBack fu Rel) (S_flags : St_flags fu Rel) (S_about : St_about fu Rel) (S_servantTold : St_servantTold fu Rel) (S_way : St_way fu Rel) (S_swings : St_swings fu Rel) (S_share : St_share fu Rel) (S_send : St_send fu Rel) (S_test : St_test fu Rel) (S_noTests : St_noTests fu Rel) (S_fault : St_fault fu Rel) (S_nextTest : St_nextTest fu Rel) (S_frame : St_frame fu Rel) (S_wires : St_wires fu Rel) (S_count : St_count fu Rel) (hL : L ≤ 3072) (C0 : lw_At p s m meth c b L xs) : W p l e room_1 s m #[Value.ref b] below meth c s.heap [] 0 0 (lw_Z below #[Value.ref b] s) (entryFrame m ([Value.ref b] : List Value).toArray 4) := by
  obtain ⟨hx, hb, hr, hml, hown, hts, hX, hbl, hlocks, hgv⟩ := id C0
  have htg : ∀ w ∈ tg, w.before #[Value.ref b] s = true := fun w hw => hts w (List.mem_filter.mp hw).1
  obtain ⟨c0, iS0, hKn0⟩ := u_known (C := RX0) (T := TX0) (N := 3) (n := 3) htg inT_X0 (htg (.instantiable RX0 3) (mem_tg 112 (by decide +kernel) (by decide +kernel)))
  obtain ⟨c1, iS1, hKn1⟩ := u_known (C := RX1) (T := TX1) (N := 7) (n := 7) htg inT_X1 (htg (.instantiable RX1 7) (mem_tg 201 (by decide +kernel) (by decide +kernel)))
  obtain ⟨c2, iS2, hKn2⟩ := u_known (C := RX2) (T := TX2) (N := 5) (n := 5) htg inT_X2 (htg (.instantiable RX2 5) (mem_tg 292 (by decide +kernel) (by decide +kernel)))
  obtain ⟨c3, iS3, hKn3⟩ := u_known (C := RX3) (T := TX3) (N := 4) (n := 4) htg inT_X3 (htg (.instantiable RX3 4) (mem_tg 321 (by decide +kernel) (by decide +kernel)))
  obtain ⟨c4, iS4, hKn4⟩ := u_known (C := RX4) (T := TX4) (N := 6) (n := 6) htg inT_X4 (htg (.instantiable RX4 6) (mem_tg 69 (by decide +kernel) (by decide +kernel)))
  obtain ⟨c5, iS5, hKn5⟩ := u_known (C := RX5) (T := TX5) (N := 7) (n := 7) htg inT_X5 (htg (.instantiable RX5 7) (mem_tg 160 (by decide +kernel) (by decide +kernel)))
  obtain ⟨c6, iS6, hKn6⟩ := u_known (C := RX6) (T := TX6) (N := 4) (n := 4) htg inT_X6 (htg (.instantiable RX6 4) (mem_tg 237 (by decide +kernel) (by decide +kernel)))
  obtain ⟨c7, iS7, hKn7⟩ := u_known (C := RX7) (T := TX7) (N := 8) (n := 8) htg inT_X7 (htg (.instantiable RX7 8) (mem_tg 257 (by decide +kernel) (by decide +kernel)))
  obtain ⟨c8, iS8, hKn8⟩ := u_known (C := RX8) (T := TX8) (N := 7) (n := 7) htg inT_X8 (htg (.instantiable RX8 7) (mem_tg 130 (by decide +kernel) (by decide +kernel)))
  obtain ⟨c9, iS9, hKn9⟩ := u_known (C := RX9) (T := TX9) (N := 9) (n := 9) htg inT_X9 (htg (.instantiable RX9 9) (mem_tg 61 (by decide +kernel) (by decide +kernel)))
  obtain ⟨c10, iS10, hKn10⟩ := u_known (C := RX10) (T := TX10) (N := 37) (n := 37) htg inT_X10 (htg (.instantiable RX10 37) (mem_tg 760 (by decide +kernel) (by decide +kernel)))
  obtain ⟨dC, dI, hKc⟩ : ∃ (dC : Nat → ClassId) (dI : Nat → Nat → Nat), ∀ (k : Nat) (q : vw_C), vwCl[k]? = some q → u_Kn s q.1 q.2.1 q.2.2 (dC k) (dI k) := by
    refine ⟨fun k => match k with | 0 => c0 | 1 => c1 | 2 => c2 | 3 => c3 | 4 => c4 | 5 => c5 | 6 => c6 | 7 => c7 | 8 => c8 | 9 => c9 | _ => c10, fun k => match k with | 0 => iS0 | 1 => iS1 | 2 => iS2 | 3 => iS3 | 4 => iS4 | 5 => iS5 | 6 => iS6 | 7 => iS7 | 8 => iS8 | 9 => iS9 | _ => iS10, ?_⟩
    intro k q hq
    match k, hq with
    | 0, hq => cases hq; exact hKn0
    | 1, hq => cases hq; exact hKn1
    | 2, hq => cases hq; exact hKn2
    | 3, hq => cases hq; exact hKn3
    | 4, hq => cases hq; exact hKn4
    | 5, hq => cases hq; exact hKn5
    | 6, hq => cases hq; exact hKn6
    | 7, hq => cases hq; exact hKn7
    | 8, hq => cases hq; exact hKn8
    | 9, hq => cases hq; exact hKn9
    | 10, hq => cases hq; exact hKn10
    | k + 11, hq => simp [vwCl] at hq
  obtain ⟨cy, kA, comp, hf1, hf2, hf3⟩ := Cond.arrayClass_spec (htg (.arrayClass .int) arrW)
  have hKK : KK (dC, dI) cy s := by
    refine ⟨⟨hKc, fun k q h => ?_⟩, fun w hw => ?_⟩
    · match k, h with
      | 0, h => cases h; exact ⟨fun n z => ⟨fun k h => (by cases h), kA, hf2, comp, hf3⟩, hf1⟩
      | k + 1, h => simp at h
    · have h1 := hts w (List.mem_filter.mp hw).1
      obtain ⟨a, i, y, d, rfl⟩ := nestW_form hw
      exact va_Nw.of rfl h1
  have CXl : CX p s m #[Value.ref b] meth c RL code 4 (dC, dI) cy (lA s) := ⟨⟨hx, hb, hml, hown, htg⟩, hKK, fun q h => h⟩
  have hl := lv_entry ([.ref b]) (n := 4) (Nat.le_of_ble_eq_true rfl)
  rw [lg_entry_eq]
  have hLV : LVh ((lg_sl ([.ref b]) ++ List.replicate (4 - (lg_sl ([.ref b])).length) Slot.unset).toArray) 4 [some (.ref b), none, none, none] := by
    refine ⟨hl, fun k v hk => ?_⟩
    match k, hk with
    | 0, hk => cases hk; rfl
    | 1, hk => cases hk
    | 2, hk => cases hk
    | 3, hk => cases hk
    | k + 4, hk => simp at hk
  have main : Cn p l e room_1 s m #[Value.ref b] below meth c 4 (dC, dI) (lA s) (lw_Z below #[Value.ref b] s) 0 [some (.ref b), none, none, none] [] [] 0 0 := by
    refine n_new (pc := 0) CXl nw_RL_7 (by decide) (by decide) dL_law_0 (fun a0 => ?_)
    refine n_dup (pc := 3) CXl rfl dL_law_3 ?_
    refine n_callI (pc := 4) (As := []) (st := [.ref a0]) (wr := []) CXl lki_RL_9 (n_X9 l (dC, dI) cy fu hT a0) rfl rfl ⟨by decide, by decide⟩ ⟨by decide, by decide⟩ (Nat.le_of_ble_eq_true rfl) dL_law_4 [0] [] rfl rfl (by decide) (by decide) (by decide) (fun q => ?_)
    refine n_astore_n (pc := 7) CXl [some (.ref b), some (.ref a0), none, none] rfl (by decide) dL_law_7 ?_
    refine n_new (pc := 8) CXl nw_RL_10 (by decide) (by decide) dL_law_8 (fun b0 => ?_)
    refine n_dup (pc := 11) CXl rfl dL_law_11 ?_
    refine n_callI (pc := 12) (As := []) (st := [.ref b0]) (wr := wN_X9 cy z a0 q) CXl lki_RL_12 (n_X10 l (dC, dI) cy b0) rfl rfl ⟨by decide, by decide⟩ ⟨by decide, by decide⟩ (Nat.le_of_ble_eq_true rfl) dL_law_12 [39] [0, 1, 2, 3, 4, 5, 6, 7, 8, 9, 10, 11, 12, 13, 14, 15, 16, 17, 18, 19, 20, 21, 22, 23, 24, 25, 26, 27, 28, 29, 30, 31, 32, 33, 34, 35, 36, 37, 38] rfl rfl (by decide) (by decide) (by decide) (fun q' => ?_)
    refine n_astore_n (pc := 15) CXl [some (.ref b), some (.ref a0), some (.ref b0), none] rfl (by decide) dL_law_15 ?_
    refine n_iconst (pc := 16) CXl ic_0 dL_law_16 ?_
    refine n_istore_n (pc := 17) CXl [some (.ref b), some (.ref a0), some (.ref b0), some (.int 0)] rfl (by decide) dL_law_17 ?_
    intro H locs ls hLs hP hD hS
    obtain ⟨adX, hadX⟩ : ∃ f : Nat → Nat, f = fun k => ([a0, (q 0), (q 6), (q 9), (q 12), (q 19), (q 25), (q 26), (q 30), (q 33), (q 1), (q 2), (q 3), (q 4), (q 5), (q 7), (q 8), (q 10), (q 11), (q 13), (q 14), (q 15), (q 16), (q 17), (q 18), (q 20), (q 21), (q 22), (q 23), (q 24), (q 27), (q 28), (q 29), (q 31), (q 32), (q 34), (q 35), (q 36), (q 37)] : List Nat).getD k 0 := ⟨_, rfl⟩
    obtain ⟨adM, hadM⟩ : ∃ f : Nat → Nat, f = fun k => ([b0, (q' 0), (q' 1), (q' 2), (q' 3), (q' 4), (q' 5), (q' 6), (q' 7), (q' 8), (q' 9), (q' 10), (q' 11), (q' 12), (q' 13), (q' 14), (q' 15), (q' 16), (q' 17), (q' 18), (q' 19), (q' 20), (q' 21), (q' 22), (q' 23), (q' 24), (q' 25), (q' 26)] : List Nat).getD k 0 := ⟨_, rfl⟩
    have hPX : va_P (dC, dI) vwCl (pic cy adX (x0 z) 0 shX) H := by subst hadX; exact hP.sub [0, 1, 7, 10, 13, 20, 26, 27, 31, 34, 2, 3, 4, 5, 6, 8, 9, 11, 12, 14, 15, 16, 17, 18, 19, 21, 22, 23, 24, 25, 28, 29, 30, 32, 33, 35, 36, 37, 38] rfl
    have hPM : va_P (dC, dI) vwCl (pic cy adM y0 0 shM) H := by subst hadM; exact hP.sub [39, 40, 41, 42, 43, 44, 45, 46, 47, 48, 49, 50, 51, 52, 53, 54, 55, 56, 57, 58, 59, 60, 61, 62, 63, 64, 65, 66] rfl
    have hDX : va_D (lA s) (pic cy adX (x0 z) 0 shX) := by subst hadX; exact hD.sub [0, 1, 7, 10, 13, 20, 26, 27, 31, 34, 2, 3, 4, 5, 6, 8, 9, 11, 12, 14, 15, 16, 17, 18, 19, 21, 22, 23, 24, 25, 28, 29, 30, 32, 33, 35, 36, 37, 38] (by decide) rfl
    have hDM : va_D (lA s) (pic cy adM y0 0 shM) := by subst hadM; exact hD.sub [39, 40, 41, 42, 43, 44, 45, 46, 47, 48, 49, 50, 51, 52, 53, 54, 55, 56, 57, 58, 59, 60, 61, 62, 63, 64, 65, 66] (by decide) rfl
    have hwX : ∀ i, i < shX.length → ∃ k e, k < 39 ∧ (wN_X9 cy z a0 q ++ wN_X10 cy b0 q')[k]? = some (adX i, e) := by
      subst hadX
      intro i hi
      have hi : i < 39 := hi
      rcases (show i = 0 ∨ i = 1 ∨ i = 2 ∨ i = 3 ∨ i = 4 ∨ i = 5 ∨ i = 6 ∨ i = 7 ∨ i = 8 ∨ i = 9 ∨ i = 10 ∨ i = 11 ∨ i = 12 ∨ i = 13 ∨ i = 14 ∨ i = 15 ∨ i = 16 ∨ i = 17 ∨ i = 18 ∨ i = 19 ∨ i = 20 ∨ i = 21 ∨ i = 22 ∨ i = 23 ∨ i = 24 ∨ i = 25 ∨ i = 26 ∨ i = 27 ∨ i = 28 ∨ i = 29 ∨ i = 30 ∨ i = 31 ∨ i = 32 ∨ i = 33 ∨ i = 34 ∨ i = 35 ∨ i = 36 ∨ i = 37 ∨ i = 38 by omega) with rfl | rfl | rfl | rfl | rfl | rfl | rfl | rfl | rfl | rfl | rfl | rfl | rfl | rfl | rfl | rfl | rfl | rfl | rfl | rfl | rfl | rfl | rfl | rfl | rfl | rfl | rfl | rfl | rfl | rfl | rfl | rfl | rfl | rfl | rfl | rfl | rfl | rfl | rfl
      · exact ⟨0, _, by decide, rfl⟩
      · exact ⟨1, _, by decide, rfl⟩
      · exact ⟨7, _, by decide, rfl⟩
      · exact ⟨10, _, by decide, rfl⟩
      · exact ⟨13, _, by decide, rfl⟩
      · exact ⟨20, _, by decide, rfl⟩
      · exact ⟨26, _, by decide, rfl⟩
      · exact ⟨27, _, by decide, rfl⟩
      · exact ⟨31, _, by decide, rfl⟩
      · exact ⟨34, _, by decide, rfl⟩
      · exact ⟨2, _, by decide, rfl⟩
      · exact ⟨3, _, by decide, rfl⟩
      · exact ⟨4, _, by decide, rfl⟩
      · exact ⟨5, _, by decide, rfl⟩
      · exact ⟨6, _, by decide, rfl⟩
      · exact ⟨8, _, by decide, rfl⟩
      · exact ⟨9, _, by decide, rfl⟩
      · exact ⟨11, _, by decide, rfl⟩
      · exact ⟨12, _, by decide, rfl⟩
      · exact ⟨14, _, by decide, rfl⟩
      · exact ⟨15, _, by decide, rfl⟩
      · exact ⟨16, _, by decide, rfl⟩
      · exact ⟨17, _, by decide, rfl⟩
      · exact ⟨18, _, by decide, rfl⟩
      · exact ⟨19, _, by decide, rfl⟩
      · exact ⟨21, _, by decide, rfl⟩
      · exact ⟨22, _, by decide, rfl⟩
      · exact ⟨23, _, by decide, rfl⟩
      · exact ⟨24, _, by decide, rfl⟩
      · exact ⟨25, _, by decide, rfl⟩
      · exact ⟨28, _, by decide, rfl⟩
      · exact ⟨29, _, by decide, rfl⟩
      · exact ⟨30, _, by decide, rfl⟩
      · exact ⟨32, _, by decide, rfl⟩
      · exact ⟨33, _, by decide, rfl⟩
      · exact ⟨35, _, by decide, rfl⟩
      · exact ⟨36, _, by decide, rfl⟩
      · exact ⟨37, _, by decide, rfl⟩
      · exact ⟨38, _, by decide, rfl⟩

    have hwM : ∀ j, j < shM.length → ∃ k e, 39 ≤ k ∧ (wN_X9 cy z a0 q ++ wN_X10 cy b0 q')[k]? = some (adM j, e) := by
      subst hadM
      intro i hi
      have hi : i < 28 := hi
      rcases (show i = 0 ∨ i = 1 ∨ i = 2 ∨ i = 3 ∨ i = 4 ∨ i = 5 ∨ i = 6 ∨ i = 7 ∨ i = 8 ∨ i = 9 ∨ i = 10 ∨ i = 11 ∨ i = 12 ∨ i = 13 ∨ i = 14 ∨ i = 15 ∨ i = 16 ∨ i = 17 ∨ i = 18 ∨ i = 19 ∨ i = 20 ∨ i = 21 ∨ i = 22 ∨ i = 23 ∨ i = 24 ∨ i = 25 ∨ i = 26 ∨ i = 27 by omega) with rfl | rfl | rfl | rfl | rfl | rfl | rfl | rfl | rfl | rfl | rfl | rfl | rfl | rfl | rfl | rfl | rfl | rfl | rfl | rfl | rfl | rfl | rfl | rfl | rfl | rfl | rfl | rfl
      · exact ⟨39, _, by decide, rfl⟩
      · exact ⟨40, _, by decide, rfl⟩
      · exact ⟨41, _, by decide, rfl⟩
      · exact ⟨42, _, by decide, rfl⟩
      · exact ⟨43, _, by decide, rfl⟩
      · exact ⟨44, _, by decide, rfl⟩
      · exact ⟨45, _, by decide, rfl⟩
      · exact ⟨46, _, by decide, rfl⟩
      · exact ⟨47, _, by decide, rfl⟩
      · exact ⟨48, _, by decide, rfl⟩
      · exact ⟨49, _, by decide, rfl⟩
      · exact ⟨50, _, by decide, rfl⟩
      · exact ⟨51, _, by decide, rfl⟩
      · exact ⟨52, _, by decide, rfl⟩
      · exact ⟨53, _, by decide, rfl⟩
      · exact ⟨54, _, by decide, rfl⟩
      · exact ⟨55, _, by decide, rfl⟩
      · exact ⟨56, _, by decide, rfl⟩
      · exact ⟨57, _, by decide, rfl⟩
      · exact ⟨58, _, by decide, rfl⟩
      · exact ⟨59, _, by decide, rfl⟩
      · exact ⟨60, _, by decide, rfl⟩
      · exact ⟨61, _, by decide, rfl⟩
      · exact ⟨62, _, by decide, rfl⟩
      · exact ⟨63, _, by decide, rfl⟩
      · exact ⟨64, _, by decide, rfl⟩
      · exact ⟨65, _, by decide, rfl⟩
      · exact ⟨66, _, by decide, rfl⟩

    have hap : ∀ i j, i < shX.length → j < shM.length → adX i ≠ adM j := by
      intro i j hi hj h
      obtain ⟨k, e1, hk, h1⟩ := hwX i hi
      obtain ⟨k', e2, hk', h2⟩ := hwM j hj
      have h3 := hD.1 k k' _ _ h1 h2 h
      omega
    have X : LX p s m meth c (dC, dI) cy adX adM b L xs 67 1957 := ⟨⟨hx, hb, hml, hown, htg⟩, hr, hlocks, hKK, fun w => pic_D _ w hDX, fun w => pic_D _ w hDM, hap, hX, hbl, by decide, by decide⟩
    have e1 : a0 = adX 0 := by subst hadX; rfl
    have e2 : b0 = adM 0 := by subst hadM; rfl
    rw [e1, e2] at hLs
    exact law_loop (fu := fu) (Rel := Rel) S_crank S_bell S_heat S_pull S_cross S_uncross S_force S_would S_means S_servant S_ring S_ticks S_takeBack S_flags S_about S_servantTold S_way S_swings S_share S_send S_test S_noTests S_fault S_nextTest S_frame S_wires S_count hL X L 0 (by omega) (by omega) 0 (x0 z) y0 rfl hR0 H locs ls hLs hPX hPM hS
  exact main s.heap [] _ hLV (fun k q h => by simp at h) ⟨fun i j p q h => by simp at h, fun k q h => by simp at h⟩ va_S.rf

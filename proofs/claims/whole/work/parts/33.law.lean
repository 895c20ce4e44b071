theorem ql424 : Cond.methodLink RL 13 yX10_type ∈ GW := inGW (List.mem_of_getElem? (i := 424) (by decide +kernel)) (by decide +kernel)
theorem ql425 : Cond.instanceMethod yX10_type ∈ GW := inGW (List.mem_of_getElem? (i := 425) (by decide +kernel)) (by decide +kernel)
theorem ql426 : Cond.selects RX10 yX10_type yX10_type ∈ GW := inGW (List.mem_of_getElem? (i := 426) (by decide +kernel)) (by decide +kernel)
theorem ql80 : Cond.initialized RX10 ∈ GW := inGW (List.mem_of_getElem? (i := 80) (by decide +kernel)) (by decide +kernel)
set_option maxRecDepth 30000 in
theorem ql427 : Cond.code yX10_type cX10_type 2 (some .int) ∈ GW := inGW (List.mem_of_getElem? (i := 427) rfl) (by decide +kernel)
theorem ql925 : Cond.methodLink RL 17 yX11_type ∈ GW := inGW (List.mem_of_getElem? (i := 925) (by decide +kernel)) (by decide +kernel)
theorem ql926 : Cond.instanceMethod yX11_type ∈ GW := inGW (List.mem_of_getElem? (i := 926) (by decide +kernel)) (by decide +kernel)
theorem ql927 : Cond.selects RX11 yX11_type yX11_type ∈ GW := inGW (List.mem_of_getElem? (i := 927) (by decide +kernel)) (by decide +kernel)
theorem ql92 : Cond.initialized RX11 ∈ GW := inGW (List.mem_of_getElem? (i := 92) (by decide +kernel)) (by decide +kernel)
set_option maxRecDepth 30000 in
theorem ql928 : Cond.code yX11_type cX11_type 2 (some .int) ∈ GW := inGW (List.mem_of_getElem? (i := 928) rfl) (by decide +kernel)
theorem ql436 : Cond.methodLink RL 18 yX10_clear ∈ GW := inGW (List.mem_of_getElem? (i := 436) (by decide +kernel)) (by decide +kernel)
theorem ql437 : Cond.instanceMethod yX10_clear ∈ GW := inGW (List.mem_of_getElem? (i := 437) (by decide +kernel)) (by decide +kernel)
theorem ql438 : Cond.selects RX10 yX10_clear yX10_clear ∈ GW := inGW (List.mem_of_getElem? (i := 438) (by decide +kernel)) (by decide +kernel)
set_option maxRecDepth 30000 in
theorem ql439 : Cond.code yX10_clear cX10_clear 2 (some .int) ∈ GW := inGW (List.mem_of_getElem? (i := 439) rfl) (by decide +kernel)
theorem ql932 : Cond.methodLink RL 22 yX11_clear ∈ GW := inGW (List.mem_of_getElem? (i := 932) (by decide +kernel)) (by decide +kernel)
theorem ql933 : Cond.instanceMethod yX11_clear ∈ GW := inGW (List.mem_of_getElem? (i := 933) (by decide +kernel)) (by decide +kernel)
theorem ql934 : Cond.selects RX11 yX11_clear yX11_clear ∈ GW := inGW (List.mem_of_getElem? (i := 934) (by decide +kernel)) (by decide +kernel)
set_option maxRecDepth 30000 in
theorem ql935 : Cond.code yX11_clear cX11_clear 2 (some .int) ∈ GW := inGW (List.mem_of_getElem? (i := 935) rfl) (by decide +kernel)
theorem ql440 : Cond.methodLink RL 23 yX10_reads ∈ GW := inGW (List.mem_of_getElem? (i := 440) (by decide +kernel)) (by decide +kernel)
theorem ql441 : Cond.instanceMethod yX10_reads ∈ GW := inGW (List.mem_of_getElem? (i := 441) (by decide +kernel)) (by decide +kernel)
theorem ql442 : Cond.selects RX10 yX10_reads yX10_reads ∈ GW := inGW (List.mem_of_getElem? (i := 442) (by decide +kernel)) (by decide +kernel)
set_option maxRecDepth 30000 in
theorem ql443 : Cond.code yX10_reads cX10_reads 2 (some .int) ∈ GW := inGW (List.mem_of_getElem? (i := 443) rfl) (by decide +kernel)
theorem ql936 : Cond.methodLink RL 26 yX11_reads ∈ GW := inGW (List.mem_of_getElem? (i := 936) (by decide +kernel)) (by decide +kernel)
theorem ql937 : Cond.instanceMethod yX11_reads ∈ GW := inGW (List.mem_of_getElem? (i := 937) (by decide +kernel)) (by decide +kernel)
theorem ql938 : Cond.selects RX11 yX11_reads yX11_reads ∈ GW := inGW (List.mem_of_getElem? (i := 938) (by decide +kernel)) (by decide +kernel)
set_option maxRecDepth 30000 in
theorem ql939 : Cond.code yX11_reads cX11_reads 2 (some .int) ∈ GW := inGW (List.mem_of_getElem? (i := 939) rfl) (by decide +kernel)
theorem ql521 : Cond.methodLink RL 27 yX10_term ∈ GW := inGW (List.mem_of_getElem? (i := 521) (by decide +kernel)) (by decide +kernel)
theorem ql522 : Cond.instanceMethod yX10_term ∈ GW := inGW (List.mem_of_getElem? (i := 522) (by decide +kernel)) (by decide +kernel)
theorem ql523 : Cond.selects RX10 yX10_term yX10_term ∈ GW := inGW (List.mem_of_getElem? (i := 523) (by decide +kernel)) (by decide +kernel)
set_option maxRecDepth 30000 in
theorem ql524 : Cond.code yX10_term cX10_term 1 (some .int) ∈ GW := inGW (List.mem_of_getElem? (i := 524) rfl) (by decide +kernel)
theorem ql990 : Cond.methodLink RL 30 yX11_term ∈ GW := inGW (List.mem_of_getElem? (i := 990) (by decide +kernel)) (by decide +kernel)
theorem ql991 : Cond.instanceMethod yX11_term ∈ GW := inGW (List.mem_of_getElem? (i := 991) (by decide +kernel)) (by decide +kernel)
theorem ql992 : Cond.selects RX11 yX11_term yX11_term ∈ GW := inGW (List.mem_of_getElem? (i := 992) (by decide +kernel)) (by decide +kernel)
set_option maxRecDepth 30000 in
theorem ql993 : Cond.code yX11_term cX11_term 2 (some .int) ∈ GW := inGW (List.mem_of_getElem? (i := 993) rfl) (by decide +kernel)
theorem ql530 : Cond.methodLink RL 31 yX10_drops ∈ GW := inGW (List.mem_of_getElem? (i := 530) (by decide +kernel)) (by decide +kernel)
theorem ql531 : Cond.instanceMethod yX10_drops ∈ GW := inGW (List.mem_of_getElem? (i := 531) (by decide +kernel)) (by decide +kernel)
theorem ql532 : Cond.selects RX10 yX10_drops yX10_drops ∈ GW := inGW (List.mem_of_getElem? (i := 532) (by decide +kernel)) (by decide +kernel)
set_option maxRecDepth 30000 in
theorem ql533 : Cond.code yX10_drops cX10_drops 2 (some .int) ∈ GW := inGW (List.mem_of_getElem? (i := 533) rfl) (by decide +kernel)
theorem ql998 : Cond.methodLink RL 34 yX11_drops ∈ GW := inGW (List.mem_of_getElem? (i := 998) (by decide +kernel)) (by decide +kernel)
theorem ql999 : Cond.instanceMethod yX11_drops ∈ GW := inGW (List.mem_of_getElem? (i := 999) (by decide +kernel)) (by decide +kernel)
theorem ql1000 : Cond.selects RX11 yX11_drops yX11_drops ∈ GW := inGW (List.mem_of_getElem? (i := 1000) (by decide +kernel)) (by decide +kernel)
set_option maxRecDepth 30000 in
theorem ql1001 : Cond.code yX11_drops cX11_drops 3 (some .int) ∈ GW := inGW (List.mem_of_getElem? (i := 1001) rfl) (by decide +kernel)
theorem ql542 : Cond.methodLink RL 35 yX10_first ∈ GW := inGW (List.mem_of_getElem? (i := 542) (by decide +kernel)) (by decide +kernel)
theorem ql543 : Cond.instanceMethod yX10_first ∈ GW := inGW (List.mem_of_getElem? (i := 543) (by decide +kernel)) (by decide +kernel)
theorem ql544 : Cond.selects RX10 yX10_first yX10_first ∈ GW := inGW (List.mem_of_getElem? (i := 544) (by decide +kernel)) (by decide +kernel)
set_option maxRecDepth 30000 in
theorem ql545 : Cond.code yX10_first cX10_first 2 (some .int) ∈ GW := inGW (List.mem_of_getElem? (i := 545) rfl) (by decide +kernel)
theorem ql1010 : Cond.methodLink RL 38 yX11_first ∈ GW := inGW (List.mem_of_getElem? (i := 1010) (by decide +kernel)) (by decide +kernel)
theorem ql1011 : Cond.instanceMethod yX11_first ∈ GW := inGW (List.mem_of_getElem? (i := 1011) (by decide +kernel)) (by decide +kernel)
theorem ql1012 : Cond.selects RX11 yX11_first yX11_first ∈ GW := inGW (List.mem_of_getElem? (i := 1012) (by decide +kernel)) (by decide +kernel)
set_option maxRecDepth 30000 in
theorem ql1013 : Cond.code yX11_first cX11_first 3 (some .int) ∈ GW := inGW (List.mem_of_getElem? (i := 1013) rfl) (by decide +kernel)
theorem ql550 : Cond.methodLink RL 39 yX10_of ∈ GW := inGW (List.mem_of_getElem? (i := 550) (by decide +kernel)) (by decide +kernel)
theorem ql551 : Cond.instanceMethod yX10_of ∈ GW := inGW (List.mem_of_getElem? (i := 551) (by decide +kernel)) (by decide +kernel)
theorem ql552 : Cond.selects RX10 yX10_of yX10_of ∈ GW := inGW (List.mem_of_getElem? (i := 552) (by decide +kernel)) (by decide +kernel)
set_option maxRecDepth 30000 in
theorem ql553 : Cond.code yX10_of cX10_of 4 (some .int) ∈ GW := inGW (List.mem_of_getElem? (i := 553) rfl) (by decide +kernel)
theorem ql1014 : Cond.methodLink RL 43 yX11_of ∈ GW := inGW (List.mem_of_getElem? (i := 1014) (by decide +kernel)) (by decide +kernel)
theorem ql1015 : Cond.instanceMethod yX11_of ∈ GW := inGW (List.mem_of_getElem? (i := 1015) (by decide +kernel)) (by decide +kernel)
theorem ql1016 : Cond.selects RX11 yX11_of yX11_of ∈ GW := inGW (List.mem_of_getElem? (i := 1016) (by decide +kernel)) (by decide +kernel)
set_option maxRecDepth 30000 in
theorem ql1017 : Cond.code yX11_of cX11_of 3 (some .int) ∈ GW := inGW (List.mem_of_getElem? (i := 1017) rfl) (by decide +kernel)
theorem ql607 : Cond.methodLink RL 44 yX10_shown ∈ GW := inGW (List.mem_of_getElem? (i := 607) (by decide +kernel)) (by decide +kernel)
theorem ql608 : Cond.instanceMethod yX10_shown ∈ GW := inGW (List.mem_of_getElem? (i := 608) (by decide +kernel)) (by decide +kernel)
theorem ql609 : Cond.selects RX10 yX10_shown yX10_shown ∈ GW := inGW (List.mem_of_getElem? (i := 609) (by decide +kernel)) (by decide +kernel)
set_option maxRecDepth 30000 in
theorem ql610 : Cond.code yX10_shown cX10_shown 3 (some .int) ∈ GW := inGW (List.mem_of_getElem? (i := 610) rfl) (by decide +kernel)
theorem ql1036 : Cond.methodLink RL 47 yX11_shown ∈ GW := inGW (List.mem_of_getElem? (i := 1036) (by decide +kernel)) (by decide +kernel)
theorem ql1037 : Cond.instanceMethod yX11_shown ∈ GW := inGW (List.mem_of_getElem? (i := 1037) (by decide +kernel)) (by decide +kernel)
theorem ql1038 : Cond.selects RX11 yX11_shown yX11_shown ∈ GW := inGW (List.mem_of_getElem? (i := 1038) (by decide +kernel)) (by decide +kernel)
set_option maxRecDepth 30000 in
theorem ql1039 : Cond.code yX11_shown cX11_shown 3 (some .int) ∈ GW := inGW (List.mem_of_getElem? (i := 1039) rfl) (by decide +kernel)
theorem ql628 : Cond.methodLink RL 48 yX10_fall ∈ GW := inGW (List.mem_of_getElem? (i := 628) (by decide +kernel)) (by decide +kernel)
theorem ql629 : Cond.instanceMethod yX10_fall ∈ GW := inGW (List.mem_of_getElem? (i := 629) (by decide +kernel)) (by decide +kernel)
theorem ql630 : Cond.selects RX10 yX10_fall yX10_fall ∈ GW := inGW (List.mem_of_getElem? (i := 630) (by decide +kernel)) (by decide +kernel)
set_option maxRecDepth 30000 in
theorem ql631 : Cond.code yX10_fall cX10_fall 1 (some .int) ∈ GW := inGW (List.mem_of_getElem? (i := 631) rfl) (by decide +kernel)
theorem ql1048 : Cond.methodLink RL 51 yX11_fall ∈ GW := inGW (List.mem_of_getElem? (i := 1048) (by decide +kernel)) (by decide +kernel)
theorem ql1049 : Cond.instanceMethod yX11_fall ∈ GW := inGW (List.mem_of_getElem? (i := 1049) (by decide +kernel)) (by decide +kernel)
theorem ql1050 : Cond.selects RX11 yX11_fall yX11_fall ∈ GW := inGW (List.mem_of_getElem? (i := 1050) (by decide +kernel)) (by decide +kernel)
set_option maxRecDepth 30000 in
theorem ql1051 : Cond.code yX11_fall cX11_fall 2 (some .int) ∈ GW := inGW (List.mem_of_getElem? (i := 1051) rfl) (by decide +kernel)
theorem ql669 : Cond.methodLink RL 52 yX10_weighs ∈ GW := inGW (List.mem_of_getElem? (i := 669) (by decide +kernel)) (by decide +kernel)
theorem ql670 : Cond.instanceMethod yX10_weighs ∈ GW := inGW (List.mem_of_getElem? (i := 670) (by decide +kernel)) (by decide +kernel)
theorem ql671 : Cond.selects RX10 yX10_weighs yX10_weighs ∈ GW := inGW (List.mem_of_getElem? (i := 671) (by decide +kernel)) (by decide +kernel)
set_option maxRecDepth 30000 in
theorem ql672 : Cond.code yX10_weighs cX10_weighs 3 (some .int) ∈ GW := inGW (List.mem_of_getElem? (i := 672) rfl) (by decide +kernel)
theorem ql1081 : Cond.methodLink RL 55 yX11_weighs ∈ GW := inGW (List.mem_of_getElem? (i := 1081) (by decide +kernel)) (by decide +kernel)
theorem ql1082 : Cond.instanceMethod yX11_weighs ∈ GW := inGW (List.mem_of_getElem? (i := 1082) (by decide +kernel)) (by decide +kernel)
theorem ql1083 : Cond.selects RX11 yX11_weighs yX11_weighs ∈ GW := inGW (List.mem_of_getElem? (i := 1083) (by decide +kernel)) (by decide +kernel)
set_option maxRecDepth 30000 in
theorem ql1084 : Cond.code yX11_weighs cX11_weighs 3 (some .int) ∈ GW := inGW (List.mem_of_getElem? (i := 1084) rfl) (by decide +kernel)
theorem ql681 : Cond.methodLink RL 56 yX10_weight ∈ GW := inGW (List.mem_of_getElem? (i := 681) (by decide +kernel)) (by decide +kernel)
theorem ql682 : Cond.instanceMethod yX10_weight ∈ GW := inGW (List.mem_of_getElem? (i := 682) (by decide +kernel)) (by decide +kernel)
theorem ql683 : Cond.selects RX10 yX10_weight yX10_weight ∈ GW := inGW (List.mem_of_getElem? (i := 683) (by decide +kernel)) (by decide +kernel)
set_option maxRecDepth 30000 in
theorem ql684 : Cond.code yX10_weight cX10_weight 2 (some .int) ∈ GW := inGW (List.mem_of_getElem? (i := 684) rfl) (by decide +kernel)
theorem ql1085 : Cond.methodLink RL 59 yX11_weight ∈ GW := inGW (List.mem_of_getElem? (i := 1085) (by decide +kernel)) (by decide +kernel)
theorem ql1086 : Cond.instanceMethod yX11_weight ∈ GW := inGW (List.mem_of_getElem? (i := 1086) (by decide +kernel)) (by decide +kernel)
theorem ql1087 : Cond.selects RX11 yX11_weight yX11_weight ∈ GW := inGW (List.mem_of_getElem? (i := 1087) (by decide +kernel)) (by decide +kernel)
set_option maxRecDepth 30000 in
theorem ql1088 : Cond.code yX11_weight cX11_weight 2 (some .int) ∈ GW := inGW (List.mem_of_getElem? (i := 1088) rfl) (by decide +kernel)
theorem ql695 : Cond.methodLink RL 60 yX10_calls ∈ GW := inGW (List.mem_of_getElem? (i := 695) (by decide +kernel)) (by decide +kernel)
theorem ql696 : Cond.instanceMethod yX10_calls ∈ GW := inGW (List.mem_of_getElem? (i := 696) (by decide +kernel)) (by decide +kernel)
theorem ql697 : Cond.selects RX10 yX10_calls yX10_calls ∈ GW := inGW (List.mem_of_getElem? (i := 697) (by decide +kernel)) (by decide +kernel)
set_option maxRecDepth 30000 in
theorem ql698 : Cond.code yX10_calls cX10_calls 2 (some .int) ∈ GW := inGW (List.mem_of_getElem? (i := 698) rfl) (by decide +kernel)
theorem ql1089 : Cond.methodLink RL 63 yX11_calls ∈ GW := inGW (List.mem_of_getElem? (i := 1089) (by decide +kernel)) (by decide +kernel)
theorem ql1090 : Cond.instanceMethod yX11_calls ∈ GW := inGW (List.mem_of_getElem? (i := 1090) (by decide +kernel)) (by decide +kernel)
theorem ql1091 : Cond.selects RX11 yX11_calls yX11_calls ∈ GW := inGW (List.mem_of_getElem? (i := 1091) (by decide +kernel)) (by decide +kernel)
set_option maxRecDepth 30000 in
theorem ql1092 : Cond.code yX11_calls cX11_calls 2 (some .int) ∈ GW := inGW (List.mem_of_getElem? (i := 1092) rfl) (by decide +kernel)
theorem ql703 : Cond.methodLink RL 64 yX10_call ∈ GW := inGW (List.mem_of_getElem? (i := 703) (by decide +kernel)) (by decide +kernel)
theorem ql704 : Cond.instanceMethod yX10_call ∈ GW := inGW (List.mem_of_getElem? (i := 704) (by decide +kernel)) (by decide +kernel)
theorem ql705 : Cond.selects RX10 yX10_call yX10_call ∈ GW := inGW (List.mem_of_getElem? (i := 705) (by decide +kernel)) (by decide +kernel)
set_option maxRecDepth 30000 in
theorem ql706 : Cond.code yX10_call cX10_call 3 (some .int) ∈ GW := inGW (List.mem_of_getElem? (i := 706) rfl) (by decide +kernel)
theorem ql1120 : Cond.methodLink RL 67 yX11_call ∈ GW := inGW (List.mem_of_getElem? (i := 1120) (by decide +kernel)) (by decide +kernel)
theorem ql1121 : Cond.instanceMethod yX11_call ∈ GW := inGW (List.mem_of_getElem? (i := 1121) (by decide +kernel)) (by decide +kernel)
theorem ql1122 : Cond.selects RX11 yX11_call yX11_call ∈ GW := inGW (List.mem_of_getElem? (i := 1122) (by decide +kernel)) (by decide +kernel)
set_option maxRecDepth 30000 in
theorem ql1123 : Cond.code yX11_call cX11_call 3 (some .int) ∈ GW := inGW (List.mem_of_getElem? (i := 1123) rfl) (by decide +kernel)
theorem ql719 : Cond.methodLink RL 68 yX10_follows ∈ GW := inGW (List.mem_of_getElem? (i := 719) (by decide +kernel)) (by decide +kernel)
theorem ql720 : Cond.instanceMethod yX10_follows ∈ GW := inGW (List.mem_of_getElem? (i := 720) (by decide +kernel)) (by decide +kernel)
theorem ql721 : Cond.selects RX10 yX10_follows yX10_follows ∈ GW := inGW (List.mem_of_getElem? (i := 721) (by decide +kernel)) (by decide +kernel)
set_option maxRecDepth 30000 in
theorem ql722 : Cond.code yX10_follows cX10_follows 3 (some .int) ∈ GW := inGW (List.mem_of_getElem? (i := 722) rfl) (by decide +kernel)
theorem ql1128 : Cond.methodLink RL 71 yX11_follows ∈ GW := inGW (List.mem_of_getElem? (i := 1128) (by decide +kernel)) (by decide +kernel)
theorem ql1129 : Cond.instanceMethod yX11_follows ∈ GW := inGW (List.mem_of_getElem? (i := 1129) (by decide +kernel)) (by decide +kernel)
theorem ql1130 : Cond.selects RX11 yX11_follows yX11_follows ∈ GW := inGW (List.mem_of_getElem? (i := 1130) (by decide +kernel)) (by decide +kernel)
set_option maxRecDepth 30000 in
theorem ql1131 : Cond.code yX11_follows cX11_follows 3 (some .int) ∈ GW := inGW (List.mem_of_getElem? (i := 1131) rfl) (by decide +kernel)
theorem ql724 : Cond.methodLink RL 72 yX10_lighter ∈ GW := inGW (List.mem_of_getElem? (i := 724) (by decide +kernel)) (by decide +kernel)
theorem ql725 : Cond.instanceMethod yX10_lighter ∈ GW := inGW (List.mem_of_getElem? (i := 725) (by decide +kernel)) (by decide +kernel)
theorem ql726 : Cond.selects RX10 yX10_lighter yX10_lighter ∈ GW := inGW (List.mem_of_getElem? (i := 726) (by decide +kernel)) (by decide +kernel)
set_option maxRecDepth 30000 in
theorem ql727 : Cond.code yX10_lighter cX10_lighter 2 (some .int) ∈ GW := inGW (List.mem_of_getElem? (i := 727) rfl) (by decide +kernel)
theorem ql1132 : Cond.methodLink RL 75 yX11_lighter ∈ GW := inGW (List.mem_of_getElem? (i := 1132) (by decide +kernel)) (by decide +kernel)
theorem ql1133 : Cond.instanceMethod yX11_lighter ∈ GW := inGW (List.mem_of_getElem? (i := 1133) (by decide +kernel)) (by decide +kernel)
theorem ql1134 : Cond.selects RX11 yX11_lighter yX11_lighter ∈ GW := inGW (List.mem_of_getElem? (i := 1134) (by decide +kernel)) (by decide +kernel)
set_option maxRecDepth 30000 in
theorem ql1135 : Cond.code yX11_lighter cX11_lighter 2 (some .int) ∈ GW := inGW (List.mem_of_getElem? (i := 1135) rfl) (by decide +kernel)
theorem ql728 : Cond.methodLink RL 76 yX10_turns ∈ GW := inGW (List.mem_of_getElem? (i := 728) (by decide +kernel)) (by decide +kernel)
theorem ql729 : Cond.instanceMethod yX10_turns ∈ GW := inGW (List.mem_of_getElem? (i := 729) (by decide +kernel)) (by decide +kernel)
theorem ql730 : Cond.selects RX10 yX10_turns yX10_turns ∈ GW := inGW (List.mem_of_getElem? (i := 730) (by decide +kernel)) (by decide +kernel)
set_option maxRecDepth 30000 in
theorem ql731 : Cond.code yX10_turns cX10_turns 2 (some .int) ∈ GW := inGW (List.mem_of_getElem? (i := 731) rfl) (by decide +kernel)
theorem ql1136 : Cond.methodLink RL 79 yX11_turns ∈ GW := inGW (List.mem_of_getElem? (i := 1136) (by decide +kernel)) (by decide +kernel)
theorem ql1137 : Cond.instanceMethod yX11_turns ∈ GW := inGW (List.mem_of_getElem? (i := 1137) (by decide +kernel)) (by decide +kernel)
theorem ql1138 : Cond.selects RX11 yX11_turns yX11_turns ∈ GW := inGW (List.mem_of_getElem? (i := 1138) (by decide +kernel)) (by decide +kernel)
set_option maxRecDepth 30000 in
theorem ql1139 : Cond.code yX11_turns cX11_turns 4 (some .int) ∈ GW := inGW (List.mem_of_getElem? (i := 1139) rfl) (by decide +kernel)
theorem ql770 : Cond.methodLink RL 80 yX10_settles ∈ GW := inGW (List.mem_of_getElem? (i := 770) (by decide +kernel)) (by decide +kernel)
theorem ql771 : Cond.instanceMethod yX10_settles ∈ GW := inGW (List.mem_of_getElem? (i := 771) (by decide +kernel)) (by decide +kernel)
theorem ql772 : Cond.selects RX10 yX10_settles yX10_settles ∈ GW := inGW (List.mem_of_getElem? (i := 772) (by decide +kernel)) (by decide +kernel)
set_option maxRecDepth 30000 in
theorem ql773 : Cond.code yX10_settles cX10_settles 2 (some .int) ∈ GW := inGW (List.mem_of_getElem? (i := 773) rfl) (by decide +kernel)
theorem ql1168 : Cond.methodLink RL 83 yX11_settles ∈ GW := inGW (List.mem_of_getElem? (i := 1168) (by decide +kernel)) (by decide +kernel)
theorem ql1169 : Cond.instanceMethod yX11_settles ∈ GW := inGW (List.mem_of_getElem? (i := 1169) (by decide +kernel)) (by decide +kernel)
theorem ql1170 : Cond.selects RX11 yX11_settles yX11_settles ∈ GW := inGW (List.mem_of_getElem? (i := 1170) (by decide +kernel)) (by decide +kernel)
set_option maxRecDepth 30000 in
theorem ql1171 : Cond.code yX11_settles cX11_settles 1 (some .int) ∈ GW := inGW (List.mem_of_getElem? (i := 1171) rfl) (by decide +kernel)
theorem ql775 : Cond.methodLink RL 84 yX10_next ∈ GW := inGW (List.mem_of_getElem? (i := 775) (by decide +kernel)) (by decide +kernel)
theorem ql776 : Cond.instanceMethod yX10_next ∈ GW := inGW (List.mem_of_getElem? (i := 776) (by decide +kernel)) (by decide +kernel)
theorem ql777 : Cond.selects RX10 yX10_next yX10_next ∈ GW := inGW (List.mem_of_getElem? (i := 777) (by decide +kernel)) (by decide +kernel)
set_option maxRecDepth 30000 in
theorem ql778 : Cond.code yX10_next cX10_next 2 (some .int) ∈ GW := inGW (List.mem_of_getElem? (i := 778) rfl) (by decide +kernel)
theorem ql1176 : Cond.methodLink RL 87 yX11_next ∈ GW := inGW (List.mem_of_getElem? (i := 1176) (by decide +kernel)) (by decide +kernel)
theorem ql1177 : Cond.instanceMethod yX11_next ∈ GW := inGW (List.mem_of_getElem? (i := 1177) (by decide +kernel)) (by decide +kernel)
theorem ql1178 : Cond.selects RX11 yX11_next yX11_next ∈ GW := inGW (List.mem_of_getElem? (i := 1178) (by decide +kernel)) (by decide +kernel)
set_option maxRecDepth 30000 in
theorem ql1179 : Cond.code yX11_next cX11_next 2 (some .int) ∈ GW := inGW (List.mem_of_getElem? (i := 1179) rfl) (by decide +kernel)
theorem ql779 : Cond.methodLink RL 88 yX10_letter ∈ GW := inGW (List.mem_of_getElem? (i := 779) (by decide +kernel)) (by decide +kernel)
theorem ql780 : Cond.instanceMethod yX10_letter ∈ GW := inGW (List.mem_of_getElem? (i := 780) (by decide +kernel)) (by decide +kernel)
theorem ql781 : Cond.selects RX10 yX10_letter yX10_letter ∈ GW := inGW (List.mem_of_getElem? (i := 781) (by decide +kernel)) (by decide +kernel)
set_option maxRecDepth 30000 in
theorem ql782 : Cond.code yX10_letter cX10_letter 2 (some .int) ∈ GW := inGW (List.mem_of_getElem? (i := 782) rfl) (by decide +kernel)
theorem ql1184 : Cond.methodLink RL 91 yX11_letter ∈ GW := inGW (List.mem_of_getElem? (i := 1184) (by decide +kernel)) (by decide +kernel)
theorem ql1185 : Cond.instanceMethod yX11_letter ∈ GW := inGW (List.mem_of_getElem? (i := 1185) (by decide +kernel)) (by decide +kernel)
theorem ql1186 : Cond.selects RX11 yX11_letter yX11_letter ∈ GW := inGW (List.mem_of_getElem? (i := 1186) (by decide +kernel)) (by decide +kernel)
set_option maxRecDepth 30000 in
theorem ql1187 : Cond.code yX11_letter cX11_letter 2 (some .int) ∈ GW := inGW (List.mem_of_getElem? (i := 1187) rfl) (by decide +kernel)
theorem ql783 : Cond.methodLink RL 92 yX10_back ∈ GW := inGW (List.mem_of_getElem? (i := 783) (by decide +kernel)) (by decide +kernel)
theorem ql784 : Cond.instanceMethod yX10_back ∈ GW := inGW (List.mem_of_getElem? (i := 784) (by decide +kernel)) (by decide +kernel)
theorem ql785 : Cond.selects RX10 yX10_back yX10_back ∈ GW := inGW (List.mem_of_getElem? (i := 785) (by decide +kernel)) (by decide +kernel)
set_option maxRecDepth 30000 in
theorem ql786 : Cond.code yX10_back cX10_back 1 (some .int) ∈ GW := inGW (List.mem_of_getElem? (i := 786) rfl) (by decide +kernel)
theorem ql914 : Cond.methodLink RL 95 yX11_back ∈ GW := inGW (List.mem_of_getElem? (i := 914) (by decide +kernel)) (by decide +kernel)
theorem ql915 : Cond.instanceMethod yX11_back ∈ GW := inGW (List.mem_of_getElem? (i := 915) (by decide +kernel)) (by decide +kernel)
theorem ql916 : Cond.selects RX11 yX11_back yX11_back ∈ GW := inGW (List.mem_of_getElem? (i := 916) (by decide +kernel)) (by decide +kernel)
set_option maxRecDepth 30000 in
theorem ql917 : Cond.code yX11_back cX11_back 1 (some .int) ∈ GW := inGW (List.mem_of_getElem? (i := 917) rfl) (by decide +kernel)
theorem ql791 : Cond.methodLink RL 96 yX10_told ∈ GW := inGW (List.mem_of_getElem? (i := 791) (by decide +kernel)) (by decide +kernel)
theorem ql792 : Cond.instanceMethod yX10_told ∈ GW := inGW (List.mem_of_getElem? (i := 792) (by decide +kernel)) (by decide +kernel)
theorem ql793 : Cond.selects RX10 yX10_told yX10_told ∈ GW := inGW (List.mem_of_getElem? (i := 793) (by decide +kernel)) (by decide +kernel)
set_option maxRecDepth 30000 in
theorem ql794 : Cond.code yX10_told cX10_told 2 (some .int) ∈ GW := inGW (List.mem_of_getElem? (i := 794) rfl) (by decide +kernel)
theorem ql1188 : Cond.methodLink RL 99 yX11_told ∈ GW := inGW (List.mem_of_getElem? (i := 1188) (by decide +kernel)) (by decide +kernel)
theorem ql1189 : Cond.instanceMethod yX11_told ∈ GW := inGW (List.mem_of_getElem? (i := 1189) (by decide +kernel)) (by decide +kernel)
theorem ql1190 : Cond.selects RX11 yX11_told yX11_told ∈ GW := inGW (List.mem_of_getElem? (i := 1190) (by decide +kernel)) (by decide +kernel)
set_option maxRecDepth 30000 in
theorem ql1191 : Cond.code yX11_told cX11_told 2 (some .int) ∈ GW := inGW (List.mem_of_getElem? (i := 1191) rfl) (by decide +kernel)
theorem ql795 : Cond.methodLink RL 100 yX10_digest ∈ GW := inGW (List.mem_of_getElem? (i := 795) (by decide +kernel)) (by decide +kernel)
theorem ql796 : Cond.instanceMethod yX10_digest ∈ GW := inGW (List.mem_of_getElem? (i := 796) (by decide +kernel)) (by decide +kernel)
theorem ql797 : Cond.selects RX10 yX10_digest yX10_digest ∈ GW := inGW (List.mem_of_getElem? (i := 797) (by decide +kernel)) (by decide +kernel)
set_option maxRecDepth 30000 in
theorem ql798 : Cond.code yX10_digest cX10_digest 5 (some .long) ∈ GW := inGW (List.mem_of_getElem? (i := 798) rfl) (by decide +kernel)
theorem ql1196 : Cond.methodLink RL 104 yX11_digest ∈ GW := inGW (List.mem_of_getElem? (i := 1196) (by decide +kernel)) (by decide +kernel)
theorem ql1197 : Cond.instanceMethod yX11_digest ∈ GW := inGW (List.mem_of_getElem? (i := 1197) (by decide +kernel)) (by decide +kernel)
theorem ql1198 : Cond.selects RX11 yX11_digest yX11_digest ∈ GW := inGW (List.mem_of_getElem? (i := 1198) (by decide +kernel)) (by decide +kernel)
set_option maxRecDepth 30000 in
theorem ql1199 : Cond.code yX11_digest cX11_digest 3 (some .long) ∈ GW := inGW (List.mem_of_getElem? (i := 1199) rfl) (by decide +kernel)
theorem vkL_13 : VOK RL 13 yX10_type cX10_type 2 (some .int) 1 := vok_mk ql424 ql425 ql426 ql80 ql427 (by decide +kernel)
theorem vkL_17 : VOK RL 17 yX11_type cX11_type 2 (some .int) 1 := vok_mk ql925 ql926 ql927 ql92 ql928 (by decide +kernel)
theorem vkL_18 : VOK RL 18 yX10_clear cX10_clear 2 (some .int) 0 := vok_mk ql436 ql437 ql438 ql80 ql439 (by decide +kernel)
theorem vkL_22 : VOK RL 22 yX11_clear cX11_clear 2 (some .int) 0 := vok_mk ql932 ql933 ql934 ql92 ql935 (by decide +kernel)
theorem vkL_23 : VOK RL 23 yX10_reads cX10_reads 2 (some .int) 0 := vok_mk ql440 ql441 ql442 ql80 ql443 (by decide +kernel)
theorem vkL_26 : VOK RL 26 yX11_reads cX11_reads 2 (some .int) 0 := vok_mk ql936 ql937 ql938 ql92 ql939 (by decide +kernel)
theorem vkL_27 : VOK RL 27 yX10_term cX10_term 1 (some .int) 0 := vok_mk ql521 ql522 ql523 ql80 ql524 (by decide +kernel)
theorem vkL_30 : VOK RL 30 yX11_term cX11_term 2 (some .int) 0 := vok_mk ql990 ql991 ql992 ql92 ql993 (by decide +kernel)
theorem vkL_31 : VOK RL 31 yX10_drops cX10_drops 2 (some .int) 1 := vok_mk ql530 ql531 ql532 ql80 ql533 (by decide +kernel)
theorem vkL_34 : VOK RL 34 yX11_drops cX11_drops 3 (some .int) 1 := vok_mk ql998 ql999 ql1000 ql92 ql1001 (by decide +kernel)
theorem vkL_35 : VOK RL 35 yX10_first cX10_first 2 (some .int) 1 := vok_mk ql542 ql543 ql544 ql80 ql545 (by decide +kernel)
theorem vkL_38 : VOK RL 38 yX11_first cX11_first 3 (some .int) 1 := vok_mk ql1010 ql1011 ql1012 ql92 ql1013 (by decide +kernel)
theorem vkL_39 : VOK RL 39 yX10_of cX10_of 4 (some .int) 2 := vok_mk ql550 ql551 ql552 ql80 ql553 (by decide +kernel)
theorem vkL_43 : VOK RL 43 yX11_of cX11_of 3 (some .int) 2 := vok_mk ql1014 ql1015 ql1016 ql92 ql1017 (by decide +kernel)
theorem vkL_44 : VOK RL 44 yX10_shown cX10_shown 3 (some .int) 2 := vok_mk ql607 ql608 ql609 ql80 ql610 (by decide +kernel)
theorem vkL_47 : VOK RL 47 yX11_shown cX11_shown 3 (some .int) 2 := vok_mk ql1036 ql1037 ql1038 ql92 ql1039 (by decide +kernel)
theorem vkL_48 : VOK RL 48 yX10_fall cX10_fall 1 (some .int) 0 := vok_mk ql628 ql629 ql630 ql80 ql631 (by decide +kernel)
theorem vkL_51 : VOK RL 51 yX11_fall cX11_fall 2 (some .int) 0 := vok_mk ql1048 ql1049 ql1050 ql92 ql1051 (by decide +kernel)
theorem vkL_52 : VOK RL 52 yX10_weighs cX10_weighs 3 (some .int) 2 := vok_mk ql669 ql670 ql671 ql80 ql672 (by decide +kernel)
theorem vkL_55 : VOK RL 55 yX11_weighs cX11_weighs 3 (some .int) 2 := vok_mk ql1081 ql1082 ql1083 ql92 ql1084 (by decide +kernel)
theorem vkL_56 : VOK RL 56 yX10_weight cX10_weight 2 (some .int) 1 := vok_mk ql681 ql682 ql683 ql80 ql684 (by decide +kernel)
theorem vkL_59 : VOK RL 59 yX11_weight cX11_weight 2 (some .int) 1 := vok_mk ql1085 ql1086 ql1087 ql92 ql1088 (by decide +kernel)
theorem vkL_60 : VOK RL 60 yX10_calls cX10_calls 2 (some .int) 1 := vok_mk ql695 ql696 ql697 ql80 ql698 (by decide +kernel)
theorem vkL_63 : VOK RL 63 yX11_calls cX11_calls 2 (some .int) 1 := vok_mk ql1089 ql1090 ql1091 ql92 ql1092 (by decide +kernel)
theorem vkL_64 : VOK RL 64 yX10_call cX10_call 3 (some .int) 2 := vok_mk ql703 ql704 ql705 ql80 ql706 (by decide +kernel)
theorem vkL_67 : VOK RL 67 yX11_call cX11_call 3 (some .int) 2 := vok_mk ql1120 ql1121 ql1122 ql92 ql1123 (by decide +kernel)
theorem vkL_68 : VOK RL 68 yX10_follows cX10_follows 3 (some .int) 2 := vok_mk ql719 ql720 ql721 ql80 ql722 (by decide +kernel)
theorem vkL_71 : VOK RL 71 yX11_follows cX11_follows 3 (some .int) 2 := vok_mk ql1128 ql1129 ql1130 ql92 ql1131 (by decide +kernel)
theorem vkL_72 : VOK RL 72 yX10_lighter cX10_lighter 2 (some .int) 1 := vok_mk ql724 ql725 ql726 ql80 ql727 (by decide +kernel)
theorem vkL_75 : VOK RL 75 yX11_lighter cX11_lighter 2 (some .int) 1 := vok_mk ql1132 ql1133 ql1134 ql92 ql1135 (by decide +kernel)
theorem vkL_76 : VOK RL 76 yX10_turns cX10_turns 2 (some .int) 1 := vok_mk ql728 ql729 ql730 ql80 ql731 (by decide +kernel)
theorem vkL_79 : VOK RL 79 yX11_turns cX11_turns 4 (some .int) 1 := vok_mk ql1136 ql1137 ql1138 ql92 ql1139 (by decide +kernel)
theorem vkL_80 : VOK RL 80 yX10_settles cX10_settles 2 (some .int) 0 := vok_mk ql770 ql771 ql772 ql80 ql773 (by decide +kernel)
theorem vkL_83 : VOK RL 83 yX11_settles cX11_settles 1 (some .int) 0 := vok_mk ql1168 ql1169 ql1170 ql92 ql1171 (by decide +kernel)
theorem vkL_84 : VOK RL 84 yX10_next cX10_next 2 (some .int) 1 := vok_mk ql775 ql776 ql777 ql80 ql778 (by decide +kernel)
theorem vkL_87 : VOK RL 87 yX11_next cX11_next 2 (some .int) 1 := vok_mk ql1176 ql1177 ql1178 ql92 ql1179 (by decide +kernel)
theorem vkL_88 : VOK RL 88 yX10_letter cX10_letter 2 (some .int) 1 := vok_mk ql779 ql780 ql781 ql80 ql782 (by decide +kernel)
theorem vkL_91 : VOK RL 91 yX11_letter cX11_letter 2 (some .int) 1 := vok_mk ql1184 ql1185 ql1186 ql92 ql1187 (by decide +kernel)
theorem vkL_92 : VOK RL 92 yX10_back cX10_back 1 (some .int) 0 := vok_mk ql783 ql784 ql785 ql80 ql786 (by decide +kernel)
theorem vkL_95 : VOK RL 95 yX11_back cX11_back 1 (some .int) 0 := vok_mk ql914 ql915 ql916 ql92 ql917 (by decide +kernel)
theorem vkL_96 : VOK RL 96 yX10_told cX10_told 2 (some .int) 1 := vok_mk ql791 ql792 ql793 ql80 ql794 (by decide +kernel)
theorem vkL_99 : VOK RL 99 yX11_told cX11_told 2 (some .int) 1 := vok_mk ql1188 ql1189 ql1190 ql92 ql1191 (by decide +kernel)
theorem vkL_100 : VOK RL 100 yX10_digest cX10_digest 5 (some .long) 0 := vok_mk ql795 ql796 ql797 ql80 ql798 (by decide +kernel)
theorem vkL_104 : VOK RL 104 yX11_digest cX11_digest 3 (some .long) 0 := vok_mk ql1196 ql1197 ql1198 ql92 ql1199 (by decide +kernel)
def R_law : String := "FallingRulesLaw"
def lw_P (b : Addr) (xs : List Int32) (args : Array Value) (s : State) : Prop := args = #[.ref b] ∧ s.IntsAt b xs ∧ xs.length ≤ 1536 ∧ (Jvm.Cond.and given_1 narrow_1).before args s = true
def lw_Q (_ : Array Value) (s : State) (o : Outcome) (t : State) : Prop := o = .returned (some (.int 1)) ∧ Framed s o t [] 600000 7302250
def lw_Z (below : List Frame) (a : Array Value) (s : State) : State → Prop := fun t => ∃ o, t.status = .running ∧ Ended t below o ∧ lw_Q a s o t
/-- the law's own end, with 1 on the stack, nothing written that was there before, its room as the claim has it -/
theorem lw_ret {p : Program} {l : Launch} {e : Env} {s : State} {m : MethodId} {below : List Frame} {meth : Method} {c : Code} {b : Nat} (hx : p.tables.exec = Jvm.exec) (hb : c.code = code) (hr : meth.sig.returnType = ret) (hlocks : meth.locks = false) {pc : Nat} {H : Heap} {ls : Array Slot} (hdg : decode code pc = .ok (.ireturn, 1)) : W p l e room_1 s m #[Value.ref b] below meth c H [] 600000 7302250 (lw_Z below #[Value.ref b] s) (F0 m pc ls [.int 1]) := by
  intro T hT X
  obtain ⟨fs, hret, hrun, hended, hW, hframe⟩ := X.leave (v := some (.int 1)) (hlocks := hlocks) (fun h => by rw [hr] at h; cases h)
  have hmeth' : T.vm.method? m = some meth := X.method'
  refine ⟨T.setFrames fs, ?_, .returned (some (.int 1)), hrun, hended, rfl, ⟨_, rfl⟩, hW, hframe⟩
  jvm_step X.here [X.here.top, hx, hb, hdg, hmeth', hr, ret, narrow_b1]
  (try refine ⟨rfl, ?_⟩); (try refine ⟨rfl, ?_⟩)
  first | (intro acts; rw [hret _ acts rfl rfl rfl]) | rw [hret _ _ rfl rfl rfl]
  exact Steps.refl _
/-- what holds at the law's entry: the machine, the code, the tables' words (any of lw_tbl by 'hts w (by decide +kernel)'), the script of L ints xs at the cell b, what the Statement gives of the start (any of its parts by flat_of_before) -/
def lw_At (p : Program) (s : State) (m : MethodId) (meth : Method) (c : Code) (b L : Nat) (xs : Nat → Int32) : Prop :=
  p.tables.exec = Jvm.exec ∧ c.code = code ∧ meth.sig.returnType = ret ∧ c.maxLocals = 4 ∧ s.vm.findClass R_law = some m.cls ∧ (∀ w ∈ lw_tbl, w.before #[Value.ref b] s = true) ∧ va_X b L xs s s.heap ∧ b < s.heap.size ∧ meth.locks = false ∧ (Jvm.Cond.and given_1 narrow_1).before #[Value.ref b] s = true
theorem lw_lt {Ln i : Nat} (hL : Ln ≤ 1536) (hi : i ≤ Ln) (h : ¬ Int32.ofNat Ln - 3 < nI i) : i + 3 ≤ Ln := by
  by_cases h3 : 3 ≤ Ln
  · have e : Int32.ofNat Ln - 3 = nI (Ln - 3) := pk_sub (a := Ln) (b := 3) h3
    rw [e] at h
    by_cases h4 : i ≤ Ln - 3
    · omega
    · exact absurd (nI_lt (by omega) (by omega)) h
  · exfalso
    apply h
    rw [Int32.lt_iff_toInt_lt]
    have e := pk_sub_toInt (a := Ln) (b := 3) (by omega) (by omega)
    have e2 : (nI i).toInt = (i : Int) := nI_toInt (by omega)
    show (nI Ln - nI 3).toInt < (nI i).toInt
    rw [e, e2]
    omega
set_option maxHeartbeats 8000000 in
set_option maxRecDepth 100000 in
theorem law_loop {p : Program} {l : Launch} {e : Env} {s : State} {m : MethodId} {below : List Frame} {meth : Method} {c : Code} {D : va_G} {ce : Nat → ClassId} {b Ln : Nat} {xs : Nat → Int32} (hL : Ln ≤ 1536) (C0 : lw_At p s m meth c b Ln xs) (hKK : KK D ce s) (Inv : mI → mL → mR → mI → mL → mR → Prop) (h_type : St_type Inv) (h_clear : St_clear Inv) (h_reads : St_reads Inv) (h_term : St_term Inv) (h_drops : St_drops Inv) (h_first : St_first Inv) (h_of : St_of Inv) (h_shown : St_shown Inv) (h_fall : St_fall Inv) (h_weighs : St_weighs Inv) (h_weight : St_weight Inv) (h_calls : St_calls Inv) (h_call : St_call Inv) (h_follows : St_follows Inv) (h_lighter : St_lighter Inv) (h_turns : St_turns Inv) (h_settles : St_settles Inv) (h_next : St_next Inv) (h_letter : St_letter Inv) (h_back : St_back Inv) (h_told : St_told Inv) (h_digest : St_digest Inv) (b1 b2 : Nat) (hb1 : s.heap.size ≤ b1) (hb2 : b1 + 272 ≤ b2) :
    ∀ (n i : Nat), i ≤ Ln → Ln + 1 ≤ i + n → ∀ (IC : mI) (LC : mL) (RC : mR) (IM : mI) (LM : mL) (RM : mR), Inv IC LC RC IM LM RM → WT kdC RC → WT kdM RM → ∀ (H : Heap) (locs : List Loc) (ls : Array Slot), va_P D vwCl (wd ce b1 kdC lnC 272 IC LC RC) H → va_P D vwCl (wd ce b2 kdM lnM 21 IM LM RM) H → va_S (fun q : Nat => s.heap.size ≤ q) s.heap H locs → lv_has ls 4 [(0, .ref b), (1, .ref (b1 + 0)), (2, .ref (b2 + 0)), (3, .int (nI i))] → W p l e room_1 s m #[Value.ref b] below meth c H locs 293 13826 (lw_Z below #[Value.ref b] s) (F0 m 18 ls []) := by
  obtain ⟨hx, hb, hr, hml, hown, hts0, hX, hbl, hlocks, hgv⟩ := C0
  have hts : ∀ w ∈ GW, w.before #[Value.ref b] s = true := fun w h => hts0 w (GW_in h)
  have hbA : ¬ (fun q : Nat => s.heap.size ≤ q) b := Nat.not_le.mpr hbl
  intro n
  induction n with
  | zero => intro i h1 h2; exact absurd h2 (by omega)
  | succ n ih =>
    intro i hi hin IC LC RC IM LM RM hI hTC hTM H locs ls hPC hPM hS hl
    refine lv_iload_n hx hb dL_law_18 rfl (lv_at hl 3 rfl) ?_
    refine lv_aload_n hx hb dL_law_19 rfl (lv_at hl 0 rfl) ?_
    refine va_slen hx hb hX hbl hbA hS dL_law_20 ?_
    refine lv_iconst (v := 3) hx hb dL_law_21 (by decide) ?_
    refine lv_isub hx hb dL_law_22 ?_
    refine lv_icmp_gt (tgt := 629) hx hb dL_law_23 (by decide) (fun cg => ?_) (fun cg => ?_)
    · refine lv_iconst (v := 1) hx hb dL_law_629 (by decide) ?_
      refine va_forget (fun q hq => hS.2.2 q hq) ?_
      refine W.widen (k := 600000) (n := 7302250) (Nat.le_of_ble_eq_true rfl) (Nat.le_of_ble_eq_true rfl) ?_
      exact lw_ret hx hb hr hlocks dL_law_630
    · have hlt : i + 3 ≤ Ln := lw_lt hL hi cg
      have hi0 : vp_in (nI i) Ln := vp_in_nI (by omega) (by omega)
      have hi1 : vp_in (nI i + 1) Ln := by rw [nI_1]; exact vp_in_nI (by omega) (by omega)
      have hi2 : vp_in (nI i + 2) Ln := by rw [show nI i + 2 = nI (i + 2) from nI_add i 2]; exact vp_in_nI (by omega) (by omega)
      have htail : ∀ (IC : mI) (LC : mL) (RC : mR) (IM : mI) (LM : mL) (RM : mR), Inv IC LC RC IM LM RM → WT kdC RC → WT kdM RM → ∀ (H : Heap) (locs : List Loc) (ls : Array Slot), va_P D vwCl (wd ce b1 kdC lnC 272 IC LC RC) H → va_P D vwCl (wd ce b2 kdM lnM 21 IM LM RM) H → va_S (fun q : Nat => s.heap.size ≤ q) s.heap H locs → lv_has ls 4 [(0, .ref b), (1, .ref (b1 + 0)), (2, .ref (b2 + 0)), (3, .int (nI i))] → W p l e room_1 s m #[Value.ref b] below meth c H locs 293 13826 (lw_Z below #[Value.ref b] s) (F0 m 623 ls []) := by
        intro IC LC RC IM LM RM hI hTC hTM H locs ls hPC hPM hS hl
        refine lv_iinc (v := nI (i + 3)) (lv' := [(3, .int (nI (i + 3))), (0, .ref b), (1, .ref (b1 + 0)), (2, .ref (b2 + 0))]) hx hb dL_law_623 hl (k := 3) rfl (nI_add i 3) (Nat.le_of_ble_eq_true rfl) rfl (fun ls hl => ?_)
        refine lv_goto (tgt := 18) hx hb dL_law_626 (by decide) ?_
        exact ih (i + 3) hlt (by omega) IC LC RC IM LM RM hI hTC hTM H locs ls hPC hPM hS (lv_sub hl [1, 2, 3, 0] rfl)
      refine lv_aload_n hx hb dL_law_26 rfl (lv_at hl 0 rfl) ?_
      refine lv_iload_n hx hb dL_law_27 rfl (lv_at hl 3 rfl) ?_
      refine va_sld hx hb hX hbl hbA hS hi0 dL_law_28 ?_
      refine lv_bipush (v := 31) hx hb dL_law_29 (by decide) ?_
      refine lv_iand hx hb dL_law_31 ?_
      obtain ⟨z, hz⟩ : ∃ z, z = xs (nI i).toNatClampNeg &&& 31 := ⟨_, rfl⟩
      rw [← hz]
      by_cases c0 : z = (0 : Int32)
      · refine lv_tableIn (off := 104) (tgt := 136) hx hb dL_law_32 (by rw [c0]; decide) (by rw [c0]; decide) (by rw [c0]; first | done | rfl) (by decide) ?_
        obtain ⟨r, IC1, IM1, hfC, hfM, hI⟩ := h_type IC LC RC IM LM RM hI (xs (nI i + (1 : Int32)).toNatClampNeg)
        refine lv_aload_n hx hb dL_law_136 rfl (lv_at hl 1 rfl) ?_
        refine lv_aload_n hx hb dL_law_137 rfl (lv_at hl 0 rfl) ?_
        refine lv_iload_n hx hb dL_law_138 rfl (lv_at hl 3 rfl) ?_
        refine lv_iconst (v := (1 : Int32)) hx hb dL_law_139 (by decide) ?_
        refine lv_iadd hx hb dL_law_140 ?_
        refine va_sld hx hb hX hbl hbA hS hi1 dL_law_141 ?_
        refine mm_LVi (rest := []) (b := b1) (a := 0) hx hb hml hown hts hKK hPC hS (fun q h => by have := h.1; show s.heap.size ≤ q; omega) (Nat.le_of_ble_eq_true rfl) (rfl : kdC 0 = 16) (show vwCl[10]? = some (yX10_type.cls, TX10, 15) from rfl) vkL_13 (k_X10_type l D ce b1 IC LC RC hTC 0 (xs (nI i + (1 : Int32)).toNatClampNeg) rfl r IC1 hfC) rfl hl.1 rfl (Nat.le_of_ble_eq_true rfl) ⟨rfl, rfl⟩ ⟨Nat.le_of_ble_eq_true rfl, Nat.le_of_ble_eq_true rfl⟩ ⟨Nat.le_of_ble_eq_true rfl, Nat.le_of_ble_eq_true rfl⟩ dL_law_142 (fun H1 locs hPC hTC hS hk1 => ?_)
        have hPM := keepW hPM hk1 (fun q h1 h2 => by have := h1.1; have := h2.2; omega)
        generalize H1 = H at hPC hPM hS ⊢
        clear hk1
        refine lv_aload_n hx hb dL_law_145 rfl (lv_at hl 2 rfl) ?_
        refine lv_aload_n hx hb dL_law_146 rfl (lv_at hl 0 rfl) ?_
        refine lv_iload_n hx hb dL_law_147 rfl (lv_at hl 3 rfl) ?_
        refine lv_iconst (v := (1 : Int32)) hx hb dL_law_148 (by decide) ?_
        refine lv_iadd hx hb dL_law_149 ?_
        refine va_sld hx hb hX hbl hbA hS hi1 dL_law_150 ?_
        refine mm_LVi (rest := [.int r]) (b := b2) (a := 0) hx hb hml hown hts hKK hPM hS (fun q h => by have := h.1; show s.heap.size ≤ q; omega) (Nat.le_of_ble_eq_true rfl) (rfl : kdM 0 = 17) (show vwCl[11]? = some (yX11_type.cls, TX11, 32) from rfl) vkL_17 (k_X11_type l D ce b2 IM LM RM hTM 0 (xs (nI i + (1 : Int32)).toNatClampNeg) rfl r IM1 hfM) rfl hl.1 rfl (Nat.le_of_ble_eq_true rfl) ⟨rfl, rfl⟩ ⟨Nat.le_of_ble_eq_true rfl, Nat.le_of_ble_eq_true rfl⟩ ⟨Nat.le_of_ble_eq_true rfl, Nat.le_of_ble_eq_true rfl⟩ dL_law_151 (fun H1 locs hPM hTM hS hk1 => ?_)
        have hPC := keepW hPC hk1 (fun q h1 h2 => by have := h1.2; have := h2.1; omega)
        generalize H1 = H at hPC hPM hS ⊢
        clear hk1
        refine lv_icmp_eq (tgt := 623) hx hb dL_law_154 (by decide) (fun cq => ?_) (fun cq => absurd rfl cq)
        exact htail IC1 LC RC IM1 LM RM hI hTC hTM H locs ls hPC hPM hS hl
      by_cases c1 : z = (1 : Int32)
      · refine lv_tableIn (off := 127) (tgt := 159) hx hb dL_law_32 (by rw [c1]; decide) (by rw [c1]; decide) (by rw [c1]; first | done | rfl) (by decide) ?_
        obtain ⟨r, IC1, IM1, hfC, hfM, hI⟩ := h_clear IC LC RC IM LM RM hI ()
        refine lv_aload_n hx hb dL_law_159 rfl (lv_at hl 1 rfl) ?_
        refine mm_LVi (rest := []) (b := b1) (a := 0) hx hb hml hown hts hKK hPC hS (fun q h => by have := h.1; show s.heap.size ≤ q; omega) (Nat.le_of_ble_eq_true rfl) (rfl : kdC 0 = 16) (show vwCl[10]? = some (yX10_clear.cls, TX10, 15) from rfl) vkL_18 (k_X10_clear l D ce b1 IC LC RC hTC 0  rfl r IC1 hfC) rfl hl.1 rfl (Nat.le_of_ble_eq_true rfl) ⟨rfl, rfl⟩ ⟨Nat.le_of_ble_eq_true rfl, Nat.le_of_ble_eq_true rfl⟩ ⟨Nat.le_of_ble_eq_true rfl, Nat.le_of_ble_eq_true rfl⟩ dL_law_160 (fun H1 locs hPC hTC hS hk1 => ?_)
        have hPM := keepW hPM hk1 (fun q h1 h2 => by have := h1.1; have := h2.2; omega)
        generalize H1 = H at hPC hPM hS ⊢
        clear hk1
        refine lv_aload_n hx hb dL_law_163 rfl (lv_at hl 2 rfl) ?_
        refine mm_LVi (rest := [.int r]) (b := b2) (a := 0) hx hb hml hown hts hKK hPM hS (fun q h => by have := h.1; show s.heap.size ≤ q; omega) (Nat.le_of_ble_eq_true rfl) (rfl : kdM 0 = 17) (show vwCl[11]? = some (yX11_clear.cls, TX11, 32) from rfl) vkL_22 (k_X11_clear l D ce b2 IM LM RM hTM 0  rfl r IM1 hfM) rfl hl.1 rfl (Nat.le_of_ble_eq_true rfl) ⟨rfl, rfl⟩ ⟨Nat.le_of_ble_eq_true rfl, Nat.le_of_ble_eq_true rfl⟩ ⟨Nat.le_of_ble_eq_true rfl, Nat.le_of_ble_eq_true rfl⟩ dL_law_164 (fun H1 locs hPM hTM hS hk1 => ?_)
        have hPC := keepW hPC hk1 (fun q h1 h2 => by have := h1.2; have := h2.1; omega)
        generalize H1 = H at hPC hPM hS ⊢
        clear hk1
        refine lv_icmp_eq (tgt := 623) hx hb dL_law_167 (by decide) (fun cq => ?_) (fun cq => absurd rfl cq)
        exact htail IC1 LC RC IM1 LM RM hI hTC hTM H locs ls hPC hPM hS hl
      by_cases c2 : z = (2 : Int32)
      · refine lv_tableIn (off := 140) (tgt := 172) hx hb dL_law_32 (by rw [c2]; decide) (by rw [c2]; decide) (by rw [c2]; first | done | rfl) (by decide) ?_
        obtain ⟨r, IC1, RC1, IM1, hfC, hfM, hI⟩ := h_reads IC LC RC IM LM RM hI ()
        refine lv_aload_n hx hb dL_law_172 rfl (lv_at hl 1 rfl) ?_
        refine mm_LVi (rest := []) (b := b1) (a := 0) hx hb hml hown hts hKK hPC hS (fun q h => by have := h.1; show s.heap.size ≤ q; omega) (Nat.le_of_ble_eq_true rfl) (rfl : kdC 0 = 16) (show vwCl[10]? = some (yX10_reads.cls, TX10, 15) from rfl) vkL_23 (k_X10_reads l D ce b1 IC LC RC hTC 0  rfl r IC1 RC1 hfC) rfl hl.1 rfl (Nat.le_of_ble_eq_true rfl) ⟨rfl, rfl⟩ ⟨Nat.le_of_ble_eq_true rfl, Nat.le_of_ble_eq_true rfl⟩ ⟨Nat.le_of_ble_eq_true rfl, Nat.le_of_ble_eq_true rfl⟩ dL_law_173 (fun H1 locs hPC hTC hS hk1 => ?_)
        have hPM := keepW hPM hk1 (fun q h1 h2 => by have := h1.1; have := h2.2; omega)
        generalize H1 = H at hPC hPM hS ⊢
        clear hk1
        refine lv_aload_n hx hb dL_law_176 rfl (lv_at hl 2 rfl) ?_
        refine mm_LVi (rest := [.int r]) (b := b2) (a := 0) hx hb hml hown hts hKK hPM hS (fun q h => by have := h.1; show s.heap.size ≤ q; omega) (Nat.le_of_ble_eq_true rfl) (rfl : kdM 0 = 17) (show vwCl[11]? = some (yX11_reads.cls, TX11, 32) from rfl) vkL_26 (k_X11_reads l D ce b2 IM LM RM hTM 0  rfl r IM1 hfM) rfl hl.1 rfl (Nat.le_of_ble_eq_true rfl) ⟨rfl, rfl⟩ ⟨Nat.le_of_ble_eq_true rfl, Nat.le_of_ble_eq_true rfl⟩ ⟨Nat.le_of_ble_eq_true rfl, Nat.le_of_ble_eq_true rfl⟩ dL_law_177 (fun H1 locs hPM hTM hS hk1 => ?_)
        have hPC := keepW hPC hk1 (fun q h1 h2 => by have := h1.2; have := h2.1; omega)
        generalize H1 = H at hPC hPM hS ⊢
        clear hk1
        refine lv_icmp_eq (tgt := 623) hx hb dL_law_180 (by decide) (fun cq => ?_) (fun cq => absurd rfl cq)
        exact htail IC1 LC RC1 IM1 LM RM hI hTC hTM H locs ls hPC hPM hS hl
      by_cases c3 : z = (3 : Int32)
      · refine lv_tableIn (off := 153) (tgt := 185) hx hb dL_law_32 (by rw [c3]; decide) (by rw [c3]; decide) (by rw [c3]; first | done | rfl) (by decide) ?_
        obtain ⟨r, IC1, RC1, IM1, hfC, hfM, hI⟩ := h_term IC LC RC IM LM RM hI ()
        refine lv_aload_n hx hb dL_law_185 rfl (lv_at hl 1 rfl) ?_
        refine mm_LVi (rest := []) (b := b1) (a := 0) hx hb hml hown hts hKK hPC hS (fun q h => by have := h.1; show s.heap.size ≤ q; omega) (Nat.le_of_ble_eq_true rfl) (rfl : kdC 0 = 16) (show vwCl[10]? = some (yX10_term.cls, TX10, 15) from rfl) vkL_27 (k_X10_term l D ce b1 IC LC RC hTC 0  rfl r IC1 RC1 hfC) rfl hl.1 rfl (Nat.le_of_ble_eq_true rfl) ⟨rfl, rfl⟩ ⟨Nat.le_of_ble_eq_true rfl, Nat.le_of_ble_eq_true rfl⟩ ⟨Nat.le_of_ble_eq_true rfl, Nat.le_of_ble_eq_true rfl⟩ dL_law_186 (fun H1 locs hPC hTC hS hk1 => ?_)
        have hPM := keepW hPM hk1 (fun q h1 h2 => by have := h1.1; have := h2.2; omega)
        generalize H1 = H at hPC hPM hS ⊢
        clear hk1
        refine lv_aload_n hx hb dL_law_189 rfl (lv_at hl 2 rfl) ?_
        refine mm_LVi (rest := [.int r]) (b := b2) (a := 0) hx hb hml hown hts hKK hPM hS (fun q h => by have := h.1; show s.heap.size ≤ q; omega) (Nat.le_of_ble_eq_true rfl) (rfl : kdM 0 = 17) (show vwCl[11]? = some (yX11_term.cls, TX11, 32) from rfl) vkL_30 (k_X11_term l D ce b2 IM LM RM hTM 0  rfl r IM1 hfM) rfl hl.1 rfl (Nat.le_of_ble_eq_true rfl) ⟨rfl, rfl⟩ ⟨Nat.le_of_ble_eq_true rfl, Nat.le_of_ble_eq_true rfl⟩ ⟨Nat.le_of_ble_eq_true rfl, Nat.le_of_ble_eq_true rfl⟩ dL_law_190 (fun H1 locs hPM hTM hS hk1 => ?_)
        have hPC := keepW hPC hk1 (fun q h1 h2 => by have := h1.2; have := h2.1; omega)
        generalize H1 = H at hPC hPM hS ⊢
        clear hk1
        refine lv_icmp_eq (tgt := 623) hx hb dL_law_193 (by decide) (fun cq => ?_) (fun cq => absurd rfl cq)
        exact htail IC1 LC RC1 IM1 LM RM hI hTC hTM H locs ls hPC hPM hS hl
      by_cases c4 : z = (4 : Int32)
      · refine lv_tableIn (off := 166) (tgt := 198) hx hb dL_law_32 (by rw [c4]; decide) (by rw [c4]; decide) (by rw [c4]; first | done | rfl) (by decide) ?_
        obtain ⟨r, IC1, RC1, IM1, hfC, hfM, hI⟩ := h_drops IC LC RC IM LM RM hI (xs (nI i + (1 : Int32)).toNatClampNeg)
        refine lv_aload_n hx hb dL_law_198 rfl (lv_at hl 1 rfl) ?_
        refine lv_aload_n hx hb dL_law_199 rfl (lv_at hl 0 rfl) ?_
        refine lv_iload_n hx hb dL_law_200 rfl (lv_at hl 3 rfl) ?_
        refine lv_iconst (v := (1 : Int32)) hx hb dL_law_201 (by decide) ?_
        refine lv_iadd hx hb dL_law_202 ?_
        refine va_sld hx hb hX hbl hbA hS hi1 dL_law_203 ?_
        refine mm_LVi (rest := []) (b := b1) (a := 0) hx hb hml hown hts hKK hPC hS (fun q h => by have := h.1; show s.heap.size ≤ q; omega) (Nat.le_of_ble_eq_true rfl) (rfl : kdC 0 = 16) (show vwCl[10]? = some (yX10_drops.cls, TX10, 15) from rfl) vkL_31 (k_X10_drops l D ce b1 IC LC RC hTC 0 (xs (nI i + (1 : Int32)).toNatClampNeg) rfl r IC1 RC1 hfC) rfl hl.1 rfl (Nat.le_of_ble_eq_true rfl) ⟨rfl, rfl⟩ ⟨Nat.le_of_ble_eq_true rfl, Nat.le_of_ble_eq_true rfl⟩ ⟨Nat.le_of_ble_eq_true rfl, Nat.le_of_ble_eq_true rfl⟩ dL_law_204 (fun H1 locs hPC hTC hS hk1 => ?_)
        have hPM := keepW hPM hk1 (fun q h1 h2 => by have := h1.1; have := h2.2; omega)
        generalize H1 = H at hPC hPM hS ⊢
        clear hk1
        refine lv_aload_n hx hb dL_law_207 rfl (lv_at hl 2 rfl) ?_
        refine lv_aload_n hx hb dL_law_208 rfl (lv_at hl 0 rfl) ?_
        refine lv_iload_n hx hb dL_law_209 rfl (lv_at hl 3 rfl) ?_
        refine lv_iconst (v := (1 : Int32)) hx hb dL_law_210 (by decide) ?_
        refine lv_iadd hx hb dL_law_211 ?_
        refine va_sld hx hb hX hbl hbA hS hi1 dL_law_212 ?_
        refine mm_LVi (rest := [.int r]) (b := b2) (a := 0) hx hb hml hown hts hKK hPM hS (fun q h => by have := h.1; show s.heap.size ≤ q; omega) (Nat.le_of_ble_eq_true rfl) (rfl : kdM 0 = 17) (show vwCl[11]? = some (yX11_drops.cls, TX11, 32) from rfl) vkL_34 (k_X11_drops l D ce b2 IM LM RM hTM 0 (xs (nI i + (1 : Int32)).toNatClampNeg) rfl r IM1 hfM) rfl hl.1 rfl (Nat.le_of_ble_eq_true rfl) ⟨rfl, rfl⟩ ⟨Nat.le_of_ble_eq_true rfl, Nat.le_of_ble_eq_true rfl⟩ ⟨Nat.le_of_ble_eq_true rfl, Nat.le_of_ble_eq_true rfl⟩ dL_law_213 (fun H1 locs hPM hTM hS hk1 => ?_)
        have hPC := keepW hPC hk1 (fun q h1 h2 => by have := h1.2; have := h2.1; omega)
        generalize H1 = H at hPC hPM hS ⊢
        clear hk1
        refine lv_icmp_eq (tgt := 623) hx hb dL_law_216 (by decide) (fun cq => ?_) (fun cq => absurd rfl cq)
        exact htail IC1 LC RC1 IM1 LM RM hI hTC hTM H locs ls hPC hPM hS hl
      by_cases c5 : z = (5 : Int32)
      · refine lv_tableIn (off := 189) (tgt := 221) hx hb dL_law_32 (by rw [c5]; decide) (by rw [c5]; decide) (by rw [c5]; first | done | rfl) (by decide) ?_
        obtain ⟨r, IC1, RC1, IM1, hfC, hfM, hI⟩ := h_first IC LC RC IM LM RM hI (xs (nI i + (1 : Int32)).toNatClampNeg)
        refine lv_aload_n hx hb dL_law_221 rfl (lv_at hl 1 rfl) ?_
        refine lv_aload_n hx hb dL_law_222 rfl (lv_at hl 0 rfl) ?_
        refine lv_iload_n hx hb dL_law_223 rfl (lv_at hl 3 rfl) ?_
        refine lv_iconst (v := (1 : Int32)) hx hb dL_law_224 (by decide) ?_
        refine lv_iadd hx hb dL_law_225 ?_
        refine va_sld hx hb hX hbl hbA hS hi1 dL_law_226 ?_
        refine mm_LVi (rest := []) (b := b1) (a := 0) hx hb hml hown hts hKK hPC hS (fun q h => by have := h.1; show s.heap.size ≤ q; omega) (Nat.le_of_ble_eq_true rfl) (rfl : kdC 0 = 16) (show vwCl[10]? = some (yX10_first.cls, TX10, 15) from rfl) vkL_35 (k_X10_first l D ce b1 IC LC RC hTC 0 (xs (nI i + (1 : Int32)).toNatClampNeg) rfl r IC1 RC1 hfC) rfl hl.1 rfl (Nat.le_of_ble_eq_true rfl) ⟨rfl, rfl⟩ ⟨Nat.le_of_ble_eq_true rfl, Nat.le_of_ble_eq_true rfl⟩ ⟨Nat.le_of_ble_eq_true rfl, Nat.le_of_ble_eq_true rfl⟩ dL_law_227 (fun H1 locs hPC hTC hS hk1 => ?_)
        have hPM := keepW hPM hk1 (fun q h1 h2 => by have := h1.1; have := h2.2; omega)
        generalize H1 = H at hPC hPM hS ⊢
        clear hk1
        refine lv_aload_n hx hb dL_law_230 rfl (lv_at hl 2 rfl) ?_
        refine lv_aload_n hx hb dL_law_231 rfl (lv_at hl 0 rfl) ?_
        refine lv_iload_n hx hb dL_law_232 rfl (lv_at hl 3 rfl) ?_
        refine lv_iconst (v := (1 : Int32)) hx hb dL_law_233 (by decide) ?_
        refine lv_iadd hx hb dL_law_234 ?_
        refine va_sld hx hb hX hbl hbA hS hi1 dL_law_235 ?_
        refine mm_LVi (rest := [.int r]) (b := b2) (a := 0) hx hb hml hown hts hKK hPM hS (fun q h => by have := h.1; show s.heap.size ≤ q; omega) (Nat.le_of_ble_eq_true rfl) (rfl : kdM 0 = 17) (show vwCl[11]? = some (yX11_first.cls, TX11, 32) from rfl) vkL_38 (k_X11_first l D ce b2 IM LM RM hTM 0 (xs (nI i + (1 : Int32)).toNatClampNeg) rfl r IM1 hfM) rfl hl.1 rfl (Nat.le_of_ble_eq_true rfl) ⟨rfl, rfl⟩ ⟨Nat.le_of_ble_eq_true rfl, Nat.le_of_ble_eq_true rfl⟩ ⟨Nat.le_of_ble_eq_true rfl, Nat.le_of_ble_eq_true rfl⟩ dL_law_236 (fun H1 locs hPM hTM hS hk1 => ?_)
        have hPC := keepW hPC hk1 (fun q h1 h2 => by have := h1.2; have := h2.1; omega)
        generalize H1 = H at hPC hPM hS ⊢
        clear hk1
        refine lv_icmp_eq (tgt := 623) hx hb dL_law_239 (by decide) (fun cq => ?_) (fun cq => absurd rfl cq)
        exact htail IC1 LC RC1 IM1 LM RM hI hTC hTM H locs ls hPC hPM hS hl
      by_cases c6 : z = (6 : Int32)
      · refine lv_tableIn (off := 212) (tgt := 244) hx hb dL_law_32 (by rw [c6]; decide) (by rw [c6]; decide) (by rw [c6]; first | done | rfl) (by decide) ?_
        obtain ⟨r, IC1, LC1, IM1, hfC, hfM, hI⟩ := h_of IC LC RC IM LM RM hI (xs (nI i + (1 : Int32)).toNatClampNeg) (xs (nI i + (2 : Int32)).toNatClampNeg)
        refine lv_aload_n hx hb dL_law_244 rfl (lv_at hl 1 rfl) ?_
        refine lv_aload_n hx hb dL_law_245 rfl (lv_at hl 0 rfl) ?_
        refine lv_iload_n hx hb dL_law_246 rfl (lv_at hl 3 rfl) ?_
        refine lv_iconst (v := (1 : Int32)) hx hb dL_law_247 (by decide) ?_
        refine lv_iadd hx hb dL_law_248 ?_
        refine va_sld hx hb hX hbl hbA hS hi1 dL_law_249 ?_
        refine lv_aload_n hx hb dL_law_250 rfl (lv_at hl 0 rfl) ?_
        refine lv_iload_n hx hb dL_law_251 rfl (lv_at hl 3 rfl) ?_
        refine lv_iconst (v := (2 : Int32)) hx hb dL_law_252 (by decide) ?_
        refine lv_iadd hx hb dL_law_253 ?_
        refine va_sld hx hb hX hbl hbA hS hi2 dL_law_254 ?_
        refine mm_LVi (rest := []) (b := b1) (a := 0) hx hb hml hown hts hKK hPC hS (fun q h => by have := h.1; show s.heap.size ≤ q; omega) (Nat.le_of_ble_eq_true rfl) (rfl : kdC 0 = 16) (show vwCl[10]? = some (yX10_of.cls, TX10, 15) from rfl) vkL_39 (k_X10_of l D ce b1 IC LC RC hTC 0 (xs (nI i + (1 : Int32)).toNatClampNeg) (xs (nI i + (2 : Int32)).toNatClampNeg) rfl r IC1 LC1 hfC) rfl hl.1 rfl (Nat.le_of_ble_eq_true rfl) ⟨rfl, rfl⟩ ⟨Nat.le_of_ble_eq_true rfl, Nat.le_of_ble_eq_true rfl⟩ ⟨Nat.le_of_ble_eq_true rfl, Nat.le_of_ble_eq_true rfl⟩ dL_law_255 (fun H1 locs hPC hTC hS hk1 => ?_)
        have hPM := keepW hPM hk1 (fun q h1 h2 => by have := h1.1; have := h2.2; omega)
        generalize H1 = H at hPC hPM hS ⊢
        clear hk1
        refine lv_aload_n hx hb dL_law_258 rfl (lv_at hl 2 rfl) ?_
        refine lv_aload_n hx hb dL_law_259 rfl (lv_at hl 0 rfl) ?_
        refine lv_iload_n hx hb dL_law_260 rfl (lv_at hl 3 rfl) ?_
        refine lv_iconst (v := (1 : Int32)) hx hb dL_law_261 (by decide) ?_
        refine lv_iadd hx hb dL_law_262 ?_
        refine va_sld hx hb hX hbl hbA hS hi1 dL_law_263 ?_
        refine lv_aload_n hx hb dL_law_264 rfl (lv_at hl 0 rfl) ?_
        refine lv_iload_n hx hb dL_law_265 rfl (lv_at hl 3 rfl) ?_
        refine lv_iconst (v := (2 : Int32)) hx hb dL_law_266 (by decide) ?_
        refine lv_iadd hx hb dL_law_267 ?_
        refine va_sld hx hb hX hbl hbA hS hi2 dL_law_268 ?_
        refine mm_LVi (rest := [.int r]) (b := b2) (a := 0) hx hb hml hown hts hKK hPM hS (fun q h => by have := h.1; show s.heap.size ≤ q; omega) (Nat.le_of_ble_eq_true rfl) (rfl : kdM 0 = 17) (show vwCl[11]? = some (yX11_of.cls, TX11, 32) from rfl) vkL_43 (k_X11_of l D ce b2 IM LM RM hTM 0 (xs (nI i + (1 : Int32)).toNatClampNeg) (xs (nI i + (2 : Int32)).toNatClampNeg) rfl r IM1 hfM) rfl hl.1 rfl (Nat.le_of_ble_eq_true rfl) ⟨rfl, rfl⟩ ⟨Nat.le_of_ble_eq_true rfl, Nat.le_of_ble_eq_true rfl⟩ ⟨Nat.le_of_ble_eq_true rfl, Nat.le_of_ble_eq_true rfl⟩ dL_law_269 (fun H1 locs hPM hTM hS hk1 => ?_)
        have hPC := keepW hPC hk1 (fun q h1 h2 => by have := h1.2; have := h2.1; omega)
        generalize H1 = H at hPC hPM hS ⊢
        clear hk1
        refine lv_icmp_eq (tgt := 623) hx hb dL_law_272 (by decide) (fun cq => ?_) (fun cq => absurd rfl cq)
        exact htail IC1 LC1 RC IM1 LM RM hI hTC hTM H locs ls hPC hPM hS hl
      by_cases c7 : z = (7 : Int32)
      · refine lv_tableIn (off := 245) (tgt := 277) hx hb dL_law_32 (by rw [c7]; decide) (by rw [c7]; decide) (by rw [c7]; first | done | rfl) (by decide) ?_
        obtain ⟨r, IC1, IM1, hfC, hfM, hI⟩ := h_shown IC LC RC IM LM RM hI (xs (nI i + (1 : Int32)).toNatClampNeg) (xs (nI i + (2 : Int32)).toNatClampNeg)
        refine lv_aload_n hx hb dL_law_277 rfl (lv_at hl 1 rfl) ?_
        refine lv_aload_n hx hb dL_law_278 rfl (lv_at hl 0 rfl) ?_
        refine lv_iload_n hx hb dL_law_279 rfl (lv_at hl 3 rfl) ?_
        refine lv_iconst (v := (1 : Int32)) hx hb dL_law_280 (by decide) ?_
        refine lv_iadd hx hb dL_law_281 ?_
        refine va_sld hx hb hX hbl hbA hS hi1 dL_law_282 ?_
        refine lv_aload_n hx hb dL_law_283 rfl (lv_at hl 0 rfl) ?_
        refine lv_iload_n hx hb dL_law_284 rfl (lv_at hl 3 rfl) ?_
        refine lv_iconst (v := (2 : Int32)) hx hb dL_law_285 (by decide) ?_
        refine lv_iadd hx hb dL_law_286 ?_
        refine va_sld hx hb hX hbl hbA hS hi2 dL_law_287 ?_
        refine mm_LVi (rest := []) (b := b1) (a := 0) hx hb hml hown hts hKK hPC hS (fun q h => by have := h.1; show s.heap.size ≤ q; omega) (Nat.le_of_ble_eq_true rfl) (rfl : kdC 0 = 16) (show vwCl[10]? = some (yX10_shown.cls, TX10, 15) from rfl) vkL_44 (k_X10_shown l D ce b1 IC LC RC hTC 0 (xs (nI i + (1 : Int32)).toNatClampNeg) (xs (nI i + (2 : Int32)).toNatClampNeg) rfl r IC1 hfC) rfl hl.1 rfl (Nat.le_of_ble_eq_true rfl) ⟨rfl, rfl⟩ ⟨Nat.le_of_ble_eq_true rfl, Nat.le_of_ble_eq_true rfl⟩ ⟨Nat.le_of_ble_eq_true rfl, Nat.le_of_ble_eq_true rfl⟩ dL_law_288 (fun H1 locs hPC hTC hS hk1 => ?_)
        have hPM := keepW hPM hk1 (fun q h1 h2 => by have := h1.1; have := h2.2; omega)
        generalize H1 = H at hPC hPM hS ⊢
        clear hk1
        refine lv_aload_n hx hb dL_law_291 rfl (lv_at hl 2 rfl) ?_
        refine lv_aload_n hx hb dL_law_292 rfl (lv_at hl 0 rfl) ?_
        refine lv_iload_n hx hb dL_law_293 rfl (lv_at hl 3 rfl) ?_
        refine lv_iconst (v := (1 : Int32)) hx hb dL_law_294 (by decide) ?_
        refine lv_iadd hx hb dL_law_295 ?_
        refine va_sld hx hb hX hbl hbA hS hi1 dL_law_296 ?_
        refine lv_aload_n hx hb dL_law_297 rfl (lv_at hl 0 rfl) ?_
        refine lv_iload_n hx hb dL_law_298 rfl (lv_at hl 3 rfl) ?_
        refine lv_iconst (v := (2 : Int32)) hx hb dL_law_299 (by decide) ?_
        refine lv_iadd hx hb dL_law_300 ?_
        refine va_sld hx hb hX hbl hbA hS hi2 dL_law_301 ?_
        refine mm_LVi (rest := [.int r]) (b := b2) (a := 0) hx hb hml hown hts hKK hPM hS (fun q h => by have := h.1; show s.heap.size ≤ q; omega) (Nat.le_of_ble_eq_true rfl) (rfl : kdM 0 = 17) (show vwCl[11]? = some (yX11_shown.cls, TX11, 32) from rfl) vkL_47 (k_X11_shown l D ce b2 IM LM RM hTM 0 (xs (nI i + (1 : Int32)).toNatClampNeg) (xs (nI i + (2 : Int32)).toNatClampNeg) rfl r IM1 hfM) rfl hl.1 rfl (Nat.le_of_ble_eq_true rfl) ⟨rfl, rfl⟩ ⟨Nat.le_of_ble_eq_true rfl, Nat.le_of_ble_eq_true rfl⟩ ⟨Nat.le_of_ble_eq_true rfl, Nat.le_of_ble_eq_true rfl⟩ dL_law_302 (fun H1 locs hPM hTM hS hk1 => ?_)
        have hPC := keepW hPC hk1 (fun q h1 h2 => by have := h1.2; have := h2.1; omega)
        generalize H1 = H at hPC hPM hS ⊢
        clear hk1
        refine lv_icmp_eq (tgt := 623) hx hb dL_law_305 (by decide) (fun cq => ?_) (fun cq => absurd rfl cq)
        exact htail IC1 LC RC IM1 LM RM hI hTC hTM H locs ls hPC hPM hS hl
      by_cases c8 : z = (8 : Int32)
      · refine lv_tableIn (off := 278) (tgt := 310) hx hb dL_law_32 (by rw [c8]; decide) (by rw [c8]; decide) (by rw [c8]; first | done | rfl) (by decide) ?_
        obtain ⟨r, IC1, IM1, LM1, hfC, hfM, hI⟩ := h_fall IC LC RC IM LM RM hI ()
        refine lv_aload_n hx hb dL_law_310 rfl (lv_at hl 1 rfl) ?_
        refine mm_LVi (rest := []) (b := b1) (a := 0) hx hb hml hown hts hKK hPC hS (fun q h => by have := h.1; show s.heap.size ≤ q; omega) (Nat.le_of_ble_eq_true rfl) (rfl : kdC 0 = 16) (show vwCl[10]? = some (yX10_fall.cls, TX10, 15) from rfl) vkL_48 (k_X10_fall l D ce b1 IC LC RC hTC 0  rfl r IC1 hfC) rfl hl.1 rfl (Nat.le_of_ble_eq_true rfl) ⟨rfl, rfl⟩ ⟨Nat.le_of_ble_eq_true rfl, Nat.le_of_ble_eq_true rfl⟩ ⟨Nat.le_of_ble_eq_true rfl, Nat.le_of_ble_eq_true rfl⟩ dL_law_311 (fun H1 locs hPC hTC hS hk1 => ?_)
        have hPM := keepW hPM hk1 (fun q h1 h2 => by have := h1.1; have := h2.2; omega)
        generalize H1 = H at hPC hPM hS ⊢
        clear hk1
        refine lv_aload_n hx hb dL_law_314 rfl (lv_at hl 2 rfl) ?_
        refine mm_LVi (rest := [.int r]) (b := b2) (a := 0) hx hb hml hown hts hKK hPM hS (fun q h => by have := h.1; show s.heap.size ≤ q; omega) (Nat.le_of_ble_eq_true rfl) (rfl : kdM 0 = 17) (show vwCl[11]? = some (yX11_fall.cls, TX11, 32) from rfl) vkL_51 (k_X11_fall l D ce b2 IM LM RM hTM 0  rfl r IM1 LM1 hfM) rfl hl.1 rfl (Nat.le_of_ble_eq_true rfl) ⟨rfl, rfl⟩ ⟨Nat.le_of_ble_eq_true rfl, Nat.le_of_ble_eq_true rfl⟩ ⟨Nat.le_of_ble_eq_true rfl, Nat.le_of_ble_eq_true rfl⟩ dL_law_315 (fun H1 locs hPM hTM hS hk1 => ?_)
        have hPC := keepW hPC hk1 (fun q h1 h2 => by have := h1.2; have := h2.1; omega)
        generalize H1 = H at hPC hPM hS ⊢
        clear hk1
        refine lv_icmp_eq (tgt := 623) hx hb dL_law_318 (by decide) (fun cq => ?_) (fun cq => absurd rfl cq)
        exact htail IC1 LC RC IM1 LM1 RM hI hTC hTM H locs ls hPC hPM hS hl
      by_cases c9 : z = (9 : Int32)
      · refine lv_tableIn (off := 291) (tgt := 323) hx hb dL_law_32 (by rw [c9]; decide) (by rw [c9]; decide) (by rw [c9]; first | done | rfl) (by decide) ?_
        obtain ⟨r, IC1, IM1, LM1, hfC, hfM, hI⟩ := h_weighs IC LC RC IM LM RM hI (xs (nI i + (1 : Int32)).toNatClampNeg) (xs (nI i + (2 : Int32)).toNatClampNeg)
        refine lv_aload_n hx hb dL_law_323 rfl (lv_at hl 1 rfl) ?_
        refine lv_aload_n hx hb dL_law_324 rfl (lv_at hl 0 rfl) ?_
        refine lv_iload_n hx hb dL_law_325 rfl (lv_at hl 3 rfl) ?_
        refine lv_iconst (v := (1 : Int32)) hx hb dL_law_326 (by decide) ?_
        refine lv_iadd hx hb dL_law_327 ?_
        refine va_sld hx hb hX hbl hbA hS hi1 dL_law_328 ?_
        refine lv_aload_n hx hb dL_law_329 rfl (lv_at hl 0 rfl) ?_
        refine lv_iload_n hx hb dL_law_330 rfl (lv_at hl 3 rfl) ?_
        refine lv_iconst (v := (2 : Int32)) hx hb dL_law_331 (by decide) ?_
        refine lv_iadd hx hb dL_law_332 ?_
        refine va_sld hx hb hX hbl hbA hS hi2 dL_law_333 ?_
        refine mm_LVi (rest := []) (b := b1) (a := 0) hx hb hml hown hts hKK hPC hS (fun q h => by have := h.1; show s.heap.size ≤ q; omega) (Nat.le_of_ble_eq_true rfl) (rfl : kdC 0 = 16) (show vwCl[10]? = some (yX10_weighs.cls, TX10, 15) from rfl) vkL_52 (k_X10_weighs l D ce b1 IC LC RC hTC 0 (xs (nI i + (1 : Int32)).toNatClampNeg) (xs (nI i + (2 : Int32)).toNatClampNeg) rfl r IC1 hfC) rfl hl.1 rfl (Nat.le_of_ble_eq_true rfl) ⟨rfl, rfl⟩ ⟨Nat.le_of_ble_eq_true rfl, Nat.le_of_ble_eq_true rfl⟩ ⟨Nat.le_of_ble_eq_true rfl, Nat.le_of_ble_eq_true rfl⟩ dL_law_334 (fun H1 locs hPC hTC hS hk1 => ?_)
        have hPM := keepW hPM hk1 (fun q h1 h2 => by have := h1.1; have := h2.2; omega)
        generalize H1 = H at hPC hPM hS ⊢
        clear hk1
        refine lv_aload_n hx hb dL_law_337 rfl (lv_at hl 2 rfl) ?_
        refine lv_aload_n hx hb dL_law_338 rfl (lv_at hl 0 rfl) ?_
        refine lv_iload_n hx hb dL_law_339 rfl (lv_at hl 3 rfl) ?_
        refine lv_iconst (v := (1 : Int32)) hx hb dL_law_340 (by decide) ?_
        refine lv_iadd hx hb dL_law_341 ?_
        refine va_sld hx hb hX hbl hbA hS hi1 dL_law_342 ?_
        refine lv_aload_n hx hb dL_law_343 rfl (lv_at hl 0 rfl) ?_
        refine lv_iload_n hx hb dL_law_344 rfl (lv_at hl 3 rfl) ?_
        refine lv_iconst (v := (2 : Int32)) hx hb dL_law_345 (by decide) ?_
        refine lv_iadd hx hb dL_law_346 ?_
        refine va_sld hx hb hX hbl hbA hS hi2 dL_law_347 ?_
        refine mm_LVi (rest := [.int r]) (b := b2) (a := 0) hx hb hml hown hts hKK hPM hS (fun q h => by have := h.1; show s.heap.size ≤ q; omega) (Nat.le_of_ble_eq_true rfl) (rfl : kdM 0 = 17) (show vwCl[11]? = some (yX11_weighs.cls, TX11, 32) from rfl) vkL_55 (k_X11_weighs l D ce b2 IM LM RM hTM 0 (xs (nI i + (1 : Int32)).toNatClampNeg) (xs (nI i + (2 : Int32)).toNatClampNeg) rfl r IM1 LM1 hfM) rfl hl.1 rfl (Nat.le_of_ble_eq_true rfl) ⟨rfl, rfl⟩ ⟨Nat.le_of_ble_eq_true rfl, Nat.le_of_ble_eq_true rfl⟩ ⟨Nat.le_of_ble_eq_true rfl, Nat.le_of_ble_eq_true rfl⟩ dL_law_348 (fun H1 locs hPM hTM hS hk1 => ?_)
        have hPC := keepW hPC hk1 (fun q h1 h2 => by have := h1.2; have := h2.1; omega)
        generalize H1 = H at hPC hPM hS ⊢
        clear hk1
        refine lv_icmp_eq (tgt := 623) hx hb dL_law_351 (by decide) (fun cq => ?_) (fun cq => absurd rfl cq)
        exact htail IC1 LC RC IM1 LM1 RM hI hTC hTM H locs ls hPC hPM hS hl
      by_cases c10 : z = (10 : Int32)
      · refine lv_tableIn (off := 324) (tgt := 356) hx hb dL_law_32 (by rw [c10]; decide) (by rw [c10]; decide) (by rw [c10]; first | done | rfl) (by decide) ?_
        obtain ⟨r, IC1, LC1, IM1, LM1, hfC, hfM, hI⟩ := h_weight IC LC RC IM LM RM hI (xs (nI i + (1 : Int32)).toNatClampNeg)
        refine lv_aload_n hx hb dL_law_356 rfl (lv_at hl 1 rfl) ?_
        refine lv_aload_n hx hb dL_law_357 rfl (lv_at hl 0 rfl) ?_
        refine lv_iload_n hx hb dL_law_358 rfl (lv_at hl 3 rfl) ?_
        refine lv_iconst (v := (1 : Int32)) hx hb dL_law_359 (by decide) ?_
        refine lv_iadd hx hb dL_law_360 ?_
        refine va_sld hx hb hX hbl hbA hS hi1 dL_law_361 ?_
        refine mm_LVi (rest := []) (b := b1) (a := 0) hx hb hml hown hts hKK hPC hS (fun q h => by have := h.1; show s.heap.size ≤ q; omega) (Nat.le_of_ble_eq_true rfl) (rfl : kdC 0 = 16) (show vwCl[10]? = some (yX10_weight.cls, TX10, 15) from rfl) vkL_56 (k_X10_weight l D ce b1 IC LC RC hTC 0 (xs (nI i + (1 : Int32)).toNatClampNeg) rfl r IC1 LC1 hfC) rfl hl.1 rfl (Nat.le_of_ble_eq_true rfl) ⟨rfl, rfl⟩ ⟨Nat.le_of_ble_eq_true rfl, Nat.le_of_ble_eq_true rfl⟩ ⟨Nat.le_of_ble_eq_true rfl, Nat.le_of_ble_eq_true rfl⟩ dL_law_362 (fun H1 locs hPC hTC hS hk1 => ?_)
        have hPM := keepW hPM hk1 (fun q h1 h2 => by have := h1.1; have := h2.2; omega)
        generalize H1 = H at hPC hPM hS ⊢
        clear hk1
        refine lv_aload_n hx hb dL_law_365 rfl (lv_at hl 2 rfl) ?_
        refine lv_aload_n hx hb dL_law_366 rfl (lv_at hl 0 rfl) ?_
        refine lv_iload_n hx hb dL_law_367 rfl (lv_at hl 3 rfl) ?_
        refine lv_iconst (v := (1 : Int32)) hx hb dL_law_368 (by decide) ?_
        refine lv_iadd hx hb dL_law_369 ?_
        refine va_sld hx hb hX hbl hbA hS hi1 dL_law_370 ?_
        refine mm_LVi (rest := [.int r]) (b := b2) (a := 0) hx hb hml hown hts hKK hPM hS (fun q h => by have := h.1; show s.heap.size ≤ q; omega) (Nat.le_of_ble_eq_true rfl) (rfl : kdM 0 = 17) (show vwCl[11]? = some (yX11_weight.cls, TX11, 32) from rfl) vkL_59 (k_X11_weight l D ce b2 IM LM RM hTM 0 (xs (nI i + (1 : Int32)).toNatClampNeg) rfl r IM1 LM1 hfM) rfl hl.1 rfl (Nat.le_of_ble_eq_true rfl) ⟨rfl, rfl⟩ ⟨Nat.le_of_ble_eq_true rfl, Nat.le_of_ble_eq_true rfl⟩ ⟨Nat.le_of_ble_eq_true rfl, Nat.le_of_ble_eq_true rfl⟩ dL_law_371 (fun H1 locs hPM hTM hS hk1 => ?_)
        have hPC := keepW hPC hk1 (fun q h1 h2 => by have := h1.2; have := h2.1; omega)
        generalize H1 = H at hPC hPM hS ⊢
        clear hk1
        refine lv_icmp_eq (tgt := 623) hx hb dL_law_374 (by decide) (fun cq => ?_) (fun cq => absurd rfl cq)
        exact htail IC1 LC1 RC IM1 LM1 RM hI hTC hTM H locs ls hPC hPM hS hl
      by_cases c11 : z = (11 : Int32)
      · refine lv_tableIn (off := 347) (tgt := 379) hx hb dL_law_32 (by rw [c11]; decide) (by rw [c11]; decide) (by rw [c11]; first | done | rfl) (by decide) ?_
        obtain ⟨r, IC1, LC1, IM1, LM1, hfC, hfM, hI⟩ := h_calls IC LC RC IM LM RM hI (xs (nI i + (1 : Int32)).toNatClampNeg)
        refine lv_aload_n hx hb dL_law_379 rfl (lv_at hl 1 rfl) ?_
        refine lv_aload_n hx hb dL_law_380 rfl (lv_at hl 0 rfl) ?_
        refine lv_iload_n hx hb dL_law_381 rfl (lv_at hl 3 rfl) ?_
        refine lv_iconst (v := (1 : Int32)) hx hb dL_law_382 (by decide) ?_
        refine lv_iadd hx hb dL_law_383 ?_
        refine va_sld hx hb hX hbl hbA hS hi1 dL_law_384 ?_
        refine mm_LVi (rest := []) (b := b1) (a := 0) hx hb hml hown hts hKK hPC hS (fun q h => by have := h.1; show s.heap.size ≤ q; omega) (Nat.le_of_ble_eq_true rfl) (rfl : kdC 0 = 16) (show vwCl[10]? = some (yX10_calls.cls, TX10, 15) from rfl) vkL_60 (k_X10_calls l D ce b1 IC LC RC hTC 0 (xs (nI i + (1 : Int32)).toNatClampNeg) rfl r IC1 LC1 hfC) rfl hl.1 rfl (Nat.le_of_ble_eq_true rfl) ⟨rfl, rfl⟩ ⟨Nat.le_of_ble_eq_true rfl, Nat.le_of_ble_eq_true rfl⟩ ⟨Nat.le_of_ble_eq_true rfl, Nat.le_of_ble_eq_true rfl⟩ dL_law_385 (fun H1 locs hPC hTC hS hk1 => ?_)
        have hPM := keepW hPM hk1 (fun q h1 h2 => by have := h1.1; have := h2.2; omega)
        generalize H1 = H at hPC hPM hS ⊢
        clear hk1
        refine lv_aload_n hx hb dL_law_388 rfl (lv_at hl 2 rfl) ?_
        refine lv_aload_n hx hb dL_law_389 rfl (lv_at hl 0 rfl) ?_
        refine lv_iload_n hx hb dL_law_390 rfl (lv_at hl 3 rfl) ?_
        refine lv_iconst (v := (1 : Int32)) hx hb dL_law_391 (by decide) ?_
        refine lv_iadd hx hb dL_law_392 ?_
        refine va_sld hx hb hX hbl hbA hS hi1 dL_law_393 ?_
        refine mm_LVi (rest := [.int r]) (b := b2) (a := 0) hx hb hml hown hts hKK hPM hS (fun q h => by have := h.1; show s.heap.size ≤ q; omega) (Nat.le_of_ble_eq_true rfl) (rfl : kdM 0 = 17) (show vwCl[11]? = some (yX11_calls.cls, TX11, 32) from rfl) vkL_63 (k_X11_calls l D ce b2 IM LM RM hTM 0 (xs (nI i + (1 : Int32)).toNatClampNeg) rfl r IM1 LM1 hfM) rfl hl.1 rfl (Nat.le_of_ble_eq_true rfl) ⟨rfl, rfl⟩ ⟨Nat.le_of_ble_eq_true rfl, Nat.le_of_ble_eq_true rfl⟩ ⟨Nat.le_of_ble_eq_true rfl, Nat.le_of_ble_eq_true rfl⟩ dL_law_394 (fun H1 locs hPM hTM hS hk1 => ?_)
        have hPC := keepW hPC hk1 (fun q h1 h2 => by have := h1.2; have := h2.1; omega)
        generalize H1 = H at hPC hPM hS ⊢
        clear hk1
        refine lv_icmp_eq (tgt := 623) hx hb dL_law_397 (by decide) (fun cq => ?_) (fun cq => absurd rfl cq)
        exact htail IC1 LC1 RC IM1 LM1 RM hI hTC hTM H locs ls hPC hPM hS hl
      by_cases c12 : z = (12 : Int32)
      · refine lv_tableIn (off := 370) (tgt := 402) hx hb dL_law_32 (by rw [c12]; decide) (by rw [c12]; decide) (by rw [c12]; first | done | rfl) (by decide) ?_
        obtain ⟨r, IC1, LC1, IM1, hfC, hfM, hI⟩ := h_call IC LC RC IM LM RM hI (xs (nI i + (1 : Int32)).toNatClampNeg) (xs (nI i + (2 : Int32)).toNatClampNeg)
        refine lv_aload_n hx hb dL_law_402 rfl (lv_at hl 1 rfl) ?_
        refine lv_aload_n hx hb dL_law_403 rfl (lv_at hl 0 rfl) ?_
        refine lv_iload_n hx hb dL_law_404 rfl (lv_at hl 3 rfl) ?_
        refine lv_iconst (v := (1 : Int32)) hx hb dL_law_405 (by decide) ?_
        refine lv_iadd hx hb dL_law_406 ?_
        refine va_sld hx hb hX hbl hbA hS hi1 dL_law_407 ?_
        refine lv_aload_n hx hb dL_law_408 rfl (lv_at hl 0 rfl) ?_
        refine lv_iload_n hx hb dL_law_409 rfl (lv_at hl 3 rfl) ?_
        refine lv_iconst (v := (2 : Int32)) hx hb dL_law_410 (by decide) ?_
        refine lv_iadd hx hb dL_law_411 ?_
        refine va_sld hx hb hX hbl hbA hS hi2 dL_law_412 ?_
        refine mm_LVi (rest := []) (b := b1) (a := 0) hx hb hml hown hts hKK hPC hS (fun q h => by have := h.1; show s.heap.size ≤ q; omega) (Nat.le_of_ble_eq_true rfl) (rfl : kdC 0 = 16) (show vwCl[10]? = some (yX10_call.cls, TX10, 15) from rfl) vkL_64 (k_X10_call l D ce b1 IC LC RC hTC 0 (xs (nI i + (1 : Int32)).toNatClampNeg) (xs (nI i + (2 : Int32)).toNatClampNeg) rfl r IC1 LC1 hfC) rfl hl.1 rfl (Nat.le_of_ble_eq_true rfl) ⟨rfl, rfl⟩ ⟨Nat.le_of_ble_eq_true rfl, Nat.le_of_ble_eq_true rfl⟩ ⟨Nat.le_of_ble_eq_true rfl, Nat.le_of_ble_eq_true rfl⟩ dL_law_413 (fun H1 locs hPC hTC hS hk1 => ?_)
        have hPM := keepW hPM hk1 (fun q h1 h2 => by have := h1.1; have := h2.2; omega)
        generalize H1 = H at hPC hPM hS ⊢
        clear hk1
        refine lv_aload_n hx hb dL_law_416 rfl (lv_at hl 2 rfl) ?_
        refine lv_aload_n hx hb dL_law_417 rfl (lv_at hl 0 rfl) ?_
        refine lv_iload_n hx hb dL_law_418 rfl (lv_at hl 3 rfl) ?_
        refine lv_iconst (v := (1 : Int32)) hx hb dL_law_419 (by decide) ?_
        refine lv_iadd hx hb dL_law_420 ?_
        refine va_sld hx hb hX hbl hbA hS hi1 dL_law_421 ?_
        refine lv_aload_n hx hb dL_law_422 rfl (lv_at hl 0 rfl) ?_
        refine lv_iload_n hx hb dL_law_423 rfl (lv_at hl 3 rfl) ?_
        refine lv_iconst (v := (2 : Int32)) hx hb dL_law_424 (by decide) ?_
        refine lv_iadd hx hb dL_law_425 ?_
        refine va_sld hx hb hX hbl hbA hS hi2 dL_law_426 ?_
        refine mm_LVi (rest := [.int r]) (b := b2) (a := 0) hx hb hml hown hts hKK hPM hS (fun q h => by have := h.1; show s.heap.size ≤ q; omega) (Nat.le_of_ble_eq_true rfl) (rfl : kdM 0 = 17) (show vwCl[11]? = some (yX11_call.cls, TX11, 32) from rfl) vkL_67 (k_X11_call l D ce b2 IM LM RM hTM 0 (xs (nI i + (1 : Int32)).toNatClampNeg) (xs (nI i + (2 : Int32)).toNatClampNeg) rfl r IM1 hfM) rfl hl.1 rfl (Nat.le_of_ble_eq_true rfl) ⟨rfl, rfl⟩ ⟨Nat.le_of_ble_eq_true rfl, Nat.le_of_ble_eq_true rfl⟩ ⟨Nat.le_of_ble_eq_true rfl, Nat.le_of_ble_eq_true rfl⟩ dL_law_427 (fun H1 locs hPM hTM hS hk1 => ?_)
        have hPC := keepW hPC hk1 (fun q h1 h2 => by have := h1.2; have := h2.1; omega)
        generalize H1 = H at hPC hPM hS ⊢
        clear hk1
        refine lv_icmp_eq (tgt := 623) hx hb dL_law_430 (by decide) (fun cq => ?_) (fun cq => absurd rfl cq)
        exact htail IC1 LC1 RC IM1 LM RM hI hTC hTM H locs ls hPC hPM hS hl
      by_cases c13 : z = (13 : Int32)
      · refine lv_tableIn (off := 403) (tgt := 435) hx hb dL_law_32 (by rw [c13]; decide) (by rw [c13]; decide) (by rw [c13]; first | done | rfl) (by decide) ?_
        obtain ⟨r, IC1, LC1, IM1, hfC, hfM, hI⟩ := h_follows IC LC RC IM LM RM hI (xs (nI i + (1 : Int32)).toNatClampNeg) (xs (nI i + (2 : Int32)).toNatClampNeg)
        refine lv_aload_n hx hb dL_law_435 rfl (lv_at hl 1 rfl) ?_
        refine lv_aload_n hx hb dL_law_436 rfl (lv_at hl 0 rfl) ?_
        refine lv_iload_n hx hb dL_law_437 rfl (lv_at hl 3 rfl) ?_
        refine lv_iconst (v := (1 : Int32)) hx hb dL_law_438 (by decide) ?_
        refine lv_iadd hx hb dL_law_439 ?_
        refine va_sld hx hb hX hbl hbA hS hi1 dL_law_440 ?_
        refine lv_aload_n hx hb dL_law_441 rfl (lv_at hl 0 rfl) ?_
        refine lv_iload_n hx hb dL_law_442 rfl (lv_at hl 3 rfl) ?_
        refine lv_iconst (v := (2 : Int32)) hx hb dL_law_443 (by decide) ?_
        refine lv_iadd hx hb dL_law_444 ?_
        refine va_sld hx hb hX hbl hbA hS hi2 dL_law_445 ?_
        refine mm_LVi (rest := []) (b := b1) (a := 0) hx hb hml hown hts hKK hPC hS (fun q h => by have := h.1; show s.heap.size ≤ q; omega) (Nat.le_of_ble_eq_true rfl) (rfl : kdC 0 = 16) (show vwCl[10]? = some (yX10_follows.cls, TX10, 15) from rfl) vkL_68 (k_X10_follows l D ce b1 IC LC RC hTC 0 (xs (nI i + (1 : Int32)).toNatClampNeg) (xs (nI i + (2 : Int32)).toNatClampNeg) rfl r IC1 LC1 hfC) rfl hl.1 rfl (Nat.le_of_ble_eq_true rfl) ⟨rfl, rfl⟩ ⟨Nat.le_of_ble_eq_true rfl, Nat.le_of_ble_eq_true rfl⟩ ⟨Nat.le_of_ble_eq_true rfl, Nat.le_of_ble_eq_true rfl⟩ dL_law_446 (fun H1 locs hPC hTC hS hk1 => ?_)
        have hPM := keepW hPM hk1 (fun q h1 h2 => by have := h1.1; have := h2.2; omega)
        generalize H1 = H at hPC hPM hS ⊢
        clear hk1
        refine lv_aload_n hx hb dL_law_449 rfl (lv_at hl 2 rfl) ?_
        refine lv_aload_n hx hb dL_law_450 rfl (lv_at hl 0 rfl) ?_
        refine lv_iload_n hx hb dL_law_451 rfl (lv_at hl 3 rfl) ?_
        refine lv_iconst (v := (1 : Int32)) hx hb dL_law_452 (by decide) ?_
        refine lv_iadd hx hb dL_law_453 ?_
        refine va_sld hx hb hX hbl hbA hS hi1 dL_law_454 ?_
        refine lv_aload_n hx hb dL_law_455 rfl (lv_at hl 0 rfl) ?_
        refine lv_iload_n hx hb dL_law_456 rfl (lv_at hl 3 rfl) ?_
        refine lv_iconst (v := (2 : Int32)) hx hb dL_law_457 (by decide) ?_
        refine lv_iadd hx hb dL_law_458 ?_
        refine va_sld hx hb hX hbl hbA hS hi2 dL_law_459 ?_
        refine mm_LVi (rest := [.int r]) (b := b2) (a := 0) hx hb hml hown hts hKK hPM hS (fun q h => by have := h.1; show s.heap.size ≤ q; omega) (Nat.le_of_ble_eq_true rfl) (rfl : kdM 0 = 17) (show vwCl[11]? = some (yX11_follows.cls, TX11, 32) from rfl) vkL_71 (k_X11_follows l D ce b2 IM LM RM hTM 0 (xs (nI i + (1 : Int32)).toNatClampNeg) (xs (nI i + (2 : Int32)).toNatClampNeg) rfl r IM1 hfM) rfl hl.1 rfl (Nat.le_of_ble_eq_true rfl) ⟨rfl, rfl⟩ ⟨Nat.le_of_ble_eq_true rfl, Nat.le_of_ble_eq_true rfl⟩ ⟨Nat.le_of_ble_eq_true rfl, Nat.le_of_ble_eq_true rfl⟩ dL_law_460 (fun H1 locs hPM hTM hS hk1 => ?_)
        have hPC := keepW hPC hk1 (fun q h1 h2 => by have := h1.2; have := h2.1; omega)
        generalize H1 = H at hPC hPM hS ⊢
        clear hk1
        refine lv_icmp_eq (tgt := 623) hx hb dL_law_463 (by decide) (fun cq => ?_) (fun cq => absurd rfl cq)
        exact htail IC1 LC1 RC IM1 LM RM hI hTC hTM H locs ls hPC hPM hS hl
      by_cases c14 : z = (14 : Int32)
      · refine lv_tableIn (off := 436) (tgt := 468) hx hb dL_law_32 (by rw [c14]; decide) (by rw [c14]; decide) (by rw [c14]; first | done | rfl) (by decide) ?_
        obtain ⟨r, IC1, LC1, IM1, LM1, hfC, hfM, hI⟩ := h_lighter IC LC RC IM LM RM hI (xs (nI i + (1 : Int32)).toNatClampNeg)
        refine lv_aload_n hx hb dL_law_468 rfl (lv_at hl 1 rfl) ?_
        refine lv_aload_n hx hb dL_law_469 rfl (lv_at hl 0 rfl) ?_
        refine lv_iload_n hx hb dL_law_470 rfl (lv_at hl 3 rfl) ?_
        refine lv_iconst (v := (1 : Int32)) hx hb dL_law_471 (by decide) ?_
        refine lv_iadd hx hb dL_law_472 ?_
        refine va_sld hx hb hX hbl hbA hS hi1 dL_law_473 ?_
        refine mm_LVi (rest := []) (b := b1) (a := 0) hx hb hml hown hts hKK hPC hS (fun q h => by have := h.1; show s.heap.size ≤ q; omega) (Nat.le_of_ble_eq_true rfl) (rfl : kdC 0 = 16) (show vwCl[10]? = some (yX10_lighter.cls, TX10, 15) from rfl) vkL_72 (k_X10_lighter l D ce b1 IC LC RC hTC 0 (xs (nI i + (1 : Int32)).toNatClampNeg) rfl r IC1 LC1 hfC) rfl hl.1 rfl (Nat.le_of_ble_eq_true rfl) ⟨rfl, rfl⟩ ⟨Nat.le_of_ble_eq_true rfl, Nat.le_of_ble_eq_true rfl⟩ ⟨Nat.le_of_ble_eq_true rfl, Nat.le_of_ble_eq_true rfl⟩ dL_law_474 (fun H1 locs hPC hTC hS hk1 => ?_)
        have hPM := keepW hPM hk1 (fun q h1 h2 => by have := h1.1; have := h2.2; omega)
        generalize H1 = H at hPC hPM hS ⊢
        clear hk1
        refine lv_aload_n hx hb dL_law_477 rfl (lv_at hl 2 rfl) ?_
        refine lv_aload_n hx hb dL_law_478 rfl (lv_at hl 0 rfl) ?_
        refine lv_iload_n hx hb dL_law_479 rfl (lv_at hl 3 rfl) ?_
        refine lv_iconst (v := (1 : Int32)) hx hb dL_law_480 (by decide) ?_
        refine lv_iadd hx hb dL_law_481 ?_
        refine va_sld hx hb hX hbl hbA hS hi1 dL_law_482 ?_
        refine mm_LVi (rest := [.int r]) (b := b2) (a := 0) hx hb hml hown hts hKK hPM hS (fun q h => by have := h.1; show s.heap.size ≤ q; omega) (Nat.le_of_ble_eq_true rfl) (rfl : kdM 0 = 17) (show vwCl[11]? = some (yX11_lighter.cls, TX11, 32) from rfl) vkL_75 (k_X11_lighter l D ce b2 IM LM RM hTM 0 (xs (nI i + (1 : Int32)).toNatClampNeg) rfl r IM1 LM1 hfM) rfl hl.1 rfl (Nat.le_of_ble_eq_true rfl) ⟨rfl, rfl⟩ ⟨Nat.le_of_ble_eq_true rfl, Nat.le_of_ble_eq_true rfl⟩ ⟨Nat.le_of_ble_eq_true rfl, Nat.le_of_ble_eq_true rfl⟩ dL_law_483 (fun H1 locs hPM hTM hS hk1 => ?_)
        have hPC := keepW hPC hk1 (fun q h1 h2 => by have := h1.2; have := h2.1; omega)
        generalize H1 = H at hPC hPM hS ⊢
        clear hk1
        refine lv_icmp_eq (tgt := 623) hx hb dL_law_486 (by decide) (fun cq => ?_) (fun cq => absurd rfl cq)
        exact htail IC1 LC1 RC IM1 LM1 RM hI hTC hTM H locs ls hPC hPM hS hl
      by_cases c15 : z = (15 : Int32)
      · refine lv_tableIn (off := 459) (tgt := 491) hx hb dL_law_32 (by rw [c15]; decide) (by rw [c15]; decide) (by rw [c15]; first | done | rfl) (by decide) ?_
        obtain ⟨r, IC1, RC1, IM1, hfC, hfM, hI⟩ := h_turns IC LC RC IM LM RM hI (xs (nI i + (1 : Int32)).toNatClampNeg)
        refine lv_aload_n hx hb dL_law_491 rfl (lv_at hl 1 rfl) ?_
        refine lv_aload_n hx hb dL_law_492 rfl (lv_at hl 0 rfl) ?_
        refine lv_iload_n hx hb dL_law_493 rfl (lv_at hl 3 rfl) ?_
        refine lv_iconst (v := (1 : Int32)) hx hb dL_law_494 (by decide) ?_
        refine lv_iadd hx hb dL_law_495 ?_
        refine va_sld hx hb hX hbl hbA hS hi1 dL_law_496 ?_
        refine mm_LVi (rest := []) (b := b1) (a := 0) hx hb hml hown hts hKK hPC hS (fun q h => by have := h.1; show s.heap.size ≤ q; omega) (Nat.le_of_ble_eq_true rfl) (rfl : kdC 0 = 16) (show vwCl[10]? = some (yX10_turns.cls, TX10, 15) from rfl) vkL_76 (k_X10_turns l D ce b1 IC LC RC hTC 0 (xs (nI i + (1 : Int32)).toNatClampNeg) rfl r IC1 RC1 hfC) rfl hl.1 rfl (Nat.le_of_ble_eq_true rfl) ⟨rfl, rfl⟩ ⟨Nat.le_of_ble_eq_true rfl, Nat.le_of_ble_eq_true rfl⟩ ⟨Nat.le_of_ble_eq_true rfl, Nat.le_of_ble_eq_true rfl⟩ dL_law_497 (fun H1 locs hPC hTC hS hk1 => ?_)
        have hPM := keepW hPM hk1 (fun q h1 h2 => by have := h1.1; have := h2.2; omega)
        generalize H1 = H at hPC hPM hS ⊢
        clear hk1
        refine lv_aload_n hx hb dL_law_500 rfl (lv_at hl 2 rfl) ?_
        refine lv_aload_n hx hb dL_law_501 rfl (lv_at hl 0 rfl) ?_
        refine lv_iload_n hx hb dL_law_502 rfl (lv_at hl 3 rfl) ?_
        refine lv_iconst (v := (1 : Int32)) hx hb dL_law_503 (by decide) ?_
        refine lv_iadd hx hb dL_law_504 ?_
        refine va_sld hx hb hX hbl hbA hS hi1 dL_law_505 ?_
        refine mm_LVi (rest := [.int r]) (b := b2) (a := 0) hx hb hml hown hts hKK hPM hS (fun q h => by have := h.1; show s.heap.size ≤ q; omega) (Nat.le_of_ble_eq_true rfl) (rfl : kdM 0 = 17) (show vwCl[11]? = some (yX11_turns.cls, TX11, 32) from rfl) vkL_79 (k_X11_turns l D ce b2 IM LM RM hTM 0 (xs (nI i + (1 : Int32)).toNatClampNeg) rfl r IM1 hfM) rfl hl.1 rfl (Nat.le_of_ble_eq_true rfl) ⟨rfl, rfl⟩ ⟨Nat.le_of_ble_eq_true rfl, Nat.le_of_ble_eq_true rfl⟩ ⟨Nat.le_of_ble_eq_true rfl, Nat.le_of_ble_eq_true rfl⟩ dL_law_506 (fun H1 locs hPM hTM hS hk1 => ?_)
        have hPC := keepW hPC hk1 (fun q h1 h2 => by have := h1.2; have := h2.1; omega)
        generalize H1 = H at hPC hPM hS ⊢
        clear hk1
        refine lv_icmp_eq (tgt := 623) hx hb dL_law_509 (by decide) (fun cq => ?_) (fun cq => absurd rfl cq)
        exact htail IC1 LC RC1 IM1 LM RM hI hTC hTM H locs ls hPC hPM hS hl
      by_cases c16 : z = (16 : Int32)
      · refine lv_tableIn (off := 482) (tgt := 514) hx hb dL_law_32 (by rw [c16]; decide) (by rw [c16]; decide) (by rw [c16]; first | done | rfl) (by decide) ?_
        obtain ⟨r, IC1, IM1, hfC, hfM, hI⟩ := h_settles IC LC RC IM LM RM hI ()
        refine lv_aload_n hx hb dL_law_514 rfl (lv_at hl 1 rfl) ?_
        refine mm_LVi (rest := []) (b := b1) (a := 0) hx hb hml hown hts hKK hPC hS (fun q h => by have := h.1; show s.heap.size ≤ q; omega) (Nat.le_of_ble_eq_true rfl) (rfl : kdC 0 = 16) (show vwCl[10]? = some (yX10_settles.cls, TX10, 15) from rfl) vkL_80 (k_X10_settles l D ce b1 IC LC RC hTC 0  rfl r IC1 hfC) rfl hl.1 rfl (Nat.le_of_ble_eq_true rfl) ⟨rfl, rfl⟩ ⟨Nat.le_of_ble_eq_true rfl, Nat.le_of_ble_eq_true rfl⟩ ⟨Nat.le_of_ble_eq_true rfl, Nat.le_of_ble_eq_true rfl⟩ dL_law_515 (fun H1 locs hPC hTC hS hk1 => ?_)
        have hPM := keepW hPM hk1 (fun q h1 h2 => by have := h1.1; have := h2.2; omega)
        generalize H1 = H at hPC hPM hS ⊢
        clear hk1
        refine lv_aload_n hx hb dL_law_518 rfl (lv_at hl 2 rfl) ?_
        refine mm_LVi (rest := [.int r]) (b := b2) (a := 0) hx hb hml hown hts hKK hPM hS (fun q h => by have := h.1; show s.heap.size ≤ q; omega) (Nat.le_of_ble_eq_true rfl) (rfl : kdM 0 = 17) (show vwCl[11]? = some (yX11_settles.cls, TX11, 32) from rfl) vkL_83 (k_X11_settles l D ce b2 IM LM RM hTM 0  rfl r IM1 hfM) rfl hl.1 rfl (Nat.le_of_ble_eq_true rfl) ⟨rfl, rfl⟩ ⟨Nat.le_of_ble_eq_true rfl, Nat.le_of_ble_eq_true rfl⟩ ⟨Nat.le_of_ble_eq_true rfl, Nat.le_of_ble_eq_true rfl⟩ dL_law_519 (fun H1 locs hPM hTM hS hk1 => ?_)
        have hPC := keepW hPC hk1 (fun q h1 h2 => by have := h1.2; have := h2.1; omega)
        generalize H1 = H at hPC hPM hS ⊢
        clear hk1
        refine lv_icmp_eq (tgt := 623) hx hb dL_law_522 (by decide) (fun cq => ?_) (fun cq => absurd rfl cq)
        exact htail IC1 LC RC IM1 LM RM hI hTC hTM H locs ls hPC hPM hS hl
      by_cases c17 : z = (17 : Int32)
      · refine lv_tableIn (off := 495) (tgt := 527) hx hb dL_law_32 (by rw [c17]; decide) (by rw [c17]; decide) (by rw [c17]; first | done | rfl) (by decide) ?_
        obtain ⟨r, IC1, IM1, hfC, hfM, hI⟩ := h_next IC LC RC IM LM RM hI (xs (nI i + (1 : Int32)).toNatClampNeg)
        refine lv_aload_n hx hb dL_law_527 rfl (lv_at hl 1 rfl) ?_
        refine lv_aload_n hx hb dL_law_528 rfl (lv_at hl 0 rfl) ?_
        refine lv_iload_n hx hb dL_law_529 rfl (lv_at hl 3 rfl) ?_
        refine lv_iconst (v := (1 : Int32)) hx hb dL_law_530 (by decide) ?_
        refine lv_iadd hx hb dL_law_531 ?_
        refine va_sld hx hb hX hbl hbA hS hi1 dL_law_532 ?_
        refine mm_LVi (rest := []) (b := b1) (a := 0) hx hb hml hown hts hKK hPC hS (fun q h => by have := h.1; show s.heap.size ≤ q; omega) (Nat.le_of_ble_eq_true rfl) (rfl : kdC 0 = 16) (show vwCl[10]? = some (yX10_next.cls, TX10, 15) from rfl) vkL_84 (k_X10_next l D ce b1 IC LC RC hTC 0 (xs (nI i + (1 : Int32)).toNatClampNeg) rfl r IC1 hfC) rfl hl.1 rfl (Nat.le_of_ble_eq_true rfl) ⟨rfl, rfl⟩ ⟨Nat.le_of_ble_eq_true rfl, Nat.le_of_ble_eq_true rfl⟩ ⟨Nat.le_of_ble_eq_true rfl, Nat.le_of_ble_eq_true rfl⟩ dL_law_533 (fun H1 locs hPC hTC hS hk1 => ?_)
        have hPM := keepW hPM hk1 (fun q h1 h2 => by have := h1.1; have := h2.2; omega)
        generalize H1 = H at hPC hPM hS ⊢
        clear hk1
        refine lv_aload_n hx hb dL_law_536 rfl (lv_at hl 2 rfl) ?_
        refine lv_aload_n hx hb dL_law_537 rfl (lv_at hl 0 rfl) ?_
        refine lv_iload_n hx hb dL_law_538 rfl (lv_at hl 3 rfl) ?_
        refine lv_iconst (v := (1 : Int32)) hx hb dL_law_539 (by decide) ?_
        refine lv_iadd hx hb dL_law_540 ?_
        refine va_sld hx hb hX hbl hbA hS hi1 dL_law_541 ?_
        refine mm_LVi (rest := [.int r]) (b := b2) (a := 0) hx hb hml hown hts hKK hPM hS (fun q h => by have := h.1; show s.heap.size ≤ q; omega) (Nat.le_of_ble_eq_true rfl) (rfl : kdM 0 = 17) (show vwCl[11]? = some (yX11_next.cls, TX11, 32) from rfl) vkL_87 (k_X11_next l D ce b2 IM LM RM hTM 0 (xs (nI i + (1 : Int32)).toNatClampNeg) rfl r IM1 hfM) rfl hl.1 rfl (Nat.le_of_ble_eq_true rfl) ⟨rfl, rfl⟩ ⟨Nat.le_of_ble_eq_true rfl, Nat.le_of_ble_eq_true rfl⟩ ⟨Nat.le_of_ble_eq_true rfl, Nat.le_of_ble_eq_true rfl⟩ dL_law_542 (fun H1 locs hPM hTM hS hk1 => ?_)
        have hPC := keepW hPC hk1 (fun q h1 h2 => by have := h1.2; have := h2.1; omega)
        generalize H1 = H at hPC hPM hS ⊢
        clear hk1
        refine lv_icmp_eq (tgt := 623) hx hb dL_law_545 (by decide) (fun cq => ?_) (fun cq => absurd rfl cq)
        exact htail IC1 LC RC IM1 LM RM hI hTC hTM H locs ls hPC hPM hS hl
      by_cases c18 : z = (18 : Int32)
      · refine lv_tableIn (off := 518) (tgt := 550) hx hb dL_law_32 (by rw [c18]; decide) (by rw [c18]; decide) (by rw [c18]; first | done | rfl) (by decide) ?_
        obtain ⟨r, IC1, IM1, hfC, hfM, hI⟩ := h_letter IC LC RC IM LM RM hI (xs (nI i + (1 : Int32)).toNatClampNeg)
        refine lv_aload_n hx hb dL_law_550 rfl (lv_at hl 1 rfl) ?_
        refine lv_aload_n hx hb dL_law_551 rfl (lv_at hl 0 rfl) ?_
        refine lv_iload_n hx hb dL_law_552 rfl (lv_at hl 3 rfl) ?_
        refine lv_iconst (v := (1 : Int32)) hx hb dL_law_553 (by decide) ?_
        refine lv_iadd hx hb dL_law_554 ?_
        refine va_sld hx hb hX hbl hbA hS hi1 dL_law_555 ?_
        refine mm_LVi (rest := []) (b := b1) (a := 0) hx hb hml hown hts hKK hPC hS (fun q h => by have := h.1; show s.heap.size ≤ q; omega) (Nat.le_of_ble_eq_true rfl) (rfl : kdC 0 = 16) (show vwCl[10]? = some (yX10_letter.cls, TX10, 15) from rfl) vkL_88 (k_X10_letter l D ce b1 IC LC RC hTC 0 (xs (nI i + (1 : Int32)).toNatClampNeg) rfl r IC1 hfC) rfl hl.1 rfl (Nat.le_of_ble_eq_true rfl) ⟨rfl, rfl⟩ ⟨Nat.le_of_ble_eq_true rfl, Nat.le_of_ble_eq_true rfl⟩ ⟨Nat.le_of_ble_eq_true rfl, Nat.le_of_ble_eq_true rfl⟩ dL_law_556 (fun H1 locs hPC hTC hS hk1 => ?_)
        have hPM := keepW hPM hk1 (fun q h1 h2 => by have := h1.1; have := h2.2; omega)
        generalize H1 = H at hPC hPM hS ⊢
        clear hk1
        refine lv_aload_n hx hb dL_law_559 rfl (lv_at hl 2 rfl) ?_
        refine lv_aload_n hx hb dL_law_560 rfl (lv_at hl 0 rfl) ?_
        refine lv_iload_n hx hb dL_law_561 rfl (lv_at hl 3 rfl) ?_
        refine lv_iconst (v := (1 : Int32)) hx hb dL_law_562 (by decide) ?_
        refine lv_iadd hx hb dL_law_563 ?_
        refine va_sld hx hb hX hbl hbA hS hi1 dL_law_564 ?_
        refine mm_LVi (rest := [.int r]) (b := b2) (a := 0) hx hb hml hown hts hKK hPM hS (fun q h => by have := h.1; show s.heap.size ≤ q; omega) (Nat.le_of_ble_eq_true rfl) (rfl : kdM 0 = 17) (show vwCl[11]? = some (yX11_letter.cls, TX11, 32) from rfl) vkL_91 (k_X11_letter l D ce b2 IM LM RM hTM 0 (xs (nI i + (1 : Int32)).toNatClampNeg) rfl r IM1 hfM) rfl hl.1 rfl (Nat.le_of_ble_eq_true rfl) ⟨rfl, rfl⟩ ⟨Nat.le_of_ble_eq_true rfl, Nat.le_of_ble_eq_true rfl⟩ ⟨Nat.le_of_ble_eq_true rfl, Nat.le_of_ble_eq_true rfl⟩ dL_law_565 (fun H1 locs hPM hTM hS hk1 => ?_)
        have hPC := keepW hPC hk1 (fun q h1 h2 => by have := h1.2; have := h2.1; omega)
        generalize H1 = H at hPC hPM hS ⊢
        clear hk1
        refine lv_icmp_eq (tgt := 623) hx hb dL_law_568 (by decide) (fun cq => ?_) (fun cq => absurd rfl cq)
        exact htail IC1 LC RC IM1 LM RM hI hTC hTM H locs ls hPC hPM hS hl
      by_cases c19 : z = (19 : Int32)
      · refine lv_tableIn (off := 541) (tgt := 573) hx hb dL_law_32 (by rw [c19]; decide) (by rw [c19]; decide) (by rw [c19]; first | done | rfl) (by decide) ?_
        obtain ⟨r, IC1, IM1, hfC, hfM, hI⟩ := h_back IC LC RC IM LM RM hI ()
        refine lv_aload_n hx hb dL_law_573 rfl (lv_at hl 1 rfl) ?_
        refine mm_LVi (rest := []) (b := b1) (a := 0) hx hb hml hown hts hKK hPC hS (fun q h => by have := h.1; show s.heap.size ≤ q; omega) (Nat.le_of_ble_eq_true rfl) (rfl : kdC 0 = 16) (show vwCl[10]? = some (yX10_back.cls, TX10, 15) from rfl) vkL_92 (k_X10_back l D ce b1 IC LC RC hTC 0  rfl r IC1 hfC) rfl hl.1 rfl (Nat.le_of_ble_eq_true rfl) ⟨rfl, rfl⟩ ⟨Nat.le_of_ble_eq_true rfl, Nat.le_of_ble_eq_true rfl⟩ ⟨Nat.le_of_ble_eq_true rfl, Nat.le_of_ble_eq_true rfl⟩ dL_law_574 (fun H1 locs hPC hTC hS hk1 => ?_)
        have hPM := keepW hPM hk1 (fun q h1 h2 => by have := h1.1; have := h2.2; omega)
        generalize H1 = H at hPC hPM hS ⊢
        clear hk1
        refine lv_aload_n hx hb dL_law_577 rfl (lv_at hl 2 rfl) ?_
        refine mm_LVi (rest := [.int r]) (b := b2) (a := 0) hx hb hml hown hts hKK hPM hS (fun q h => by have := h.1; show s.heap.size ≤ q; omega) (Nat.le_of_ble_eq_true rfl) (rfl : kdM 0 = 17) (show vwCl[11]? = some (yX11_back.cls, TX11, 32) from rfl) vkL_95 (k_X11_back l D ce b2 IM LM RM hTM 0  rfl r IM1 hfM) rfl hl.1 rfl (Nat.le_of_ble_eq_true rfl) ⟨rfl, rfl⟩ ⟨Nat.le_of_ble_eq_true rfl, Nat.le_of_ble_eq_true rfl⟩ ⟨Nat.le_of_ble_eq_true rfl, Nat.le_of_ble_eq_true rfl⟩ dL_law_578 (fun H1 locs hPM hTM hS hk1 => ?_)
        have hPC := keepW hPC hk1 (fun q h1 h2 => by have := h1.2; have := h2.1; omega)
        generalize H1 = H at hPC hPM hS ⊢
        clear hk1
        refine lv_icmp_eq (tgt := 623) hx hb dL_law_581 (by decide) (fun cq => ?_) (fun cq => absurd rfl cq)
        exact htail IC1 LC RC IM1 LM RM hI hTC hTM H locs ls hPC hPM hS hl
      by_cases c20 : z = (20 : Int32)
      · refine lv_tableIn (off := 554) (tgt := 586) hx hb dL_law_32 (by rw [c20]; decide) (by rw [c20]; decide) (by rw [c20]; first | done | rfl) (by decide) ?_
        obtain ⟨r, IC1, IM1, hfC, hfM, hI⟩ := h_told IC LC RC IM LM RM hI (xs (nI i + (1 : Int32)).toNatClampNeg)
        refine lv_aload_n hx hb dL_law_586 rfl (lv_at hl 1 rfl) ?_
        refine lv_aload_n hx hb dL_law_587 rfl (lv_at hl 0 rfl) ?_
        refine lv_iload_n hx hb dL_law_588 rfl (lv_at hl 3 rfl) ?_
        refine lv_iconst (v := (1 : Int32)) hx hb dL_law_589 (by decide) ?_
        refine lv_iadd hx hb dL_law_590 ?_
        refine va_sld hx hb hX hbl hbA hS hi1 dL_law_591 ?_
        refine mm_LVi (rest := []) (b := b1) (a := 0) hx hb hml hown hts hKK hPC hS (fun q h => by have := h.1; show s.heap.size ≤ q; omega) (Nat.le_of_ble_eq_true rfl) (rfl : kdC 0 = 16) (show vwCl[10]? = some (yX10_told.cls, TX10, 15) from rfl) vkL_96 (k_X10_told l D ce b1 IC LC RC hTC 0 (xs (nI i + (1 : Int32)).toNatClampNeg) rfl r IC1 hfC) rfl hl.1 rfl (Nat.le_of_ble_eq_true rfl) ⟨rfl, rfl⟩ ⟨Nat.le_of_ble_eq_true rfl, Nat.le_of_ble_eq_true rfl⟩ ⟨Nat.le_of_ble_eq_true rfl, Nat.le_of_ble_eq_true rfl⟩ dL_law_592 (fun H1 locs hPC hTC hS hk1 => ?_)
        have hPM := keepW hPM hk1 (fun q h1 h2 => by have := h1.1; have := h2.2; omega)
        generalize H1 = H at hPC hPM hS ⊢
        clear hk1
        refine lv_aload_n hx hb dL_law_595 rfl (lv_at hl 2 rfl) ?_
        refine lv_aload_n hx hb dL_law_596 rfl (lv_at hl 0 rfl) ?_
        refine lv_iload_n hx hb dL_law_597 rfl (lv_at hl 3 rfl) ?_
        refine lv_iconst (v := (1 : Int32)) hx hb dL_law_598 (by decide) ?_
        refine lv_iadd hx hb dL_law_599 ?_
        refine va_sld hx hb hX hbl hbA hS hi1 dL_law_600 ?_
        refine mm_LVi (rest := [.int r]) (b := b2) (a := 0) hx hb hml hown hts hKK hPM hS (fun q h => by have := h.1; show s.heap.size ≤ q; omega) (Nat.le_of_ble_eq_true rfl) (rfl : kdM 0 = 17) (show vwCl[11]? = some (yX11_told.cls, TX11, 32) from rfl) vkL_99 (k_X11_told l D ce b2 IM LM RM hTM 0 (xs (nI i + (1 : Int32)).toNatClampNeg) rfl r IM1 hfM) rfl hl.1 rfl (Nat.le_of_ble_eq_true rfl) ⟨rfl, rfl⟩ ⟨Nat.le_of_ble_eq_true rfl, Nat.le_of_ble_eq_true rfl⟩ ⟨Nat.le_of_ble_eq_true rfl, Nat.le_of_ble_eq_true rfl⟩ dL_law_601 (fun H1 locs hPM hTM hS hk1 => ?_)
        have hPC := keepW hPC hk1 (fun q h1 h2 => by have := h1.2; have := h2.1; omega)
        generalize H1 = H at hPC hPM hS ⊢
        clear hk1
        refine lv_icmp_eq (tgt := 623) hx hb dL_law_604 (by decide) (fun cq => ?_) (fun cq => absurd rfl cq)
        exact htail IC1 LC RC IM1 LM RM hI hTC hTM H locs ls hPC hPM hS hl
      by_cases c21 : z = (21 : Int32)
      · refine lv_tableIn (off := 577) (tgt := 609) hx hb dL_law_32 (by rw [c21]; decide) (by rw [c21]; decide) (by rw [c21]; first | done | rfl) (by decide) ?_
        obtain ⟨r, IC1, LC1, IM1, LM1, hfC, hfM, hI⟩ := h_digest IC LC RC IM LM RM hI ()
        refine lv_aload_n hx hb dL_law_609 rfl (lv_at hl 1 rfl) ?_
        refine mm_LVl (rest := []) (b := b1) (a := 0) hx hb hml hown hts hKK hPC hS (fun q h => by have := h.1; show s.heap.size ≤ q; omega) (Nat.le_of_ble_eq_true rfl) (rfl : kdC 0 = 16) (show vwCl[10]? = some (yX10_digest.cls, TX10, 15) from rfl) vkL_100 (k_X10_digest l D ce b1 IC LC RC hTC 0  rfl r IC1 LC1 hfC) rfl hl.1 rfl (Nat.le_of_ble_eq_true rfl) ⟨rfl, rfl⟩ ⟨Nat.le_of_ble_eq_true rfl, Nat.le_of_ble_eq_true rfl⟩ ⟨Nat.le_of_ble_eq_true rfl, Nat.le_of_ble_eq_true rfl⟩ dL_law_610 (fun H1 locs hPC hTC hS hk1 => ?_)
        have hPM := keepW hPM hk1 (fun q h1 h2 => by have := h1.1; have := h2.2; omega)
        generalize H1 = H at hPC hPM hS ⊢
        clear hk1
        refine lv_aload_n hx hb dL_law_613 rfl (lv_at hl 2 rfl) ?_
        refine mm_LVl (rest := [.long r]) (b := b2) (a := 0) hx hb hml hown hts hKK hPM hS (fun q h => by have := h.1; show s.heap.size ≤ q; omega) (Nat.le_of_ble_eq_true rfl) (rfl : kdM 0 = 17) (show vwCl[11]? = some (yX11_digest.cls, TX11, 32) from rfl) vkL_104 (k_X11_digest l D ce b2 IM LM RM hTM 0  rfl r IM1 LM1 hfM) rfl hl.1 rfl (Nat.le_of_ble_eq_true rfl) ⟨rfl, rfl⟩ ⟨Nat.le_of_ble_eq_true rfl, Nat.le_of_ble_eq_true rfl⟩ ⟨Nat.le_of_ble_eq_true rfl, Nat.le_of_ble_eq_true rfl⟩ dL_law_614 (fun H1 locs hPM hTM hS hk1 => ?_)
        have hPC := keepW hPC hk1 (fun q h1 h2 => by have := h1.2; have := h2.1; omega)
        generalize H1 = H at hPC hPM hS ⊢
        clear hk1
        refine W.lcmp hx hb dL_law_617 ?_
        refine lv_if_eq (tgt := 623) hx hb dL_law_618 (by decide) (fun cq => ?_) (fun cq => absurd (by unfold lg_cmp; simp) cq)
        exact htail IC1 LC1 RC IM1 LM1 RM hI hTC hTM H locs ls hPC hPM hS hl
      have qc0 := lv_neT c0 (a := 0) rfl
      have qc1 := lv_neT c1 (a := 1) rfl
      have qc2 := lv_neT c2 (a := 2) rfl
      have qc3 := lv_neT c3 (a := 3) rfl
      have qc4 := lv_neT c4 (a := 4) rfl
      have qc5 := lv_neT c5 (a := 5) rfl
      have qc6 := lv_neT c6 (a := 6) rfl
      have qc7 := lv_neT c7 (a := 7) rfl
      have qc8 := lv_neT c8 (a := 8) rfl
      have qc9 := lv_neT c9 (a := 9) rfl
      have qc10 := lv_neT c10 (a := 10) rfl
      have qc11 := lv_neT c11 (a := 11) rfl
      have qc12 := lv_neT c12 (a := 12) rfl
      have qc13 := lv_neT c13 (a := 13) rfl
      have qc14 := lv_neT c14 (a := 14) rfl
      have qc15 := lv_neT c15 (a := 15) rfl
      have qc16 := lv_neT c16 (a := 16) rfl
      have qc17 := lv_neT c17 (a := 17) rfl
      have qc18 := lv_neT c18 (a := 18) rfl
      have qc19 := lv_neT c19 (a := 19) rfl
      have qc20 := lv_neT c20 (a := 20) rfl
      have qc21 := lv_neT c21 (a := 21) rfl
      refine lv_tableOut (tgt := 623) hx hb dL_law_32 (by omega) (by decide) ?_
      exact htail IC LC RC IM LM RM hI hTC hTM H locs ls hPC hPM hS hl

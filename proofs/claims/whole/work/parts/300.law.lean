/-! the law as a function, with its walk (by program) -/
theorem ww_90 : (Cond.initialized RL : Cond) ∈ GW := gw_mem 90 (by decide +kernel) (by decide +kernel)
theorem ww_109 : (Cond.classLink RL 7 RX11 : Cond) ∈ GW := gw_mem 109 (by decide +kernel) (by decide +kernel)
theorem ww_110 : (Cond.instantiable RX11 15 : Cond) ∈ GW := gw_mem 110 (by decide +kernel) (by decide +kernel)
theorem ww_111 : (Cond.methodLink RL 15 yX11_init : Cond) ∈ GW := gw_mem 111 (by decide +kernel) (by decide +kernel)
theorem ww_112 : (Cond.instanceMethod yX11_init : Cond) ∈ GW := gw_mem 112 (by decide +kernel) (by decide +kernel)
theorem ww_113 : (Cond.code yX11_init cX11_init 3 none : Cond) ∈ GW := gw_mem 113 (by decide +kernel) (by decide +kernel)
theorem ww_422 : (Cond.methodLink RL 23 yX11_feed : Cond) ∈ GW := gw_mem 422 (by decide +kernel) (by decide +kernel)
theorem ww_423 : (Cond.instanceMethod yX11_feed : Cond) ∈ GW := gw_mem 423 (by decide +kernel) (by decide +kernel)
theorem ww_424 : (Cond.selects RX11 yX11_feed yX11_feed : Cond) ∈ GW := gw_mem 424 (by decide +kernel) (by decide +kernel)
theorem ww_425 : (Cond.code yX11_feed cX11_feed 9 (some .int) : Cond) ∈ GW := gw_mem 425 (by decide +kernel) (by decide +kernel)
theorem ww_426 : (Cond.methodLink RL 28 yX11_add : Cond) ∈ GW := gw_mem 426 (by decide +kernel) (by decide +kernel)
theorem ww_427 : (Cond.instanceMethod yX11_add : Cond) ∈ GW := gw_mem 427 (by decide +kernel) (by decide +kernel)
theorem ww_428 : (Cond.selects RX11 yX11_add yX11_add : Cond) ∈ GW := gw_mem 428 (by decide +kernel) (by decide +kernel)
theorem ww_429 : (Cond.code yX11_add cX11_add 10 (some .int) : Cond) ∈ GW := gw_mem 429 (by decide +kernel) (by decide +kernel)
theorem ww_638 : (Cond.methodLink RL 33 yX11_delete : Cond) ∈ GW := gw_mem 638 (by decide +kernel) (by decide +kernel)
theorem ww_639 : (Cond.instanceMethod yX11_delete : Cond) ∈ GW := gw_mem 639 (by decide +kernel) (by decide +kernel)
theorem ww_640 : (Cond.selects RX11 yX11_delete yX11_delete : Cond) ∈ GW := gw_mem 640 (by decide +kernel) (by decide +kernel)
theorem ww_641 : (Cond.code yX11_delete cX11_delete 3 (some .boolean) : Cond) ∈ GW := gw_mem 641 (by decide +kernel) (by decide +kernel)
theorem ww_642 : (Cond.methodLink RL 38 yX11_refresh : Cond) ∈ GW := gw_mem 642 (by decide +kernel) (by decide +kernel)
theorem ww_643 : (Cond.instanceMethod yX11_refresh : Cond) ∈ GW := gw_mem 643 (by decide +kernel) (by decide +kernel)
theorem ww_644 : (Cond.selects RX11 yX11_refresh yX11_refresh : Cond) ∈ GW := gw_mem 644 (by decide +kernel) (by decide +kernel)
theorem ww_645 : (Cond.code yX11_refresh cX11_refresh 1 (some .int) : Cond) ∈ GW := gw_mem 645 (by decide +kernel) (by decide +kernel)
theorem ww_646 : (Cond.methodLink RL 43 yX11_open : Cond) ∈ GW := gw_mem 646 (by decide +kernel) (by decide +kernel)
theorem ww_647 : (Cond.instanceMethod yX11_open : Cond) ∈ GW := gw_mem 647 (by decide +kernel) (by decide +kernel)
theorem ww_648 : (Cond.selects RX11 yX11_open yX11_open : Cond) ∈ GW := gw_mem 648 (by decide +kernel) (by decide +kernel)
theorem ww_649 : (Cond.code yX11_open cX11_open 2 (some .int) : Cond) ∈ GW := gw_mem 649 (by decide +kernel) (by decide +kernel)
theorem ww_658 : (Cond.methodLink RL 47 yX11_close : Cond) ∈ GW := gw_mem 658 (by decide +kernel) (by decide +kernel)
theorem ww_659 : (Cond.instanceMethod yX11_close : Cond) ∈ GW := gw_mem 659 (by decide +kernel) (by decide +kernel)
theorem ww_660 : (Cond.selects RX11 yX11_close yX11_close : Cond) ∈ GW := gw_mem 660 (by decide +kernel) (by decide +kernel)
theorem ww_661 : (Cond.code yX11_close cX11_close 3 (some .int) : Cond) ∈ GW := gw_mem 661 (by decide +kernel) (by decide +kernel)
theorem ww_666 : (Cond.methodLink RL 52 yX11_search : Cond) ∈ GW := gw_mem 666 (by decide +kernel) (by decide +kernel)
theorem ww_667 : (Cond.instanceMethod yX11_search : Cond) ∈ GW := gw_mem 667 (by decide +kernel) (by decide +kernel)
theorem ww_668 : (Cond.selects RX11 yX11_search yX11_search : Cond) ∈ GW := gw_mem 668 (by decide +kernel) (by decide +kernel)
theorem ww_669 : (Cond.code yX11_search cX11_search 9 (some .int) : Cond) ∈ GW := gw_mem 669 (by decide +kernel) (by decide +kernel)
theorem ww_903 : (Cond.methodLink RL 56 yX11_key : Cond) ∈ GW := gw_mem 903 (by decide +kernel) (by decide +kernel)
theorem ww_904 : (Cond.instanceMethod yX11_key : Cond) ∈ GW := gw_mem 904 (by decide +kernel) (by decide +kernel)
theorem ww_905 : (Cond.selects RX11 yX11_key yX11_key : Cond) ∈ GW := gw_mem 905 (by decide +kernel) (by decide +kernel)
theorem ww_906 : (Cond.code yX11_key cX11_key 3 (some .long) : Cond) ∈ GW := gw_mem 906 (by decide +kernel) (by decide +kernel)
theorem ww_911 : (Cond.methodLink RL 61 yX11_hit : Cond) ∈ GW := gw_mem 911 (by decide +kernel) (by decide +kernel)
theorem ww_912 : (Cond.instanceMethod yX11_hit : Cond) ∈ GW := gw_mem 912 (by decide +kernel) (by decide +kernel)
theorem ww_913 : (Cond.selects RX11 yX11_hit yX11_hit : Cond) ∈ GW := gw_mem 913 (by decide +kernel) (by decide +kernel)
theorem ww_914 : (Cond.code yX11_hit cX11_hit 4 (some .int) : Cond) ∈ GW := gw_mem 914 (by decide +kernel) (by decide +kernel)
theorem ww_920 : (Cond.methodLink RL 66 yX11_bucket : Cond) ∈ GW := gw_mem 920 (by decide +kernel) (by decide +kernel)
theorem ww_921 : (Cond.instanceMethod yX11_bucket : Cond) ∈ GW := gw_mem 921 (by decide +kernel) (by decide +kernel)
theorem ww_922 : (Cond.selects RX11 yX11_bucket yX11_bucket : Cond) ∈ GW := gw_mem 922 (by decide +kernel) (by decide +kernel)
theorem ww_923 : (Cond.code yX11_bucket cX11_bucket 9 (some .int) : Cond) ∈ GW := gw_mem 923 (by decide +kernel) (by decide +kernel)
theorem ww_925 : (Cond.methodLink RL 71 yX11_over : Cond) ∈ GW := gw_mem 925 (by decide +kernel) (by decide +kernel)
theorem ww_926 : (Cond.instanceMethod yX11_over : Cond) ∈ GW := gw_mem 926 (by decide +kernel) (by decide +kernel)
theorem ww_927 : (Cond.selects RX11 yX11_over yX11_over : Cond) ∈ GW := gw_mem 927 (by decide +kernel) (by decide +kernel)
theorem ww_928 : (Cond.code yX11_over cX11_over 13 (some .long) : Cond) ∈ GW := gw_mem 928 (by decide +kernel) (by decide +kernel)
theorem ww_934 : (Cond.methodLink RL 76 yX11_mark : Cond) ∈ GW := gw_mem 934 (by decide +kernel) (by decide +kernel)
theorem ww_935 : (Cond.instanceMethod yX11_mark : Cond) ∈ GW := gw_mem 935 (by decide +kernel) (by decide +kernel)
theorem ww_936 : (Cond.selects RX11 yX11_mark yX11_mark : Cond) ∈ GW := gw_mem 936 (by decide +kernel) (by decide +kernel)
theorem ww_937 : (Cond.code yX11_mark cX11_mark 7 (some .int) : Cond) ∈ GW := gw_mem 937 (by decide +kernel) (by decide +kernel)
theorem ww_956 : (Cond.methodLink RL 81 yX11_near : Cond) ∈ GW := gw_mem 956 (by decide +kernel) (by decide +kernel)
theorem ww_957 : (Cond.instanceMethod yX11_near : Cond) ∈ GW := gw_mem 957 (by decide +kernel) (by decide +kernel)
theorem ww_958 : (Cond.selects RX11 yX11_near yX11_near : Cond) ∈ GW := gw_mem 958 (by decide +kernel) (by decide +kernel)
theorem ww_959 : (Cond.code yX11_near cX11_near 4 (some .int) : Cond) ∈ GW := gw_mem 959 (by decide +kernel) (by decide +kernel)
theorem ww_989 : (Cond.methodLink RL 85 yX11_nearByte : Cond) ∈ GW := gw_mem 989 (by decide +kernel) (by decide +kernel)
theorem ww_990 : (Cond.instanceMethod yX11_nearByte : Cond) ∈ GW := gw_mem 990 (by decide +kernel) (by decide +kernel)
theorem ww_991 : (Cond.selects RX11 yX11_nearByte yX11_nearByte : Cond) ∈ GW := gw_mem 991 (by decide +kernel) (by decide +kernel)
theorem ww_992 : (Cond.code yX11_nearByte cX11_nearByte 2 (some .int) : Cond) ∈ GW := gw_mem 992 (by decide +kernel) (by decide +kernel)
theorem ww_1000 : (Cond.methodLink RL 89 yX11_segment : Cond) ∈ GW := gw_mem 1000 (by decide +kernel) (by decide +kernel)
theorem ww_1001 : (Cond.instanceMethod yX11_segment : Cond) ∈ GW := gw_mem 1001 (by decide +kernel) (by decide +kernel)
theorem ww_1002 : (Cond.selects RX11 yX11_segment yX11_segment : Cond) ∈ GW := gw_mem 1002 (by decide +kernel) (by decide +kernel)
theorem ww_1003 : (Cond.code yX11_segment cX11_segment 4 (some .int) : Cond) ∈ GW := gw_mem 1003 (by decide +kernel) (by decide +kernel)
theorem ww_1009 : (Cond.methodLink RL 93 yX11_view : Cond) ∈ GW := gw_mem 1009 (by decide +kernel) (by decide +kernel)
theorem ww_1010 : (Cond.instanceMethod yX11_view : Cond) ∈ GW := gw_mem 1010 (by decide +kernel) (by decide +kernel)
theorem ww_1011 : (Cond.selects RX11 yX11_view yX11_view : Cond) ∈ GW := gw_mem 1011 (by decide +kernel) (by decide +kernel)
theorem ww_1012 : (Cond.code yX11_view cX11_view 4 (some .int) : Cond) ∈ GW := gw_mem 1012 (by decide +kernel) (by decide +kernel)
theorem ww_1013 : (Cond.methodLink RL 97 yX11_frequency : Cond) ∈ GW := gw_mem 1013 (by decide +kernel) (by decide +kernel)
theorem ww_1014 : (Cond.instanceMethod yX11_frequency : Cond) ∈ GW := gw_mem 1014 (by decide +kernel) (by decide +kernel)
theorem ww_1015 : (Cond.selects RX11 yX11_frequency yX11_frequency : Cond) ∈ GW := gw_mem 1015 (by decide +kernel) (by decide +kernel)
theorem ww_1016 : (Cond.code yX11_frequency cX11_frequency 5 (some .int) : Cond) ∈ GW := gw_mem 1016 (by decide +kernel) (by decide +kernel)
theorem ww_1019 : (Cond.methodLink RL 101 yX11_told : Cond) ∈ GW := gw_mem 1019 (by decide +kernel) (by decide +kernel)
theorem ww_1020 : (Cond.instanceMethod yX11_told : Cond) ∈ GW := gw_mem 1020 (by decide +kernel) (by decide +kernel)
theorem ww_1021 : (Cond.selects RX11 yX11_told yX11_told : Cond) ∈ GW := gw_mem 1021 (by decide +kernel) (by decide +kernel)
theorem ww_1022 : (Cond.code yX11_told cX11_told 2 (some .int) : Cond) ∈ GW := gw_mem 1022 (by decide +kernel) (by decide +kernel)
theorem ww_1027 : (Cond.methodLink RL 9 yL_cell : Cond) ∈ GW := gw_mem 1027 (by decide +kernel) (by decide +kernel)
theorem ww_1028 : (Cond.static yL_cell : Cond) ∈ GW := gw_mem 1028 (by decide +kernel) (by decide +kernel)
theorem ww_1029 : (Cond.code yL_cell cL_cell 2 (some .int) : Cond) ∈ GW := gw_mem 1029 (by decide +kernel) (by decide +kernel)
theorem ww_1030 : (Cond.classLink RL 18 RX12 : Cond) ∈ GW := gw_mem 1030 (by decide +kernel) (by decide +kernel)
theorem ww_1031 : (Cond.instantiable RX12 71 : Cond) ∈ GW := gw_mem 1031 (by decide +kernel) (by decide +kernel)
theorem ww_1032 : (Cond.methodLink RL 20 yX12_init : Cond) ∈ GW := gw_mem 1032 (by decide +kernel) (by decide +kernel)
theorem ww_1033 : (Cond.instanceMethod yX12_init : Cond) ∈ GW := gw_mem 1033 (by decide +kernel) (by decide +kernel)
theorem ww_1034 : (Cond.code yX12_init cX12_init 2 none : Cond) ∈ GW := gw_mem 1034 (by decide +kernel) (by decide +kernel)
theorem ww_1253 : (Cond.methodLink RL 27 yX12_feed : Cond) ∈ GW := gw_mem 1253 (by decide +kernel) (by decide +kernel)
theorem ww_1254 : (Cond.instanceMethod yX12_feed : Cond) ∈ GW := gw_mem 1254 (by decide +kernel) (by decide +kernel)
theorem ww_1255 : (Cond.selects RX12 yX12_feed yX12_feed : Cond) ∈ GW := gw_mem 1255 (by decide +kernel) (by decide +kernel)
theorem ww_1256 : (Cond.code yX12_feed cX12_feed 7 (some .int) : Cond) ∈ GW := gw_mem 1256 (by decide +kernel) (by decide +kernel)
theorem ww_1260 : (Cond.methodLink RL 32 yX12_add : Cond) ∈ GW := gw_mem 1260 (by decide +kernel) (by decide +kernel)
theorem ww_1261 : (Cond.instanceMethod yX12_add : Cond) ∈ GW := gw_mem 1261 (by decide +kernel) (by decide +kernel)
theorem ww_1262 : (Cond.selects RX12 yX12_add yX12_add : Cond) ∈ GW := gw_mem 1262 (by decide +kernel) (by decide +kernel)
theorem ww_1263 : (Cond.code yX12_add cX12_add 10 (some .int) : Cond) ∈ GW := gw_mem 1263 (by decide +kernel) (by decide +kernel)
theorem ww_1317 : (Cond.methodLink RL 37 yX12_delete : Cond) ∈ GW := gw_mem 1317 (by decide +kernel) (by decide +kernel)
theorem ww_1318 : (Cond.instanceMethod yX12_delete : Cond) ∈ GW := gw_mem 1318 (by decide +kernel) (by decide +kernel)
theorem ww_1319 : (Cond.selects RX12 yX12_delete yX12_delete : Cond) ∈ GW := gw_mem 1319 (by decide +kernel) (by decide +kernel)
theorem ww_1320 : (Cond.code yX12_delete cX12_delete 4 (some .boolean) : Cond) ∈ GW := gw_mem 1320 (by decide +kernel) (by decide +kernel)
theorem ww_1321 : (Cond.methodLink RL 42 yX12_refresh : Cond) ∈ GW := gw_mem 1321 (by decide +kernel) (by decide +kernel)
theorem ww_1322 : (Cond.methodLink RL 46 yX12_open : Cond) ∈ GW := gw_mem 1322 (by decide +kernel) (by decide +kernel)
theorem ww_1323 : (Cond.instanceMethod yX12_open : Cond) ∈ GW := gw_mem 1323 (by decide +kernel) (by decide +kernel)
theorem ww_1324 : (Cond.selects RX12 yX12_open yX12_open : Cond) ∈ GW := gw_mem 1324 (by decide +kernel) (by decide +kernel)
theorem ww_1325 : (Cond.code yX12_open cX12_open 5 (some .int) : Cond) ∈ GW := gw_mem 1325 (by decide +kernel) (by decide +kernel)
theorem ww_1326 : (Cond.methodLink RL 51 yX12_close : Cond) ∈ GW := gw_mem 1326 (by decide +kernel) (by decide +kernel)
theorem ww_1327 : (Cond.instanceMethod yX12_close : Cond) ∈ GW := gw_mem 1327 (by decide +kernel) (by decide +kernel)
theorem ww_1328 : (Cond.selects RX12 yX12_close yX12_close : Cond) ∈ GW := gw_mem 1328 (by decide +kernel) (by decide +kernel)
theorem ww_1329 : (Cond.code yX12_close cX12_close 2 (some .int) : Cond) ∈ GW := gw_mem 1329 (by decide +kernel) (by decide +kernel)
theorem ww_1334 : (Cond.methodLink RL 55 yX12_search : Cond) ∈ GW := gw_mem 1334 (by decide +kernel) (by decide +kernel)
theorem ww_1335 : (Cond.instanceMethod yX12_search : Cond) ∈ GW := gw_mem 1335 (by decide +kernel) (by decide +kernel)
theorem ww_1336 : (Cond.selects RX12 yX12_search yX12_search : Cond) ∈ GW := gw_mem 1336 (by decide +kernel) (by decide +kernel)
theorem ww_1337 : (Cond.code yX12_search cX12_search 7 (some .int) : Cond) ∈ GW := gw_mem 1337 (by decide +kernel) (by decide +kernel)
theorem ww_1473 : (Cond.methodLink RL 60 yX12_key : Cond) ∈ GW := gw_mem 1473 (by decide +kernel) (by decide +kernel)
theorem ww_1474 : (Cond.instanceMethod yX12_key : Cond) ∈ GW := gw_mem 1474 (by decide +kernel) (by decide +kernel)
theorem ww_1475 : (Cond.selects RX12 yX12_key yX12_key : Cond) ∈ GW := gw_mem 1475 (by decide +kernel) (by decide +kernel)
theorem ww_1476 : (Cond.code yX12_key cX12_key 2 (some .long) : Cond) ∈ GW := gw_mem 1476 (by decide +kernel) (by decide +kernel)
theorem ww_1477 : (Cond.methodLink RL 65 yX12_hit : Cond) ∈ GW := gw_mem 1477 (by decide +kernel) (by decide +kernel)
theorem ww_1478 : (Cond.instanceMethod yX12_hit : Cond) ∈ GW := gw_mem 1478 (by decide +kernel) (by decide +kernel)
theorem ww_1479 : (Cond.selects RX12 yX12_hit yX12_hit : Cond) ∈ GW := gw_mem 1479 (by decide +kernel) (by decide +kernel)
theorem ww_1480 : (Cond.code yX12_hit cX12_hit 4 (some .int) : Cond) ∈ GW := gw_mem 1480 (by decide +kernel) (by decide +kernel)
theorem ww_1481 : (Cond.methodLink RL 70 yX12_bucket : Cond) ∈ GW := gw_mem 1481 (by decide +kernel) (by decide +kernel)
theorem ww_1482 : (Cond.instanceMethod yX12_bucket : Cond) ∈ GW := gw_mem 1482 (by decide +kernel) (by decide +kernel)
theorem ww_1483 : (Cond.selects RX12 yX12_bucket yX12_bucket : Cond) ∈ GW := gw_mem 1483 (by decide +kernel) (by decide +kernel)
theorem ww_1484 : (Cond.code yX12_bucket cX12_bucket 8 (some .int) : Cond) ∈ GW := gw_mem 1484 (by decide +kernel) (by decide +kernel)
theorem ww_1485 : (Cond.methodLink RL 75 yX12_over : Cond) ∈ GW := gw_mem 1485 (by decide +kernel) (by decide +kernel)
theorem ww_1486 : (Cond.instanceMethod yX12_over : Cond) ∈ GW := gw_mem 1486 (by decide +kernel) (by decide +kernel)
theorem ww_1487 : (Cond.selects RX12 yX12_over yX12_over : Cond) ∈ GW := gw_mem 1487 (by decide +kernel) (by decide +kernel)
theorem ww_1488 : (Cond.code yX12_over cX12_over 8 (some .long) : Cond) ∈ GW := gw_mem 1488 (by decide +kernel) (by decide +kernel)
theorem ww_1490 : (Cond.methodLink RL 80 yX12_mark_ : Cond) ∈ GW := gw_mem 1490 (by decide +kernel) (by decide +kernel)
theorem ww_1491 : (Cond.instanceMethod yX12_mark_ : Cond) ∈ GW := gw_mem 1491 (by decide +kernel) (by decide +kernel)
theorem ww_1492 : (Cond.selects RX12 yX12_mark_ yX12_mark_ : Cond) ∈ GW := gw_mem 1492 (by decide +kernel) (by decide +kernel)
theorem ww_1493 : (Cond.code yX12_mark_ cX12_mark_ 7 (some .int) : Cond) ∈ GW := gw_mem 1493 (by decide +kernel) (by decide +kernel)
theorem ww_1498 : (Cond.methodLink RL 84 yX12_near : Cond) ∈ GW := gw_mem 1498 (by decide +kernel) (by decide +kernel)
theorem ww_1499 : (Cond.instanceMethod yX12_near : Cond) ∈ GW := gw_mem 1499 (by decide +kernel) (by decide +kernel)
theorem ww_1500 : (Cond.selects RX12 yX12_near yX12_near : Cond) ∈ GW := gw_mem 1500 (by decide +kernel) (by decide +kernel)
theorem ww_1501 : (Cond.code yX12_near cX12_near 12 (some .int) : Cond) ∈ GW := gw_mem 1501 (by decide +kernel) (by decide +kernel)
theorem ww_1526 : (Cond.methodLink RL 88 yX12_nearByte : Cond) ∈ GW := gw_mem 1526 (by decide +kernel) (by decide +kernel)
theorem ww_1527 : (Cond.instanceMethod yX12_nearByte : Cond) ∈ GW := gw_mem 1527 (by decide +kernel) (by decide +kernel)
theorem ww_1528 : (Cond.selects RX12 yX12_nearByte yX12_nearByte : Cond) ∈ GW := gw_mem 1528 (by decide +kernel) (by decide +kernel)
theorem ww_1529 : (Cond.code yX12_nearByte cX12_nearByte 2 (some .int) : Cond) ∈ GW := gw_mem 1529 (by decide +kernel) (by decide +kernel)
theorem ww_1530 : (Cond.methodLink RL 92 yX12_segment : Cond) ∈ GW := gw_mem 1530 (by decide +kernel) (by decide +kernel)
theorem ww_1531 : (Cond.instanceMethod yX12_segment : Cond) ∈ GW := gw_mem 1531 (by decide +kernel) (by decide +kernel)
theorem ww_1532 : (Cond.selects RX12 yX12_segment yX12_segment : Cond) ∈ GW := gw_mem 1532 (by decide +kernel) (by decide +kernel)
theorem ww_1533 : (Cond.code yX12_segment cX12_segment 5 (some .int) : Cond) ∈ GW := gw_mem 1533 (by decide +kernel) (by decide +kernel)
theorem ww_1542 : (Cond.methodLink RL 96 yX12_view : Cond) ∈ GW := gw_mem 1542 (by decide +kernel) (by decide +kernel)
theorem ww_1543 : (Cond.instanceMethod yX12_view : Cond) ∈ GW := gw_mem 1543 (by decide +kernel) (by decide +kernel)
theorem ww_1544 : (Cond.selects RX12 yX12_view yX12_view : Cond) ∈ GW := gw_mem 1544 (by decide +kernel) (by decide +kernel)
theorem ww_1545 : (Cond.code yX12_view cX12_view 5 (some .int) : Cond) ∈ GW := gw_mem 1545 (by decide +kernel) (by decide +kernel)
theorem ww_1546 : (Cond.methodLink RL 100 yX12_frequency : Cond) ∈ GW := gw_mem 1546 (by decide +kernel) (by decide +kernel)
theorem ww_1547 : (Cond.instanceMethod yX12_frequency : Cond) ∈ GW := gw_mem 1547 (by decide +kernel) (by decide +kernel)
theorem ww_1548 : (Cond.selects RX12 yX12_frequency yX12_frequency : Cond) ∈ GW := gw_mem 1548 (by decide +kernel) (by decide +kernel)
theorem ww_1549 : (Cond.code yX12_frequency cX12_frequency 5 (some .int) : Cond) ∈ GW := gw_mem 1549 (by decide +kernel) (by decide +kernel)
theorem ww_1550 : (Cond.methodLink RL 104 yX12_told : Cond) ∈ GW := gw_mem 1550 (by decide +kernel) (by decide +kernel)
theorem ww_1551 : (Cond.instanceMethod yX12_told : Cond) ∈ GW := gw_mem 1551 (by decide +kernel) (by decide +kernel)
theorem ww_1552 : (Cond.selects RX12 yX12_told yX12_told : Cond) ∈ GW := gw_mem 1552 (by decide +kernel) (by decide +kernel)
theorem ww_1553 : (Cond.code yX12_told cX12_told 4 (some .int) : Cond) ∈ GW := gw_mem 1553 (by decide +kernel) (by decide +kernel)
theorem ww_1554 : (Cond.constantLong RL 21 (4294967295) : Cond) ∈ GW := gw_mem 1554 (by decide +kernel) (by decide +kernel)
abbrev MD_LW_cell : MD := (RL, cL_cell, 2, (some .int), false, 1, 22)
abbrev MD_LW_law : MD := (RL, cL_law, 4, (some .boolean), false, 2048, 84000)
theorem cs_RL_9 : CS RL 9 MD_LW_cell yL_cell 2 := ⟨ww_1027, ww_1029, ww_90, ⟨by decide +kernel, by decide +kernel, by decide +kernel⟩⟩
theorem cs_RL_15 : CS RL 15 MD_E_init yX11_init 1 := ⟨ww_111, ww_113, ww_91, ⟨by decide +kernel, by decide +kernel, by decide +kernel⟩⟩
theorem cs_RL_20 : CS RL 20 MD_M_init yX12_init 1 := ⟨ww_1032, ww_1034, ww_102, ⟨by decide +kernel, by decide +kernel, by decide +kernel⟩⟩
theorem cs_RL_23 : CS RL 23 MD_E_feed yX11_feed 3 := ⟨ww_422, ww_425, ww_91, ⟨by decide +kernel, by decide +kernel, by decide +kernel⟩⟩
theorem cs_RL_27 : CS RL 27 MD_M_feed yX12_feed 3 := ⟨ww_1253, ww_1256, ww_102, ⟨by decide +kernel, by decide +kernel, by decide +kernel⟩⟩
theorem cs_RL_28 : CS RL 28 MD_E_add yX11_add 3 := ⟨ww_426, ww_429, ww_91, ⟨by decide +kernel, by decide +kernel, by decide +kernel⟩⟩
theorem cs_RL_32 : CS RL 32 MD_M_add yX12_add 3 := ⟨ww_1260, ww_1263, ww_102, ⟨by decide +kernel, by decide +kernel, by decide +kernel⟩⟩
theorem cs_RL_33 : CS RL 33 MD_E_delete yX11_delete 1 := ⟨ww_638, ww_641, ww_91, ⟨by decide +kernel, by decide +kernel, by decide +kernel⟩⟩
theorem cs_RL_37 : CS RL 37 MD_M_delete yX12_delete 1 := ⟨ww_1317, ww_1320, ww_102, ⟨by decide +kernel, by decide +kernel, by decide +kernel⟩⟩
theorem cs_RL_38 : CS RL 38 MD_E_refresh yX11_refresh 0 := ⟨ww_642, ww_645, ww_91, ⟨by decide +kernel, by decide +kernel, by decide +kernel⟩⟩
theorem cs_RL_42 : CS RL 42 MD_M_refresh yX12_refresh 0 := ⟨ww_1321, ww_1300, ww_102, ⟨by decide +kernel, by decide +kernel, by decide +kernel⟩⟩
theorem cs_RL_43 : CS RL 43 MD_E_open yX11_open 0 := ⟨ww_646, ww_649, ww_91, ⟨by decide +kernel, by decide +kernel, by decide +kernel⟩⟩
theorem cs_RL_46 : CS RL 46 MD_M_open yX12_open 0 := ⟨ww_1322, ww_1325, ww_102, ⟨by decide +kernel, by decide +kernel, by decide +kernel⟩⟩
theorem cs_RL_47 : CS RL 47 MD_E_close yX11_close 1 := ⟨ww_658, ww_661, ww_91, ⟨by decide +kernel, by decide +kernel, by decide +kernel⟩⟩
theorem cs_RL_51 : CS RL 51 MD_M_close yX12_close 1 := ⟨ww_1326, ww_1329, ww_102, ⟨by decide +kernel, by decide +kernel, by decide +kernel⟩⟩
theorem cs_RL_52 : CS RL 52 MD_E_search yX11_search 1 := ⟨ww_666, ww_669, ww_91, ⟨by decide +kernel, by decide +kernel, by decide +kernel⟩⟩
theorem cs_RL_55 : CS RL 55 MD_M_search yX12_search 1 := ⟨ww_1334, ww_1337, ww_102, ⟨by decide +kernel, by decide +kernel, by decide +kernel⟩⟩
theorem cs_RL_56 : CS RL 56 MD_E_key yX11_key 1 := ⟨ww_903, ww_906, ww_91, ⟨by decide +kernel, by decide +kernel, by decide +kernel⟩⟩
theorem cs_RL_60 : CS RL 60 MD_M_key yX12_key 1 := ⟨ww_1473, ww_1476, ww_102, ⟨by decide +kernel, by decide +kernel, by decide +kernel⟩⟩
theorem cs_RL_61 : CS RL 61 MD_E_hit yX11_hit 2 := ⟨ww_911, ww_914, ww_91, ⟨by decide +kernel, by decide +kernel, by decide +kernel⟩⟩
theorem cs_RL_65 : CS RL 65 MD_M_hit yX12_hit 2 := ⟨ww_1477, ww_1480, ww_102, ⟨by decide +kernel, by decide +kernel, by decide +kernel⟩⟩
theorem cs_RL_66 : CS RL 66 MD_E_bucket yX11_bucket 3 := ⟨ww_920, ww_923, ww_91, ⟨by decide +kernel, by decide +kernel, by decide +kernel⟩⟩
theorem cs_RL_70 : CS RL 70 MD_M_bucket yX12_bucket 3 := ⟨ww_1481, ww_1484, ww_102, ⟨by decide +kernel, by decide +kernel, by decide +kernel⟩⟩
theorem cs_RL_71 : CS RL 71 MD_E_over yX11_over 2 := ⟨ww_925, ww_928, ww_91, ⟨by decide +kernel, by decide +kernel, by decide +kernel⟩⟩
theorem cs_RL_75 : CS RL 75 MD_M_over yX12_over 2 := ⟨ww_1485, ww_1488, ww_102, ⟨by decide +kernel, by decide +kernel, by decide +kernel⟩⟩
theorem cs_RL_76 : CS RL 76 MD_E_mark yX11_mark 3 := ⟨ww_934, ww_937, ww_91, ⟨by decide +kernel, by decide +kernel, by decide +kernel⟩⟩
theorem cs_RL_80 : CS RL 80 MD_M_mark_ yX12_mark_ 3 := ⟨ww_1490, ww_1493, ww_102, ⟨by decide +kernel, by decide +kernel, by decide +kernel⟩⟩
theorem cs_RL_81 : CS RL 81 MD_E_near yX11_near 1 := ⟨ww_956, ww_959, ww_91, ⟨by decide +kernel, by decide +kernel, by decide +kernel⟩⟩
theorem cs_RL_84 : CS RL 84 MD_M_near yX12_near 1 := ⟨ww_1498, ww_1501, ww_102, ⟨by decide +kernel, by decide +kernel, by decide +kernel⟩⟩
theorem cs_RL_85 : CS RL 85 MD_E_nearByte yX11_nearByte 1 := ⟨ww_989, ww_992, ww_91, ⟨by decide +kernel, by decide +kernel, by decide +kernel⟩⟩
theorem cs_RL_88 : CS RL 88 MD_M_nearByte yX12_nearByte 1 := ⟨ww_1526, ww_1529, ww_102, ⟨by decide +kernel, by decide +kernel, by decide +kernel⟩⟩
theorem cs_RL_89 : CS RL 89 MD_E_segment yX11_segment 2 := ⟨ww_1000, ww_1003, ww_91, ⟨by decide +kernel, by decide +kernel, by decide +kernel⟩⟩
theorem cs_RL_92 : CS RL 92 MD_M_segment yX12_segment 2 := ⟨ww_1530, ww_1533, ww_102, ⟨by decide +kernel, by decide +kernel, by decide +kernel⟩⟩
theorem cs_RL_93 : CS RL 93 MD_E_view yX11_view 2 := ⟨ww_1009, ww_1012, ww_91, ⟨by decide +kernel, by decide +kernel, by decide +kernel⟩⟩
theorem cs_RL_96 : CS RL 96 MD_M_view yX12_view 2 := ⟨ww_1542, ww_1545, ww_102, ⟨by decide +kernel, by decide +kernel, by decide +kernel⟩⟩
theorem cs_RL_97 : CS RL 97 MD_E_frequency yX11_frequency 2 := ⟨ww_1013, ww_1016, ww_91, ⟨by decide +kernel, by decide +kernel, by decide +kernel⟩⟩
theorem cs_RL_100 : CS RL 100 MD_M_frequency yX12_frequency 2 := ⟨ww_1546, ww_1549, ww_102, ⟨by decide +kernel, by decide +kernel, by decide +kernel⟩⟩
theorem cs_RL_101 : CS RL 101 MD_E_told yX11_told 1 := ⟨ww_1019, ww_1022, ww_91, ⟨by decide +kernel, by decide +kernel, by decide +kernel⟩⟩
theorem cs_RL_104 : CS RL 104 MD_M_told yX12_told 1 := ⟨ww_1550, ww_1553, ww_102, ⟨by decide +kernel, by decide +kernel, by decide +kernel⟩⟩
def scX (X : Nat × Nat × (Nat → Int32)) (i : Int32) : Option Int32 := if 0 ≤ i.toInt ∧ i.toInt < (X.2.1 : Int) then some (X.2.2 i.toNatClampNeg) else none
/-- the block of the reference's own cells, as its state -/
def vw (σ : Mem) (B : Nat) : RS := (fun c j => gI σ (B + c) j, fun c j => gL σ (B + c) j, fun c j => gB σ (B + c) j)
theorem emb_vw (σ : Mem) (B : Nat) : emb σ B (vw σ B) = σ := by
  have hb : ∀ a, inB B a = true → B + (a - B) = a := fun a h => by simp [inB] at h; omega
  obtain ⟨t, i, l, r, b, n, u⟩ := σ
  simp only [emb, Prod.mk.injEq, true_and, and_true]
  refine ⟨?_, ?_, ?_⟩ <;> (funext a j; by_cases h : inB B a = true)
  · rw [if_pos h]; show i (B + (a - B)) j = _; rw [hb a h]
  · rw [if_neg h]
  · rw [if_pos h]; show l (B + (a - B)) j = _; rw [hb a h]
  · rw [if_neg h]
  · rw [if_pos h]; show b (B + (a - B)) j = _; rw [hb a h]
  · rw [if_neg h]
theorem lw_ref {Γ : W0} {M : MD} {y : MethodName} {as : List Value} {σ : Mem} {B : Nat} {r : Option Value × Mem} (h : CT Γ M y as (emb σ B (vw σ B)) r) : CT Γ M y as σ r := by
  rw [emb_vw] at h
  exact h
theorem lw_ref1 {Γ : W0} {M : MD} {y : MethodName} {as : List Value} {σ : Mem} {B : Nat} {v : Option Value} (h : CT Γ M y as (emb σ B (vw σ B)) (v, emb σ B (vw σ B))) : CT Γ M y as σ (v, σ) := by
  rw [emb_vw] at h
  exact h
noncomputable def ckB (σ : Mem) (B : Nat) : Option Unit := @ite _ (RB σ B) (Classical.propDecidable _) (some ()) none
theorem ckB_t {σ : Mem} {B : Nat} {u : Unit} (h : ckB σ B = some u) : RB σ B := by
  unfold ckB at h
  by_cases hB : RB σ B
  · exact hB
  · rw [if_neg hB] at h
    cases h
theorem ckB_i {σ : Mem} {B : Nat} (h : RB σ B) : ckB σ B = some () := by
  unfold ckB
  rw [if_pos h]
section RL_
variable {Γ : W0} {M : MD} {σ0 σ : Mem} {r : RT} {pc : Nat} {L : List (Nat × Value)} {st : List Value}
theorem r_scX {i : Int32} {ρ : Type} {F : Int32 → Option ρ} {z : ρ} (hf : (scX (wX Γ) i).bind F = some z) (hd : decode M.2.1 pc = .ok (.iaload, 1)) (kk : ∀ v, scX (wX Γ) i = some v → F v = some z → V Γ M σ0 r σ (pc + 1) L (.int v :: st)) : V Γ M σ0 r σ pc L (.int i :: .ref (wX Γ).1 :: st) := by
  refine ibd hf fun hi hg => ?_
  have kk := kk _ (by unfold scX; rw [if_pos hi]) hg
  refine ⟨kk.1, kk.2.1, fun p l e s m args below meth c H locs ls hT hl => ?_⟩
  exact va_sld hT.1.1 hT.1.2.1 hT.2.2.1.2.2.2.2.1 hT.2.2.1.2.2.2.2.2.1 hT.2.2.1.2.2.2.2.2.2 hT.2.2.2.2.2.2.2.2.2.1 (ix_in hi) hd (kk.2.2 p l e s m args below meth c H locs ls hT hl)
theorem r_xlen (hd : decode M.2.1 pc = .ok (.arraylength, 1)) (kk : V Γ M σ0 r σ (pc + 1) L (.int (Int32.ofNat (wX Γ).2.1) :: st)) : V Γ M σ0 r σ pc L (.ref (wX Γ).1 :: st) :=
  ⟨kk.1, kk.2.1, fun p l e s m args below meth c H locs ls hT hl => va_slen hT.1.1 hT.1.2.1 hT.2.2.1.2.2.2.2.1 hT.2.2.1.2.2.2.2.2.1 hT.2.2.1.2.2.2.2.2.2 hT.2.2.2.2.2.2.2.2.2.1 hd (kk.2.2 p l e s m args below meth c H locs ls hT hl)⟩
theorem b2i_inj {a b : Bool} : b2i a = b2i b ↔ a = b := by cases a <;> cases b <;> decide
theorem r_icmpZ {x y : Bool} {off : Int} (tgt : Nat) {ρ : Type} {A B z : ρ} (hf : (if x = y then A else B) = z) (hd : decode M.2.1 pc = .ok (.if_icmp .eq off, 3)) (ht : (pc : Int) + off = (tgt : Int)) (kt : x = y → A = z → V Γ M σ0 r σ tgt L st) (kf : ¬ x = y → B = z → V Γ M σ0 r σ (pc + 3) L st) : V Γ M σ0 r σ pc L (.int (b2i y) :: .int (b2i x) :: st) := by
  refine r_icmp_eq (x := b2i x) (y := b2i y) (A := A) (B := B) (z := z) tgt ?_ hd ht (fun h => kt (b2i_inj.mp h)) (fun h => kf (fun q => h (b2i_inj.mpr q)))
  by_cases h : x = y
  · rw [if_pos h] at hf
    rw [if_pos (b2i_inj.mpr h)]
    exact hf
  · rw [if_neg h] at hf
    rw [if_neg (fun q => h (b2i_inj.mp q))]
    exact hf
end RL_
/-! the law: cell -/
noncomputable def LW_cell (X : Nat × Nat × (Nat → Int32)) (x1 : Int32) : Option Int32 :=
  if (Int32.ofNat X.2.1) ≤ x1 then
    some (0 : Int32)
  else
    (scX X x1).bind fun v2 =>
    some v2
set_option maxRecDepth 100000 in
set_option maxHeartbeats 4000000 in
theorem t_LW_cell {Γ : W0} {σ : Mem} {x1 : Int32} {v : Int32} (hf : LW_cell (wX Γ) x1 = some v) : CT Γ MD_LW_cell yL_cell [.ref (wX Γ).1, .int x1] σ (some (.int v), σ) := by
  refine CT.of (L := [(0, .ref (wX Γ).1), (1, .int x1)]) rfl (by decide) (fun h => Bool.noConfusion (show false = true from h)) (by cases (wX Γ) <;> exact Nat.le_of_ble_eq_true rfl) (by cases (wX Γ) <;> rfl) ?_
  unfold LW_cell at hf
  generalize hr : mkR Γ σ (some (.int v)) σ = r
  refine r_iload_n 1 dL_cell_0 rfl rfl ?_
  refine r_aloadS_n 0 dL_cell_1 rfl rfl ?_
  refine r_xlen dL_cell_2 ?_
  refine r_icmp_ge 12 hf dL_cell_3 (by decide) (fun c1 hf => ?_) (fun c1 hf => ?_)
  · refine r_iconst (0 : Int32) dL_cell_12 (by decide) ?_
    exact r_iret rfl dL_cell_13 (by have h1 := (Option.some.inj hf); subst h1; exact hr.symm)
  · refine r_aloadS_n 0 dL_cell_6 rfl rfl ?_
    refine r_iload_n 1 dL_cell_7 rfl rfl ?_
    refine r_scX hf dL_cell_8 (fun v2 ev2 hf => ?_)
    refine r_goto 13 dL_cell_9 (by decide) ?_
    exact r_iret rfl dL_cell_13 (by have h1 := (Option.some.inj hf); subst h1; exact hr.symm)
/-! the law: law -/
noncomputable def LW_law_l28 (σ : Mem) (X : Nat × Nat × (Nat → Int32)) (x1 : Option Nat) (x2 : Option Nat) (x3 : Int32) : Option ((Int32 × Mem) ⊕ Mem) :=
  if ((Int32.ofNat X.2.1) - (6 : Int32)) < x3 then
    some (Sum.inr σ)
  else
    (scX X x3).bind fun v8 =>
    Option.bind (
      if (v8 &&& (31 : Int32)) = (0 : Int32) then
        (scX X (x3 + (1 : Int32))).bind fun v11 =>
        (scX X (x3 + (2 : Int32))).bind fun v12 =>
        (scX X (x3 + (3 : Int32))).bind fun v13 =>
        (scX X (x3 + (4 : Int32))).bind fun v14 =>
        (scX X (x3 + (5 : Int32))).bind fun v15 =>
        (chk σ 11 x1).bind fun a16 =>
        (E_feed σ a16 ((shlL v11.toInt64 (32 : Int32)) ||| (v12.toInt64 &&& (4294967295 : Int64))) ((shlL v13.toInt64 (32 : Int32)) ||| (v14.toInt64 &&& (4294967295 : Int64))) v15).bind fun v17 =>
        (scX X (x3 + (1 : Int32))).bind fun v18 =>
        (scX X (x3 + (2 : Int32))).bind fun v19 =>
        (scX X (x3 + (3 : Int32))).bind fun v20 =>
        (scX X (x3 + (4 : Int32))).bind fun v21 =>
        (scX X (x3 + (5 : Int32))).bind fun v22 =>
        (chk v17.2 12 x2).bind fun a23 =>
        (ckB v17.2 a23).bind fun u24 =>
        (M_feed (vw v17.2 a23) ((shlL v18.toInt64 (32 : Int32)) ||| (v19.toInt64 &&& (4294967295 : Int64))) ((shlL v20.toInt64 (32 : Int32)) ||| (v21.toInt64 &&& (4294967295 : Int64))) v22).bind fun v25 =>
        if v17.1 = v25.1 then
          some (emb v17.2 a23 v25.2)
        else
          none
      else
      if (v8 &&& (31 : Int32)) = (1 : Int32) then
        (scX X (x3 + (1 : Int32))).bind fun v28 =>
        (scX X (x3 + (2 : Int32))).bind fun v29 =>
        (scX X (x3 + (3 : Int32))).bind fun v30 =>
        (scX X (x3 + (4 : Int32))).bind fun v31 =>
        (chk σ 11 x1).bind fun a32 =>
        (E_add σ a32 ((shlL v28.toInt64 (32 : Int32)) ||| (v29.toInt64 &&& (4294967295 : Int64))) v30 v31).bind fun v33 =>
        (scX X (x3 + (1 : Int32))).bind fun v34 =>
        (scX X (x3 + (2 : Int32))).bind fun v35 =>
        (scX X (x3 + (3 : Int32))).bind fun v36 =>
        (scX X (x3 + (4 : Int32))).bind fun v37 =>
        (chk v33.2 12 x2).bind fun a38 =>
        (ckB v33.2 a38).bind fun u39 =>
        (M_add (vw v33.2 a38) ((shlL v34.toInt64 (32 : Int32)) ||| (v35.toInt64 &&& (4294967295 : Int64))) v36 v37).bind fun v40 =>
        if v33.1 = v40.1 then
          some (emb v33.2 a38 v40.2)
        else
          none
      else
      if (v8 &&& (31 : Int32)) = (2 : Int32) then
        (scX X (x3 + (1 : Int32))).bind fun v43 =>
        (scX X (x3 + (2 : Int32))).bind fun v44 =>
        (chk σ 11 x1).bind fun a45 =>
        (E_delete σ a45 ((shlL v43.toInt64 (32 : Int32)) ||| (v44.toInt64 &&& (4294967295 : Int64)))).bind fun v46 =>
        (scX X (x3 + (1 : Int32))).bind fun v47 =>
        (scX X (x3 + (2 : Int32))).bind fun v48 =>
        (chk v46.2 12 x2).bind fun a49 =>
        (ckB v46.2 a49).bind fun u50 =>
        (M_delete (vw v46.2 a49) ((shlL v47.toInt64 (32 : Int32)) ||| (v48.toInt64 &&& (4294967295 : Int64)))).bind fun v51 =>
        if v46.1 = v51.1 then
          some (emb v46.2 a49 v51.2)
        else
          none
      else
      if (v8 &&& (31 : Int32)) = (3 : Int32) then
        (chk σ 11 x1).bind fun a54 =>
        (E_refresh σ a54).bind fun v55 =>
        (chk v55.2 12 x2).bind fun a56 =>
        (ckB v55.2 a56).bind fun u57 =>
        (M_refresh (vw v55.2 a56)).bind fun v58 =>
        if v55.1 = v58.1 then
          some (emb v55.2 a56 v58.2)
        else
          none
      else
      if (v8 &&& (31 : Int32)) = (4 : Int32) then
        (chk σ 11 x1).bind fun a61 =>
        (E_open σ a61).bind fun v62 =>
        (chk v62.2 12 x2).bind fun a63 =>
        (ckB v62.2 a63).bind fun u64 =>
        (M_open (vw v62.2 a63)).bind fun v65 =>
        if v62.1 = v65.1 then
          some (emb v62.2 a63 v65.2)
        else
          none
      else
      if (v8 &&& (31 : Int32)) = (5 : Int32) then
        (scX X (x3 + (1 : Int32))).bind fun v68 =>
        (chk σ 11 x1).bind fun a69 =>
        (E_close σ a69 v68).bind fun v70 =>
        (scX X (x3 + (1 : Int32))).bind fun v71 =>
        (chk v70.2 12 x2).bind fun a72 =>
        (ckB v70.2 a72).bind fun u73 =>
        (M_close (vw v70.2 a72) v71).bind fun v74 =>
        if v70.1 = v74.1 then
          some (emb v70.2 a72 v74.2)
        else
          none
      else
      if (v8 &&& (31 : Int32)) = (6 : Int32) then
        (scX X (x3 + (1 : Int32))).bind fun v77 =>
        (chk σ 11 x1).bind fun a78 =>
        (E_search σ a78 v77).bind fun v79 =>
        (scX X (x3 + (1 : Int32))).bind fun v80 =>
        (chk v79.2 12 x2).bind fun a81 =>
        (ckB v79.2 a81).bind fun u82 =>
        (M_search (vw v79.2 a81) v80).bind fun v83 =>
        if v79.1 = v83.1 then
          some (emb v79.2 a81 v83.2)
        else
          none
      else
      if (v8 &&& (31 : Int32)) = (7 : Int32) then
        (scX X (x3 + (1 : Int32))).bind fun v86 =>
        (chk σ 11 x1).bind fun a87 =>
        (E_key σ a87 v86).bind fun v88 =>
        (scX X (x3 + (1 : Int32))).bind fun v89 =>
        (chk σ 12 x2).bind fun a90 =>
        (ckB σ a90).bind fun u91 =>
        (M_key (vw σ a90) v89).bind fun v92 =>
        if v88 = v92 then
          some σ
        else
          none
      else
      if (v8 &&& (31 : Int32)) = (8 : Int32) then
        (scX X (x3 + (1 : Int32))).bind fun v95 =>
        (scX X (x3 + (2 : Int32))).bind fun v96 =>
        (chk σ 11 x1).bind fun a97 =>
        (E_hit σ a97 v95 v96).bind fun v98 =>
        (scX X (x3 + (1 : Int32))).bind fun v99 =>
        (scX X (x3 + (2 : Int32))).bind fun v100 =>
        (chk σ 12 x2).bind fun a101 =>
        (ckB σ a101).bind fun u102 =>
        (M_hit (vw σ a101) v99 v100).bind fun v103 =>
        if v98 = v103 then
          some σ
        else
          none
      else
      if (v8 &&& (31 : Int32)) = (9 : Int32) then
        (scX X (x3 + (1 : Int32))).bind fun v106 =>
        (scX X (x3 + (2 : Int32))).bind fun v107 =>
        (scX X (x3 + (3 : Int32))).bind fun v108 =>
        (chk σ 11 x1).bind fun a109 =>
        (E_bucket σ a109 v106 v107 v108).bind fun v110 =>
        (scX X (x3 + (1 : Int32))).bind fun v111 =>
        (scX X (x3 + (2 : Int32))).bind fun v112 =>
        (scX X (x3 + (3 : Int32))).bind fun v113 =>
        (chk σ 12 x2).bind fun a114 =>
        (ckB σ a114).bind fun u115 =>
        (M_bucket (vw σ a114) v111 v112 v113).bind fun v116 =>
        if v110 = v116 then
          some σ
        else
          none
      else
      if (v8 &&& (31 : Int32)) = (10 : Int32) then
        (scX X (x3 + (1 : Int32))).bind fun v119 =>
        (scX X (x3 + (2 : Int32))).bind fun v120 =>
        (chk σ 11 x1).bind fun a121 =>
        (E_over σ a121 v119 v120).bind fun v122 =>
        (scX X (x3 + (1 : Int32))).bind fun v123 =>
        (scX X (x3 + (2 : Int32))).bind fun v124 =>
        (chk σ 12 x2).bind fun a125 =>
        (ckB σ a125).bind fun u126 =>
        (M_over (vw σ a125) v123 v124).bind fun v127 =>
        if v122 = v127 then
          some σ
        else
          none
      else
      if (v8 &&& (31 : Int32)) = (11 : Int32) then
        (scX X (x3 + (1 : Int32))).bind fun v130 =>
        (scX X (x3 + (2 : Int32))).bind fun v131 =>
        (scX X (x3 + (3 : Int32))).bind fun v132 =>
        Option.bind (
          if v132 = 0 then
            some false
          else
            some true) fun q133 =>
        (chk σ 11 x1).bind fun a135 =>
        (E_mark σ a135 v130 v131 q133).bind fun v136 =>
        (scX X (x3 + (1 : Int32))).bind fun v137 =>
        (scX X (x3 + (2 : Int32))).bind fun v138 =>
        (scX X (x3 + (3 : Int32))).bind fun v139 =>
        Option.bind (
          if v139 = 0 then
            some false
          else
            some true) fun q140 =>
        (chk σ 12 x2).bind fun a142 =>
        (ckB σ a142).bind fun u143 =>
        (M_mark_ (vw σ a142) v137 v138 q140).bind fun v144 =>
        if v136 = v144 then
          some σ
        else
          none
      else
      if (v8 &&& (31 : Int32)) = (12 : Int32) then
        (scX X (x3 + (1 : Int32))).bind fun v147 =>
        (chk σ 11 x1).bind fun a148 =>
        (E_near σ a148 v147).bind fun v149 =>
        (scX X (x3 + (1 : Int32))).bind fun v150 =>
        (chk v149.2 12 x2).bind fun a151 =>
        (ckB v149.2 a151).bind fun u152 =>
        (M_near (vw v149.2 a151) v150).bind fun v153 =>
        if v149.1 = v153.1 then
          some (emb v149.2 a151 v153.2)
        else
          none
      else
      if (v8 &&& (31 : Int32)) = (13 : Int32) then
        (scX X (x3 + (1 : Int32))).bind fun v156 =>
        (chk σ 11 x1).bind fun a157 =>
        (E_nearByte σ a157 v156).bind fun v158 =>
        (scX X (x3 + (1 : Int32))).bind fun v159 =>
        (chk v158.2 12 x2).bind fun a160 =>
        (ckB v158.2 a160).bind fun u161 =>
        (M_nearByte (vw v158.2 a160) v159).bind fun v162 =>
        if v158.1 = v162 then
          some v158.2
        else
          none
      else
      if (v8 &&& (31 : Int32)) = (14 : Int32) then
        (scX X (x3 + (1 : Int32))).bind fun v165 =>
        (scX X (x3 + (2 : Int32))).bind fun v166 =>
        (chk σ 11 x1).bind fun a167 =>
        (E_segment σ a167 v165 v166).bind fun v168 =>
        (scX X (x3 + (1 : Int32))).bind fun v169 =>
        (scX X (x3 + (2 : Int32))).bind fun v170 =>
        (chk σ 12 x2).bind fun a171 =>
        (ckB σ a171).bind fun u172 =>
        (M_segment (vw σ a171) v169 v170).bind fun v173 =>
        if v168 = v173 then
          some σ
        else
          none
      else
      if (v8 &&& (31 : Int32)) = (15 : Int32) then
        (scX X (x3 + (1 : Int32))).bind fun v176 =>
        (scX X (x3 + (2 : Int32))).bind fun v177 =>
        (chk σ 11 x1).bind fun a178 =>
        (E_view σ a178 v176 v177).bind fun v179 =>
        (scX X (x3 + (1 : Int32))).bind fun v180 =>
        (scX X (x3 + (2 : Int32))).bind fun v181 =>
        (chk σ 12 x2).bind fun a182 =>
        (ckB σ a182).bind fun u183 =>
        (M_view (vw σ a182) v180 v181).bind fun v184 =>
        if v179 = v184 then
          some σ
        else
          none
      else
      if (v8 &&& (31 : Int32)) = (16 : Int32) then
        (scX X (x3 + (1 : Int32))).bind fun v187 =>
        (scX X (x3 + (2 : Int32))).bind fun v188 =>
        (chk σ 11 x1).bind fun a189 =>
        (E_frequency σ a189 v187 v188).bind fun v190 =>
        (scX X (x3 + (1 : Int32))).bind fun v191 =>
        (scX X (x3 + (2 : Int32))).bind fun v192 =>
        (chk v190.2 12 x2).bind fun a193 =>
        (ckB v190.2 a193).bind fun u194 =>
        (M_frequency (vw v190.2 a193) v191 v192).bind fun v195 =>
        if v190.1 = v195.1 then
          some (emb v190.2 a193 v195.2)
        else
          none
      else
      if (v8 &&& (31 : Int32)) = (17 : Int32) then
        (scX X (x3 + (1 : Int32))).bind fun v198 =>
        (chk σ 11 x1).bind fun a199 =>
        (E_told σ a199 v198).bind fun v200 =>
        (scX X (x3 + (1 : Int32))).bind fun v201 =>
        (chk σ 12 x2).bind fun a202 =>
        (ckB σ a202).bind fun u203 =>
        (M_told (vw σ a202) v201).bind fun v204 =>
        if v200 = v204 then
          some σ
        else
          none
      else
      some σ) fun q9 =>
    some (Sum.inl ((x3 + (6 : Int32)), q9))
noncomputable def LW_law (σ : Mem) (X : Nat × Nat × (Nat → Int32)) : Option Mem :=
  (some (nwO σ 11)).bind fun m1 =>
  (LW_cell X (0 : Int32)).bind fun v2 =>
  (E_init m1 (gN σ) v2).bind fun v3 =>
  (some (nwO v3 12)).bind fun m4 =>
  (LW_cell X (0 : Int32)).bind fun v5 =>
  (M_init m4 (gN v3) v5).bind fun v6 =>
  (lp (fun q => LW_law_l28 q.2 X (some (gN σ)) (some (gN v3)) q.1) ((1 : Int32), v6)).bind fun z207 =>
  some z207
set_option maxRecDepth 100000 in
set_option maxHeartbeats 4000000 in
theorem x_LW_law_l28 {Γ : W0} {σ0 : Mem} {r : RT} {x1 : Option Nat} {x2 : Option Nat} {t : Mem} (hk0 : ∀ z : Mem, z = t → V Γ MD_LW_law σ0 r z 796 [] []) : ∀ q : Int32 × Mem, lp (fun q => LW_law_l28 q.2 (wX Γ) x1 x2 q.1) q = some t → V Γ MD_LW_law σ0 r q.2 28 [(0, .ref (wX Γ).1), (1, va_rf x1), (2, va_rf x2), (3, .int q.1)] [] := by
  refine lp_ind (fun (q : Int32 × Mem) => V Γ MD_LW_law σ0 r q.2 28 [(0, .ref (wX Γ).1), (1, va_rf x1), (2, va_rf x2), (3, .int q.1)] []) (fun q x hf ih ho => ?_)
  obtain ⟨x3, σ⟩ := q
  show V Γ MD_LW_law σ0 r σ 28 [(0, .ref (wX Γ).1), (1, va_rf x1), (2, va_rf x2), (3, .int x3)] []
  replace hf : LW_law_l28 σ (wX Γ) x1 x2 x3 = some x := hf
  unfold LW_law_l28 at hf
  refine r_iload_n 3 dL_law_28 rfl rfl ?_
  refine r_aloadS_n 0 dL_law_29 rfl rfl ?_
  refine r_xlen dL_law_30 ?_
  refine r_bipush (6 : Int32) dL_law_31 (by decide) ?_
  refine r_isub dL_law_33 ?_
  refine r_icmp_gt 796 hf dL_law_34 (by decide) (fun c7 hf => ?_) (fun c7 hf => ?_)
  · refine r_sub (L' := []) [] rfl ?_
    exact hk0 _ (ho _ (Option.some.inj hf).symm)
  · refine r_aloadS_n 0 dL_law_37 rfl rfl ?_
    refine r_iload_n 3 dL_law_38 rfl rfl ?_
    refine r_scX hf dL_law_39 (fun v8 ev8 hf => ?_)
    refine r_bipush (31 : Int32) dL_law_40 (by decide) ?_
    refine r_iand dL_law_42 ?_
    refine r_bd (fun (q9 : Mem) => V Γ MD_LW_law σ0 r q9 790 [(0, .ref (wX Γ).1), (1, va_rf x1), (2, va_rf x2), (3, .int x3)] []) hf (fun q9 hf => ?_) (fun yq9 hf kq9 => ?_)
    · refine r_iinc (6 : Int32) (L' := [(3, .int (x3 + (6 : Int32))), (0, .ref (wX Γ).1), (1, va_rf x1), (2, va_rf x2)]) 3 dL_law_790 rfl (by decide) (show 3 < 4 by decide) (by simp [List.filter, cat_rf, cat_i, cat_l]) ?_
      refine r_goto 28 dL_law_793 (by decide) ?_
      refine r_sub (L' := [(0, _), (1, _), (2, _), (3, _)]) [1, 2, 3, 0] rfl ?_
      exact ih _ (Option.some.inj hf).symm
    · refine sw_pos hf (fun c10 hf => ?_) (fun c10 hf => ?_)
      · refine r_tableIn 128 dL_law_43 (by rw [c10]; decide) (by rw [c10]; decide) (by rw [c10] <;> rfl) (by decide) ?_
        refine r_aload_n 1 dL_law_128 rfl rfl ?_
        refine r_aloadS_n 0 dL_law_129 rfl rfl ?_
        refine r_iload_n 3 dL_law_130 rfl rfl ?_
        refine r_iconst (1 : Int32) dL_law_131 (by decide) ?_
        refine r_iadd dL_law_132 ?_
        refine r_scX hf dL_law_133 (fun v11 ev11 hf => ?_)
        refine r_i2l dL_law_134 ?_
        refine r_bipush (32 : Int32) dL_law_135 (by decide) ?_
        refine r_lshl dL_law_137 ?_
        refine r_aloadS_n 0 dL_law_138 rfl rfl ?_
        refine r_iload_n 3 dL_law_139 rfl rfl ?_
        refine r_iconst (2 : Int32) dL_law_140 (by decide) ?_
        refine r_iadd dL_law_141 ?_
        refine r_scX hf dL_law_142 (fun v12 ev12 hf => ?_)
        refine r_i2l dL_law_143 ?_
        refine r_ldc2 (4294967295 : Int64) dL_law_144 ww_1554 ?_
        refine r_land dL_law_147 ?_
        refine r_lor dL_law_148 ?_
        refine r_aloadS_n 0 dL_law_149 rfl rfl ?_
        refine r_iload_n 3 dL_law_150 rfl rfl ?_
        refine r_iconst (3 : Int32) dL_law_151 (by decide) ?_
        refine r_iadd dL_law_152 ?_
        refine r_scX hf dL_law_153 (fun v13 ev13 hf => ?_)
        refine r_i2l dL_law_154 ?_
        refine r_bipush (32 : Int32) dL_law_155 (by decide) ?_
        refine r_lshl dL_law_157 ?_
        refine r_aloadS_n 0 dL_law_158 rfl rfl ?_
        refine r_iload_n 3 dL_law_159 rfl rfl ?_
        refine r_iconst (4 : Int32) dL_law_160 (by decide) ?_
        refine r_iadd dL_law_161 ?_
        refine r_scX hf dL_law_162 (fun v14 ev14 hf => ?_)
        refine r_i2l dL_law_163 ?_
        refine r_ldc2 (4294967295 : Int64) dL_law_164 ww_1554 ?_
        refine r_land dL_law_167 ?_
        refine r_lor dL_law_168 ?_
        refine r_aloadS_n 0 dL_law_169 rfl rfl ?_
        refine r_iload_n 3 dL_law_170 rfl rfl ?_
        refine r_iconst (5 : Int32) dL_law_171 (by decide) ?_
        refine r_iadd dL_law_172 ?_
        refine r_scX hf dL_law_173 (fun v15 ev15 hf => ?_)
        refine r_chk hf (fun a16 xa16 ta16 hf => ?_)
        refine bnd hf (fun v17 ev17 hf => ?_)
        refine r_callVr (ci := 11) xa16 dL_law_174 cs_RL_23 ww_423 ww_424 (by decide) ta16 (by decide) rfl (rest := []) rfl (Or.inl (Nat.le_of_ble_eq_true rfl)) (t_E_feed ev17) ?_
        refine r_aload_n 2 dL_law_177 rfl rfl ?_
        refine r_aloadS_n 0 dL_law_178 rfl rfl ?_
        refine r_iload_n 3 dL_law_179 rfl rfl ?_
        refine r_iconst (1 : Int32) dL_law_180 (by decide) ?_
        refine r_iadd dL_law_181 ?_
        refine r_scX hf dL_law_182 (fun v18 ev18 hf => ?_)
        refine r_i2l dL_law_183 ?_
        refine r_bipush (32 : Int32) dL_law_184 (by decide) ?_
        refine r_lshl dL_law_186 ?_
        refine r_aloadS_n 0 dL_law_187 rfl rfl ?_
        refine r_iload_n 3 dL_law_188 rfl rfl ?_
        refine r_iconst (2 : Int32) dL_law_189 (by decide) ?_
        refine r_iadd dL_law_190 ?_
        refine r_scX hf dL_law_191 (fun v19 ev19 hf => ?_)
        refine r_i2l dL_law_192 ?_
        refine r_ldc2 (4294967295 : Int64) dL_law_193 ww_1554 ?_
        refine r_land dL_law_196 ?_
        refine r_lor dL_law_197 ?_
        refine r_aloadS_n 0 dL_law_198 rfl rfl ?_
        refine r_iload_n 3 dL_law_199 rfl rfl ?_
        refine r_iconst (3 : Int32) dL_law_200 (by decide) ?_
        refine r_iadd dL_law_201 ?_
        refine r_scX hf dL_law_202 (fun v20 ev20 hf => ?_)
        refine r_i2l dL_law_203 ?_
        refine r_bipush (32 : Int32) dL_law_204 (by decide) ?_
        refine r_lshl dL_law_206 ?_
        refine r_aloadS_n 0 dL_law_207 rfl rfl ?_
        refine r_iload_n 3 dL_law_208 rfl rfl ?_
        refine r_iconst (4 : Int32) dL_law_209 (by decide) ?_
        refine r_iadd dL_law_210 ?_
        refine r_scX hf dL_law_211 (fun v21 ev21 hf => ?_)
        refine r_i2l dL_law_212 ?_
        refine r_ldc2 (4294967295 : Int64) dL_law_213 ww_1554 ?_
        refine r_land dL_law_216 ?_
        refine r_lor dL_law_217 ?_
        refine r_aloadS_n 0 dL_law_218 rfl rfl ?_
        refine r_iload_n 3 dL_law_219 rfl rfl ?_
        refine r_iconst (5 : Int32) dL_law_220 (by decide) ?_
        refine r_iadd dL_law_221 ?_
        refine r_scX hf dL_law_222 (fun v22 ev22 hf => ?_)
        refine r_chk hf (fun a23 xa23 ta23 hf => ?_)
        refine bnd hf (fun u24 eu24 hf => ?_)
        refine bnd hf (fun v25 ev25 hf => ?_)
        refine r_callVr (ci := 12) xa23 dL_law_223 cs_RL_27 ww_1254 ww_1255 (by decide) ta23 (by decide) rfl (rest := [_]) rfl (Or.inl (Nat.le_of_ble_eq_true rfl)) (lw_ref (t_M_feed (ckB_t eu24) ev25)) ?_
        refine r_icmp_eq 790 hf dL_law_226 (by decide) (fun c26 hf => ?_) (fun c26 hf => ?_)
        · refine r_sub (L' := [(0, _), (1, _), (2, _), (3, _)]) [0, 1, 2, 3] rfl ?_
          cases (Option.some.inj hf)
          exact kq9
        · cases hf
      refine sw_pos hf (fun c27 hf => ?_) (fun c27 hf => ?_)
      · refine r_tableIn 231 dL_law_43 (by rw [c27]; decide) (by rw [c27]; decide) (by rw [c27] <;> rfl) (by decide) ?_
        refine r_aload_n 1 dL_law_231 rfl rfl ?_
        refine r_aloadS_n 0 dL_law_232 rfl rfl ?_
        refine r_iload_n 3 dL_law_233 rfl rfl ?_
        refine r_iconst (1 : Int32) dL_law_234 (by decide) ?_
        refine r_iadd dL_law_235 ?_
        refine r_scX hf dL_law_236 (fun v28 ev28 hf => ?_)
        refine r_i2l dL_law_237 ?_
        refine r_bipush (32 : Int32) dL_law_238 (by decide) ?_
        refine r_lshl dL_law_240 ?_
        refine r_aloadS_n 0 dL_law_241 rfl rfl ?_
        refine r_iload_n 3 dL_law_242 rfl rfl ?_
        refine r_iconst (2 : Int32) dL_law_243 (by decide) ?_
        refine r_iadd dL_law_244 ?_
        refine r_scX hf dL_law_245 (fun v29 ev29 hf => ?_)
        refine r_i2l dL_law_246 ?_
        refine r_ldc2 (4294967295 : Int64) dL_law_247 ww_1554 ?_
        refine r_land dL_law_250 ?_
        refine r_lor dL_law_251 ?_
        refine r_aloadS_n 0 dL_law_252 rfl rfl ?_
        refine r_iload_n 3 dL_law_253 rfl rfl ?_
        refine r_iconst (3 : Int32) dL_law_254 (by decide) ?_
        refine r_iadd dL_law_255 ?_
        refine r_scX hf dL_law_256 (fun v30 ev30 hf => ?_)
        refine r_aloadS_n 0 dL_law_257 rfl rfl ?_
        refine r_iload_n 3 dL_law_258 rfl rfl ?_
        refine r_iconst (4 : Int32) dL_law_259 (by decide) ?_
        refine r_iadd dL_law_260 ?_
        refine r_scX hf dL_law_261 (fun v31 ev31 hf => ?_)
        refine r_chk hf (fun a32 xa32 ta32 hf => ?_)
        refine bnd hf (fun v33 ev33 hf => ?_)
        refine r_callVr (ci := 11) xa32 dL_law_262 cs_RL_28 ww_427 ww_428 (by decide) ta32 (by decide) rfl (rest := []) rfl (Or.inl (Nat.le_of_ble_eq_true rfl)) (t_E_add ev33) ?_
        refine r_aload_n 2 dL_law_265 rfl rfl ?_
        refine r_aloadS_n 0 dL_law_266 rfl rfl ?_
        refine r_iload_n 3 dL_law_267 rfl rfl ?_
        refine r_iconst (1 : Int32) dL_law_268 (by decide) ?_
        refine r_iadd dL_law_269 ?_
        refine r_scX hf dL_law_270 (fun v34 ev34 hf => ?_)
        refine r_i2l dL_law_271 ?_
        refine r_bipush (32 : Int32) dL_law_272 (by decide) ?_
        refine r_lshl dL_law_274 ?_
        refine r_aloadS_n 0 dL_law_275 rfl rfl ?_
        refine r_iload_n 3 dL_law_276 rfl rfl ?_
        refine r_iconst (2 : Int32) dL_law_277 (by decide) ?_
        refine r_iadd dL_law_278 ?_
        refine r_scX hf dL_law_279 (fun v35 ev35 hf => ?_)
        refine r_i2l dL_law_280 ?_
        refine r_ldc2 (4294967295 : Int64) dL_law_281 ww_1554 ?_
        refine r_land dL_law_284 ?_
        refine r_lor dL_law_285 ?_
        refine r_aloadS_n 0 dL_law_286 rfl rfl ?_
        refine r_iload_n 3 dL_law_287 rfl rfl ?_
        refine r_iconst (3 : Int32) dL_law_288 (by decide) ?_
        refine r_iadd dL_law_289 ?_
        refine r_scX hf dL_law_290 (fun v36 ev36 hf => ?_)
        refine r_aloadS_n 0 dL_law_291 rfl rfl ?_
        refine r_iload_n 3 dL_law_292 rfl rfl ?_
        refine r_iconst (4 : Int32) dL_law_293 (by decide) ?_
        refine r_iadd dL_law_294 ?_
        refine r_scX hf dL_law_295 (fun v37 ev37 hf => ?_)
        refine r_chk hf (fun a38 xa38 ta38 hf => ?_)
        refine bnd hf (fun u39 eu39 hf => ?_)
        refine bnd hf (fun v40 ev40 hf => ?_)
        refine r_callVr (ci := 12) xa38 dL_law_296 cs_RL_32 ww_1261 ww_1262 (by decide) ta38 (by decide) rfl (rest := [_]) rfl (Or.inl (Nat.le_of_ble_eq_true rfl)) (lw_ref (t_M_add (ckB_t eu39) ev40)) ?_
        refine r_icmp_eq 790 hf dL_law_299 (by decide) (fun c41 hf => ?_) (fun c41 hf => ?_)
        · refine r_sub (L' := [(0, _), (1, _), (2, _), (3, _)]) [0, 1, 2, 3] rfl ?_
          cases (Option.some.inj hf)
          exact kq9
        · cases hf
      refine sw_pos hf (fun c42 hf => ?_) (fun c42 hf => ?_)
      · refine r_tableIn 304 dL_law_43 (by rw [c42]; decide) (by rw [c42]; decide) (by rw [c42] <;> rfl) (by decide) ?_
        refine r_aload_n 1 dL_law_304 rfl rfl ?_
        refine r_aloadS_n 0 dL_law_305 rfl rfl ?_
        refine r_iload_n 3 dL_law_306 rfl rfl ?_
        refine r_iconst (1 : Int32) dL_law_307 (by decide) ?_
        refine r_iadd dL_law_308 ?_
        refine r_scX hf dL_law_309 (fun v43 ev43 hf => ?_)
        refine r_i2l dL_law_310 ?_
        refine r_bipush (32 : Int32) dL_law_311 (by decide) ?_
        refine r_lshl dL_law_313 ?_
        refine r_aloadS_n 0 dL_law_314 rfl rfl ?_
        refine r_iload_n 3 dL_law_315 rfl rfl ?_
        refine r_iconst (2 : Int32) dL_law_316 (by decide) ?_
        refine r_iadd dL_law_317 ?_
        refine r_scX hf dL_law_318 (fun v44 ev44 hf => ?_)
        refine r_i2l dL_law_319 ?_
        refine r_ldc2 (4294967295 : Int64) dL_law_320 ww_1554 ?_
        refine r_land dL_law_323 ?_
        refine r_lor dL_law_324 ?_
        refine r_chk hf (fun a45 xa45 ta45 hf => ?_)
        refine bnd hf (fun v46 ev46 hf => ?_)
        refine r_callVr (ci := 11) xa45 dL_law_325 cs_RL_33 ww_639 ww_640 (by decide) ta45 (by decide) rfl (rest := []) rfl (Or.inl (Nat.le_of_ble_eq_true rfl)) (t_E_delete ev46) ?_
        refine r_aload_n 2 dL_law_328 rfl rfl ?_
        refine r_aloadS_n 0 dL_law_329 rfl rfl ?_
        refine r_iload_n 3 dL_law_330 rfl rfl ?_
        refine r_iconst (1 : Int32) dL_law_331 (by decide) ?_
        refine r_iadd dL_law_332 ?_
        refine r_scX hf dL_law_333 (fun v47 ev47 hf => ?_)
        refine r_i2l dL_law_334 ?_
        refine r_bipush (32 : Int32) dL_law_335 (by decide) ?_
        refine r_lshl dL_law_337 ?_
        refine r_aloadS_n 0 dL_law_338 rfl rfl ?_
        refine r_iload_n 3 dL_law_339 rfl rfl ?_
        refine r_iconst (2 : Int32) dL_law_340 (by decide) ?_
        refine r_iadd dL_law_341 ?_
        refine r_scX hf dL_law_342 (fun v48 ev48 hf => ?_)
        refine r_i2l dL_law_343 ?_
        refine r_ldc2 (4294967295 : Int64) dL_law_344 ww_1554 ?_
        refine r_land dL_law_347 ?_
        refine r_lor dL_law_348 ?_
        refine r_chk hf (fun a49 xa49 ta49 hf => ?_)
        refine bnd hf (fun u50 eu50 hf => ?_)
        refine bnd hf (fun v51 ev51 hf => ?_)
        refine r_callVr (ci := 12) xa49 dL_law_349 cs_RL_37 ww_1318 ww_1319 (by decide) ta49 (by decide) rfl (rest := [_]) rfl (Or.inl (Nat.le_of_ble_eq_true rfl)) (lw_ref (t_M_delete (ckB_t eu50) ev51)) ?_
        refine r_icmpZ 790 hf dL_law_352 (by decide) (fun c52 hf => ?_) (fun c52 hf => ?_)
        · refine r_sub (L' := [(0, _), (1, _), (2, _), (3, _)]) [0, 1, 2, 3] rfl ?_
          cases (Option.some.inj hf)
          exact kq9
        · cases hf
      refine sw_pos hf (fun c53 hf => ?_) (fun c53 hf => ?_)
      · refine r_tableIn 357 dL_law_43 (by rw [c53]; decide) (by rw [c53]; decide) (by rw [c53] <;> rfl) (by decide) ?_
        refine r_aload_n 1 dL_law_357 rfl rfl ?_
        refine r_chk hf (fun a54 xa54 ta54 hf => ?_)
        refine bnd hf (fun v55 ev55 hf => ?_)
        refine r_callVr (ci := 11) xa54 dL_law_358 cs_RL_38 ww_643 ww_644 (by decide) ta54 (by decide) rfl (rest := []) rfl (Or.inl (Nat.le_of_ble_eq_true rfl)) (t_E_refresh ev55) ?_
        refine r_aload_n 2 dL_law_361 rfl rfl ?_
        refine r_chk hf (fun a56 xa56 ta56 hf => ?_)
        refine bnd hf (fun u57 eu57 hf => ?_)
        refine bnd hf (fun v58 ev58 hf => ?_)
        refine r_callVr (ci := 12) xa56 dL_law_362 cs_RL_42 ww_1298 ww_1299 (by decide) ta56 (by decide) rfl (rest := [_]) rfl (Or.inl (Nat.le_of_ble_eq_true rfl)) (lw_ref (t_M_refresh (ckB_t eu57) ev58)) ?_
        refine r_icmp_eq 790 hf dL_law_365 (by decide) (fun c59 hf => ?_) (fun c59 hf => ?_)
        · refine r_sub (L' := [(0, _), (1, _), (2, _), (3, _)]) [0, 1, 2, 3] rfl ?_
          cases (Option.some.inj hf)
          exact kq9
        · cases hf
      refine sw_pos hf (fun c60 hf => ?_) (fun c60 hf => ?_)
      · refine r_tableIn 370 dL_law_43 (by rw [c60]; decide) (by rw [c60]; decide) (by rw [c60] <;> rfl) (by decide) ?_
        refine r_aload_n 1 dL_law_370 rfl rfl ?_
        refine r_chk hf (fun a61 xa61 ta61 hf => ?_)
        refine bnd hf (fun v62 ev62 hf => ?_)
        refine r_callVr (ci := 11) xa61 dL_law_371 cs_RL_43 ww_647 ww_648 (by decide) ta61 (by decide) rfl (rest := []) rfl (Or.inl (Nat.le_of_ble_eq_true rfl)) (t_E_open ev62) ?_
        refine r_aload_n 2 dL_law_374 rfl rfl ?_
        refine r_chk hf (fun a63 xa63 ta63 hf => ?_)
        refine bnd hf (fun u64 eu64 hf => ?_)
        refine bnd hf (fun v65 ev65 hf => ?_)
        refine r_callVr (ci := 12) xa63 dL_law_375 cs_RL_46 ww_1323 ww_1324 (by decide) ta63 (by decide) rfl (rest := [_]) rfl (Or.inl (Nat.le_of_ble_eq_true rfl)) (lw_ref (t_M_open (ckB_t eu64) ev65)) ?_
        refine r_icmp_eq 790 hf dL_law_378 (by decide) (fun c66 hf => ?_) (fun c66 hf => ?_)
        · refine r_sub (L' := [(0, _), (1, _), (2, _), (3, _)]) [0, 1, 2, 3] rfl ?_
          cases (Option.some.inj hf)
          exact kq9
        · cases hf
      refine sw_pos hf (fun c67 hf => ?_) (fun c67 hf => ?_)
      · refine r_tableIn 383 dL_law_43 (by rw [c67]; decide) (by rw [c67]; decide) (by rw [c67] <;> rfl) (by decide) ?_
        refine r_aload_n 1 dL_law_383 rfl rfl ?_
        refine r_aloadS_n 0 dL_law_384 rfl rfl ?_
        refine r_iload_n 3 dL_law_385 rfl rfl ?_
        refine r_iconst (1 : Int32) dL_law_386 (by decide) ?_
        refine r_iadd dL_law_387 ?_
        refine r_scX hf dL_law_388 (fun v68 ev68 hf => ?_)
        refine r_chk hf (fun a69 xa69 ta69 hf => ?_)
        refine bnd hf (fun v70 ev70 hf => ?_)
        refine r_callVr (ci := 11) xa69 dL_law_389 cs_RL_47 ww_659 ww_660 (by decide) ta69 (by decide) rfl (rest := []) rfl (Or.inl (Nat.le_of_ble_eq_true rfl)) (t_E_close ev70) ?_
        refine r_aload_n 2 dL_law_392 rfl rfl ?_
        refine r_aloadS_n 0 dL_law_393 rfl rfl ?_
        refine r_iload_n 3 dL_law_394 rfl rfl ?_
        refine r_iconst (1 : Int32) dL_law_395 (by decide) ?_
        refine r_iadd dL_law_396 ?_
        refine r_scX hf dL_law_397 (fun v71 ev71 hf => ?_)
        refine r_chk hf (fun a72 xa72 ta72 hf => ?_)
        refine bnd hf (fun u73 eu73 hf => ?_)
        refine bnd hf (fun v74 ev74 hf => ?_)
        refine r_callVr (ci := 12) xa72 dL_law_398 cs_RL_51 ww_1327 ww_1328 (by decide) ta72 (by decide) rfl (rest := [_]) rfl (Or.inl (Nat.le_of_ble_eq_true rfl)) (lw_ref (t_M_close (ckB_t eu73) ev74)) ?_
        refine r_icmp_eq 790 hf dL_law_401 (by decide) (fun c75 hf => ?_) (fun c75 hf => ?_)
        · refine r_sub (L' := [(0, _), (1, _), (2, _), (3, _)]) [0, 1, 2, 3] rfl ?_
          cases (Option.some.inj hf)
          exact kq9
        · cases hf
      refine sw_pos hf (fun c76 hf => ?_) (fun c76 hf => ?_)
      · refine r_tableIn 406 dL_law_43 (by rw [c76]; decide) (by rw [c76]; decide) (by rw [c76] <;> rfl) (by decide) ?_
        refine r_aload_n 1 dL_law_406 rfl rfl ?_
        refine r_aloadS_n 0 dL_law_407 rfl rfl ?_
        refine r_iload_n 3 dL_law_408 rfl rfl ?_
        refine r_iconst (1 : Int32) dL_law_409 (by decide) ?_
        refine r_iadd dL_law_410 ?_
        refine r_scX hf dL_law_411 (fun v77 ev77 hf => ?_)
        refine r_chk hf (fun a78 xa78 ta78 hf => ?_)
        refine bnd hf (fun v79 ev79 hf => ?_)
        refine r_callVr (ci := 11) xa78 dL_law_412 cs_RL_52 ww_667 ww_668 (by decide) ta78 (by decide) rfl (rest := []) rfl (Or.inl (Nat.le_of_ble_eq_true rfl)) (t_E_search ev79) ?_
        refine r_aload_n 2 dL_law_415 rfl rfl ?_
        refine r_aloadS_n 0 dL_law_416 rfl rfl ?_
        refine r_iload_n 3 dL_law_417 rfl rfl ?_
        refine r_iconst (1 : Int32) dL_law_418 (by decide) ?_
        refine r_iadd dL_law_419 ?_
        refine r_scX hf dL_law_420 (fun v80 ev80 hf => ?_)
        refine r_chk hf (fun a81 xa81 ta81 hf => ?_)
        refine bnd hf (fun u82 eu82 hf => ?_)
        refine bnd hf (fun v83 ev83 hf => ?_)
        refine r_callVr (ci := 12) xa81 dL_law_421 cs_RL_55 ww_1335 ww_1336 (by decide) ta81 (by decide) rfl (rest := [_]) rfl (Or.inl (Nat.le_of_ble_eq_true rfl)) (lw_ref (t_M_search (ckB_t eu82) ev83)) ?_
        refine r_icmp_eq 790 hf dL_law_424 (by decide) (fun c84 hf => ?_) (fun c84 hf => ?_)
        · refine r_sub (L' := [(0, _), (1, _), (2, _), (3, _)]) [0, 1, 2, 3] rfl ?_
          cases (Option.some.inj hf)
          exact kq9
        · cases hf
      refine sw_pos hf (fun c85 hf => ?_) (fun c85 hf => ?_)
      · refine r_tableIn 429 dL_law_43 (by rw [c85]; decide) (by rw [c85]; decide) (by rw [c85] <;> rfl) (by decide) ?_
        refine r_aload_n 1 dL_law_429 rfl rfl ?_
        refine r_aloadS_n 0 dL_law_430 rfl rfl ?_
        refine r_iload_n 3 dL_law_431 rfl rfl ?_
        refine r_iconst (1 : Int32) dL_law_432 (by decide) ?_
        refine r_iadd dL_law_433 ?_
        refine r_scX hf dL_law_434 (fun v86 ev86 hf => ?_)
        refine r_chk hf (fun a87 xa87 ta87 hf => ?_)
        refine bnd hf (fun v88 ev88 hf => ?_)
        refine r_callVr (ci := 11) xa87 dL_law_435 cs_RL_56 ww_904 ww_905 (by decide) ta87 (by decide) rfl (rest := []) rfl (Or.inl (Nat.le_of_ble_eq_true rfl)) (t_E_key ev88) ?_
        refine r_aload_n 2 dL_law_438 rfl rfl ?_
        refine r_aloadS_n 0 dL_law_439 rfl rfl ?_
        refine r_iload_n 3 dL_law_440 rfl rfl ?_
        refine r_iconst (1 : Int32) dL_law_441 (by decide) ?_
        refine r_iadd dL_law_442 ?_
        refine r_scX hf dL_law_443 (fun v89 ev89 hf => ?_)
        refine r_chk hf (fun a90 xa90 ta90 hf => ?_)
        refine bnd hf (fun u91 eu91 hf => ?_)
        refine bnd hf (fun v92 ev92 hf => ?_)
        refine r_callVr (ci := 12) xa90 dL_law_444 cs_RL_60 ww_1474 ww_1475 (by decide) ta90 (by decide) rfl (rest := [_]) rfl (Or.inl (Nat.le_of_ble_eq_true rfl)) (lw_ref1 (t_M_key (ckB_t eu91) ev92)) ?_
        refine r_lcmp_eq 790 hf dL_law_447 dL_law_448 (by decide) (fun c93 hf => ?_) (fun c93 hf => ?_)
        · refine r_sub (L' := [(0, _), (1, _), (2, _), (3, _)]) [0, 1, 2, 3] rfl ?_
          cases (Option.some.inj hf)
          exact kq9
        · cases hf
      refine sw_pos hf (fun c94 hf => ?_) (fun c94 hf => ?_)
      · refine r_tableIn 453 dL_law_43 (by rw [c94]; decide) (by rw [c94]; decide) (by rw [c94] <;> rfl) (by decide) ?_
        refine r_aload_n 1 dL_law_453 rfl rfl ?_
        refine r_aloadS_n 0 dL_law_454 rfl rfl ?_
        refine r_iload_n 3 dL_law_455 rfl rfl ?_
        refine r_iconst (1 : Int32) dL_law_456 (by decide) ?_
        refine r_iadd dL_law_457 ?_
        refine r_scX hf dL_law_458 (fun v95 ev95 hf => ?_)
        refine r_aloadS_n 0 dL_law_459 rfl rfl ?_
        refine r_iload_n 3 dL_law_460 rfl rfl ?_
        refine r_iconst (2 : Int32) dL_law_461 (by decide) ?_
        refine r_iadd dL_law_462 ?_
        refine r_scX hf dL_law_463 (fun v96 ev96 hf => ?_)
        refine r_chk hf (fun a97 xa97 ta97 hf => ?_)
        refine bnd hf (fun v98 ev98 hf => ?_)
        refine r_callVr (ci := 11) xa97 dL_law_464 cs_RL_61 ww_912 ww_913 (by decide) ta97 (by decide) rfl (rest := []) rfl (Or.inl (Nat.le_of_ble_eq_true rfl)) (t_E_hit ev98) ?_
        refine r_aload_n 2 dL_law_467 rfl rfl ?_
        refine r_aloadS_n 0 dL_law_468 rfl rfl ?_
        refine r_iload_n 3 dL_law_469 rfl rfl ?_
        refine r_iconst (1 : Int32) dL_law_470 (by decide) ?_
        refine r_iadd dL_law_471 ?_
        refine r_scX hf dL_law_472 (fun v99 ev99 hf => ?_)
        refine r_aloadS_n 0 dL_law_473 rfl rfl ?_
        refine r_iload_n 3 dL_law_474 rfl rfl ?_
        refine r_iconst (2 : Int32) dL_law_475 (by decide) ?_
        refine r_iadd dL_law_476 ?_
        refine r_scX hf dL_law_477 (fun v100 ev100 hf => ?_)
        refine r_chk hf (fun a101 xa101 ta101 hf => ?_)
        refine bnd hf (fun u102 eu102 hf => ?_)
        refine bnd hf (fun v103 ev103 hf => ?_)
        refine r_callVr (ci := 12) xa101 dL_law_478 cs_RL_65 ww_1478 ww_1479 (by decide) ta101 (by decide) rfl (rest := [_]) rfl (Or.inl (Nat.le_of_ble_eq_true rfl)) (lw_ref1 (t_M_hit (ckB_t eu102) ev103)) ?_
        refine r_icmp_eq 790 hf dL_law_481 (by decide) (fun c104 hf => ?_) (fun c104 hf => ?_)
        · refine r_sub (L' := [(0, _), (1, _), (2, _), (3, _)]) [0, 1, 2, 3] rfl ?_
          cases (Option.some.inj hf)
          exact kq9
        · cases hf
      refine sw_pos hf (fun c105 hf => ?_) (fun c105 hf => ?_)
      · refine r_tableIn 486 dL_law_43 (by rw [c105]; decide) (by rw [c105]; decide) (by rw [c105] <;> rfl) (by decide) ?_
        refine r_aload_n 1 dL_law_486 rfl rfl ?_
        refine r_aloadS_n 0 dL_law_487 rfl rfl ?_
        refine r_iload_n 3 dL_law_488 rfl rfl ?_
        refine r_iconst (1 : Int32) dL_law_489 (by decide) ?_
        refine r_iadd dL_law_490 ?_
        refine r_scX hf dL_law_491 (fun v106 ev106 hf => ?_)
        refine r_aloadS_n 0 dL_law_492 rfl rfl ?_
        refine r_iload_n 3 dL_law_493 rfl rfl ?_
        refine r_iconst (2 : Int32) dL_law_494 (by decide) ?_
        refine r_iadd dL_law_495 ?_
        refine r_scX hf dL_law_496 (fun v107 ev107 hf => ?_)
        refine r_aloadS_n 0 dL_law_497 rfl rfl ?_
        refine r_iload_n 3 dL_law_498 rfl rfl ?_
        refine r_iconst (3 : Int32) dL_law_499 (by decide) ?_
        refine r_iadd dL_law_500 ?_
        refine r_scX hf dL_law_501 (fun v108 ev108 hf => ?_)
        refine r_chk hf (fun a109 xa109 ta109 hf => ?_)
        refine bnd hf (fun v110 ev110 hf => ?_)
        refine r_callVr (ci := 11) xa109 dL_law_502 cs_RL_66 ww_921 ww_922 (by decide) ta109 (by decide) rfl (rest := []) rfl (Or.inl (Nat.le_of_ble_eq_true rfl)) (t_E_bucket ev110) ?_
        refine r_aload_n 2 dL_law_505 rfl rfl ?_
        refine r_aloadS_n 0 dL_law_506 rfl rfl ?_
        refine r_iload_n 3 dL_law_507 rfl rfl ?_
        refine r_iconst (1 : Int32) dL_law_508 (by decide) ?_
        refine r_iadd dL_law_509 ?_
        refine r_scX hf dL_law_510 (fun v111 ev111 hf => ?_)
        refine r_aloadS_n 0 dL_law_511 rfl rfl ?_
        refine r_iload_n 3 dL_law_512 rfl rfl ?_
        refine r_iconst (2 : Int32) dL_law_513 (by decide) ?_
        refine r_iadd dL_law_514 ?_
        refine r_scX hf dL_law_515 (fun v112 ev112 hf => ?_)
        refine r_aloadS_n 0 dL_law_516 rfl rfl ?_
        refine r_iload_n 3 dL_law_517 rfl rfl ?_
        refine r_iconst (3 : Int32) dL_law_518 (by decide) ?_
        refine r_iadd dL_law_519 ?_
        refine r_scX hf dL_law_520 (fun v113 ev113 hf => ?_)
        refine r_chk hf (fun a114 xa114 ta114 hf => ?_)
        refine bnd hf (fun u115 eu115 hf => ?_)
        refine bnd hf (fun v116 ev116 hf => ?_)
        refine r_callVr (ci := 12) xa114 dL_law_521 cs_RL_70 ww_1482 ww_1483 (by decide) ta114 (by decide) rfl (rest := [_]) rfl (Or.inl (Nat.le_of_ble_eq_true rfl)) (lw_ref1 (t_M_bucket (ckB_t eu115) ev116)) ?_
        refine r_icmp_eq 790 hf dL_law_524 (by decide) (fun c117 hf => ?_) (fun c117 hf => ?_)
        · refine r_sub (L' := [(0, _), (1, _), (2, _), (3, _)]) [0, 1, 2, 3] rfl ?_
          cases (Option.some.inj hf)
          exact kq9
        · cases hf
      refine sw_pos hf (fun c118 hf => ?_) (fun c118 hf => ?_)
      · refine r_tableIn 529 dL_law_43 (by rw [c118]; decide) (by rw [c118]; decide) (by rw [c118] <;> rfl) (by decide) ?_
        refine r_aload_n 1 dL_law_529 rfl rfl ?_
        refine r_aloadS_n 0 dL_law_530 rfl rfl ?_
        refine r_iload_n 3 dL_law_531 rfl rfl ?_
        refine r_iconst (1 : Int32) dL_law_532 (by decide) ?_
        refine r_iadd dL_law_533 ?_
        refine r_scX hf dL_law_534 (fun v119 ev119 hf => ?_)
        refine r_aloadS_n 0 dL_law_535 rfl rfl ?_
        refine r_iload_n 3 dL_law_536 rfl rfl ?_
        refine r_iconst (2 : Int32) dL_law_537 (by decide) ?_
        refine r_iadd dL_law_538 ?_
        refine r_scX hf dL_law_539 (fun v120 ev120 hf => ?_)
        refine r_chk hf (fun a121 xa121 ta121 hf => ?_)
        refine bnd hf (fun v122 ev122 hf => ?_)
        refine r_callVr (ci := 11) xa121 dL_law_540 cs_RL_71 ww_926 ww_927 (by decide) ta121 (by decide) rfl (rest := []) rfl (Or.inl (Nat.le_of_ble_eq_true rfl)) (t_E_over ev122) ?_
        refine r_aload_n 2 dL_law_543 rfl rfl ?_
        refine r_aloadS_n 0 dL_law_544 rfl rfl ?_
        refine r_iload_n 3 dL_law_545 rfl rfl ?_
        refine r_iconst (1 : Int32) dL_law_546 (by decide) ?_
        refine r_iadd dL_law_547 ?_
        refine r_scX hf dL_law_548 (fun v123 ev123 hf => ?_)
        refine r_aloadS_n 0 dL_law_549 rfl rfl ?_
        refine r_iload_n 3 dL_law_550 rfl rfl ?_
        refine r_iconst (2 : Int32) dL_law_551 (by decide) ?_
        refine r_iadd dL_law_552 ?_
        refine r_scX hf dL_law_553 (fun v124 ev124 hf => ?_)
        refine r_chk hf (fun a125 xa125 ta125 hf => ?_)
        refine bnd hf (fun u126 eu126 hf => ?_)
        refine bnd hf (fun v127 ev127 hf => ?_)
        refine r_callVr (ci := 12) xa125 dL_law_554 cs_RL_75 ww_1486 ww_1487 (by decide) ta125 (by decide) rfl (rest := [_]) rfl (Or.inl (Nat.le_of_ble_eq_true rfl)) (lw_ref1 (t_M_over (ckB_t eu126) ev127)) ?_
        refine r_lcmp_eq 790 hf dL_law_557 dL_law_558 (by decide) (fun c128 hf => ?_) (fun c128 hf => ?_)
        · refine r_sub (L' := [(0, _), (1, _), (2, _), (3, _)]) [0, 1, 2, 3] rfl ?_
          cases (Option.some.inj hf)
          exact kq9
        · cases hf
      refine sw_pos hf (fun c129 hf => ?_) (fun c129 hf => ?_)
      · refine r_tableIn 563 dL_law_43 (by rw [c129]; decide) (by rw [c129]; decide) (by rw [c129] <;> rfl) (by decide) ?_
        refine r_aload_n 1 dL_law_563 rfl rfl ?_
        refine r_aloadS_n 0 dL_law_564 rfl rfl ?_
        refine r_iload_n 3 dL_law_565 rfl rfl ?_
        refine r_iconst (1 : Int32) dL_law_566 (by decide) ?_
        refine r_iadd dL_law_567 ?_
        refine r_scX hf dL_law_568 (fun v130 ev130 hf => ?_)
        refine r_aloadS_n 0 dL_law_569 rfl rfl ?_
        refine r_iload_n 3 dL_law_570 rfl rfl ?_
        refine r_iconst (2 : Int32) dL_law_571 (by decide) ?_
        refine r_iadd dL_law_572 ?_
        refine r_scX hf dL_law_573 (fun v131 ev131 hf => ?_)
        refine r_aloadS_n 0 dL_law_574 rfl rfl ?_
        refine r_iload_n 3 dL_law_575 rfl rfl ?_
        refine r_iconst (3 : Int32) dL_law_576 (by decide) ?_
        refine r_iadd dL_law_577 ?_
        refine r_scX hf dL_law_578 (fun v132 ev132 hf => ?_)
        refine r_bd (fun (q133 : Bool) => V Γ MD_LW_law σ0 r σ 587 [(0, .ref (wX Γ).1), (1, va_rf x1), (2, va_rf x2), (3, .int x3)] [.int (b2i q133), .int v131, .int v130, va_rf x1]) hf (fun q133 hf => ?_) (fun yq133 hf kq133 => ?_)
        · refine r_chk hf (fun a135 xa135 ta135 hf => ?_)
          refine bnd hf (fun v136 ev136 hf => ?_)
          refine r_callVr (ci := 11) xa135 dL_law_587 cs_RL_76 ww_935 ww_936 (by decide) ta135 (by decide) rfl (rest := []) rfl (Or.inl (Nat.le_of_ble_eq_true rfl)) (t_E_mark ev136) ?_
          refine r_aload_n 2 dL_law_590 rfl rfl ?_
          refine r_aloadS_n 0 dL_law_591 rfl rfl ?_
          refine r_iload_n 3 dL_law_592 rfl rfl ?_
          refine r_iconst (1 : Int32) dL_law_593 (by decide) ?_
          refine r_iadd dL_law_594 ?_
          refine r_scX hf dL_law_595 (fun v137 ev137 hf => ?_)
          refine r_aloadS_n 0 dL_law_596 rfl rfl ?_
          refine r_iload_n 3 dL_law_597 rfl rfl ?_
          refine r_iconst (2 : Int32) dL_law_598 (by decide) ?_
          refine r_iadd dL_law_599 ?_
          refine r_scX hf dL_law_600 (fun v138 ev138 hf => ?_)
          refine r_aloadS_n 0 dL_law_601 rfl rfl ?_
          refine r_iload_n 3 dL_law_602 rfl rfl ?_
          refine r_iconst (3 : Int32) dL_law_603 (by decide) ?_
          refine r_iadd dL_law_604 ?_
          refine r_scX hf dL_law_605 (fun v139 ev139 hf => ?_)
          refine r_bd (fun (q140 : Bool) => V Γ MD_LW_law σ0 r σ 614 [(0, .ref (wX Γ).1), (1, va_rf x1), (2, va_rf x2), (3, .int x3)] [.int (b2i q140), .int v138, .int v137, va_rf x2, .int v136]) hf (fun q140 hf => ?_) (fun yq140 hf kq140 => ?_)
          · refine r_chk hf (fun a142 xa142 ta142 hf => ?_)
            refine bnd hf (fun u143 eu143 hf => ?_)
            refine bnd hf (fun v144 ev144 hf => ?_)
            refine r_callVr (ci := 12) xa142 dL_law_614 cs_RL_80 ww_1491 ww_1492 (by decide) ta142 (by decide) rfl (rest := [_]) rfl (Or.inl (Nat.le_of_ble_eq_true rfl)) (lw_ref1 (t_M_mark_ (ckB_t eu143) ev144)) ?_
            refine r_icmp_eq 790 hf dL_law_617 (by decide) (fun c145 hf => ?_) (fun c145 hf => ?_)
            · refine r_sub (L' := [(0, _), (1, _), (2, _), (3, _)]) [0, 1, 2, 3] rfl ?_
              cases (Option.some.inj hf)
              exact kq9
            · cases hf
          · refine r_if_eq 613 hf dL_law_606 (by decide) (fun c141 hf => ?_) (fun c141 hf => ?_)
            · refine r_iconst (b2i false) dL_law_613 rfl ?_
              refine r_sub (L' := [(0, _), (1, _), (2, _), (3, _)]) [0, 1, 2, 3] rfl ?_
              cases (Option.some.inj hf)
              exact kq140
            · refine r_iconst (b2i true) dL_law_609 rfl ?_
              refine r_goto 614 dL_law_610 (by decide) ?_
              refine r_sub (L' := [(0, _), (1, _), (2, _), (3, _)]) [0, 1, 2, 3] rfl ?_
              cases (Option.some.inj hf)
              exact kq140
        · refine r_if_eq 586 hf dL_law_579 (by decide) (fun c134 hf => ?_) (fun c134 hf => ?_)
          · refine r_iconst (b2i false) dL_law_586 rfl ?_
            refine r_sub (L' := [(0, _), (1, _), (2, _), (3, _)]) [0, 1, 2, 3] rfl ?_
            cases (Option.some.inj hf)
            exact kq133
          · refine r_iconst (b2i true) dL_law_582 rfl ?_
            refine r_goto 587 dL_law_583 (by decide) ?_
            refine r_sub (L' := [(0, _), (1, _), (2, _), (3, _)]) [0, 1, 2, 3] rfl ?_
            cases (Option.some.inj hf)
            exact kq133
      refine sw_pos hf (fun c146 hf => ?_) (fun c146 hf => ?_)
      · refine r_tableIn 622 dL_law_43 (by rw [c146]; decide) (by rw [c146]; decide) (by rw [c146] <;> rfl) (by decide) ?_
        refine r_aload_n 1 dL_law_622 rfl rfl ?_
        refine r_aloadS_n 0 dL_law_623 rfl rfl ?_
        refine r_iload_n 3 dL_law_624 rfl rfl ?_
        refine r_iconst (1 : Int32) dL_law_625 (by decide) ?_
        refine r_iadd dL_law_626 ?_
        refine r_scX hf dL_law_627 (fun v147 ev147 hf => ?_)
        refine r_chk hf (fun a148 xa148 ta148 hf => ?_)
        refine bnd hf (fun v149 ev149 hf => ?_)
        refine r_callVr (ci := 11) xa148 dL_law_628 cs_RL_81 ww_957 ww_958 (by decide) ta148 (by decide) rfl (rest := []) rfl (Or.inl (Nat.le_of_ble_eq_true rfl)) (t_E_near ev149) ?_
        refine r_aload_n 2 dL_law_631 rfl rfl ?_
        refine r_aloadS_n 0 dL_law_632 rfl rfl ?_
        refine r_iload_n 3 dL_law_633 rfl rfl ?_
        refine r_iconst (1 : Int32) dL_law_634 (by decide) ?_
        refine r_iadd dL_law_635 ?_
        refine r_scX hf dL_law_636 (fun v150 ev150 hf => ?_)
        refine r_chk hf (fun a151 xa151 ta151 hf => ?_)
        refine bnd hf (fun u152 eu152 hf => ?_)
        refine bnd hf (fun v153 ev153 hf => ?_)
        refine r_callVr (ci := 12) xa151 dL_law_637 cs_RL_84 ww_1499 ww_1500 (by decide) ta151 (by decide) rfl (rest := [_]) rfl (Or.inl (Nat.le_of_ble_eq_true rfl)) (lw_ref (t_M_near (ckB_t eu152) ev153)) ?_
        refine r_icmp_eq 790 hf dL_law_640 (by decide) (fun c154 hf => ?_) (fun c154 hf => ?_)
        · refine r_sub (L' := [(0, _), (1, _), (2, _), (3, _)]) [0, 1, 2, 3] rfl ?_
          cases (Option.some.inj hf)
          exact kq9
        · cases hf
      refine sw_pos hf (fun c155 hf => ?_) (fun c155 hf => ?_)
      · refine r_tableIn 645 dL_law_43 (by rw [c155]; decide) (by rw [c155]; decide) (by rw [c155] <;> rfl) (by decide) ?_
        refine r_aload_n 1 dL_law_645 rfl rfl ?_
        refine r_aloadS_n 0 dL_law_646 rfl rfl ?_
        refine r_iload_n 3 dL_law_647 rfl rfl ?_
        refine r_iconst (1 : Int32) dL_law_648 (by decide) ?_
        refine r_iadd dL_law_649 ?_
        refine r_scX hf dL_law_650 (fun v156 ev156 hf => ?_)
        refine r_chk hf (fun a157 xa157 ta157 hf => ?_)
        refine bnd hf (fun v158 ev158 hf => ?_)
        refine r_callVr (ci := 11) xa157 dL_law_651 cs_RL_85 ww_990 ww_991 (by decide) ta157 (by decide) rfl (rest := []) rfl (Or.inl (Nat.le_of_ble_eq_true rfl)) (t_E_nearByte ev158) ?_
        refine r_aload_n 2 dL_law_654 rfl rfl ?_
        refine r_aloadS_n 0 dL_law_655 rfl rfl ?_
        refine r_iload_n 3 dL_law_656 rfl rfl ?_
        refine r_iconst (1 : Int32) dL_law_657 (by decide) ?_
        refine r_iadd dL_law_658 ?_
        refine r_scX hf dL_law_659 (fun v159 ev159 hf => ?_)
        refine r_chk hf (fun a160 xa160 ta160 hf => ?_)
        refine bnd hf (fun u161 eu161 hf => ?_)
        refine bnd hf (fun v162 ev162 hf => ?_)
        refine r_callVr (ci := 12) xa160 dL_law_660 cs_RL_88 ww_1527 ww_1528 (by decide) ta160 (by decide) rfl (rest := [_]) rfl (Or.inl (Nat.le_of_ble_eq_true rfl)) (lw_ref1 (t_M_nearByte (ckB_t eu161) ev162)) ?_
        refine r_icmp_eq 790 hf dL_law_663 (by decide) (fun c163 hf => ?_) (fun c163 hf => ?_)
        · refine r_sub (L' := [(0, _), (1, _), (2, _), (3, _)]) [0, 1, 2, 3] rfl ?_
          cases (Option.some.inj hf)
          exact kq9
        · cases hf
      refine sw_pos hf (fun c164 hf => ?_) (fun c164 hf => ?_)
      · refine r_tableIn 668 dL_law_43 (by rw [c164]; decide) (by rw [c164]; decide) (by rw [c164] <;> rfl) (by decide) ?_
        refine r_aload_n 1 dL_law_668 rfl rfl ?_
        refine r_aloadS_n 0 dL_law_669 rfl rfl ?_
        refine r_iload_n 3 dL_law_670 rfl rfl ?_
        refine r_iconst (1 : Int32) dL_law_671 (by decide) ?_
        refine r_iadd dL_law_672 ?_
        refine r_scX hf dL_law_673 (fun v165 ev165 hf => ?_)
        refine r_aloadS_n 0 dL_law_674 rfl rfl ?_
        refine r_iload_n 3 dL_law_675 rfl rfl ?_
        refine r_iconst (2 : Int32) dL_law_676 (by decide) ?_
        refine r_iadd dL_law_677 ?_
        refine r_scX hf dL_law_678 (fun v166 ev166 hf => ?_)
        refine r_chk hf (fun a167 xa167 ta167 hf => ?_)
        refine bnd hf (fun v168 ev168 hf => ?_)
        refine r_callVr (ci := 11) xa167 dL_law_679 cs_RL_89 ww_1001 ww_1002 (by decide) ta167 (by decide) rfl (rest := []) rfl (Or.inl (Nat.le_of_ble_eq_true rfl)) (t_E_segment ev168) ?_
        refine r_aload_n 2 dL_law_682 rfl rfl ?_
        refine r_aloadS_n 0 dL_law_683 rfl rfl ?_
        refine r_iload_n 3 dL_law_684 rfl rfl ?_
        refine r_iconst (1 : Int32) dL_law_685 (by decide) ?_
        refine r_iadd dL_law_686 ?_
        refine r_scX hf dL_law_687 (fun v169 ev169 hf => ?_)
        refine r_aloadS_n 0 dL_law_688 rfl rfl ?_
        refine r_iload_n 3 dL_law_689 rfl rfl ?_
        refine r_iconst (2 : Int32) dL_law_690 (by decide) ?_
        refine r_iadd dL_law_691 ?_
        refine r_scX hf dL_law_692 (fun v170 ev170 hf => ?_)
        refine r_chk hf (fun a171 xa171 ta171 hf => ?_)
        refine bnd hf (fun u172 eu172 hf => ?_)
        refine bnd hf (fun v173 ev173 hf => ?_)
        refine r_callVr (ci := 12) xa171 dL_law_693 cs_RL_92 ww_1531 ww_1532 (by decide) ta171 (by decide) rfl (rest := [_]) rfl (Or.inl (Nat.le_of_ble_eq_true rfl)) (lw_ref1 (t_M_segment (ckB_t eu172) ev173)) ?_
        refine r_icmp_eq 790 hf dL_law_696 (by decide) (fun c174 hf => ?_) (fun c174 hf => ?_)
        · refine r_sub (L' := [(0, _), (1, _), (2, _), (3, _)]) [0, 1, 2, 3] rfl ?_
          cases (Option.some.inj hf)
          exact kq9
        · cases hf
      refine sw_pos hf (fun c175 hf => ?_) (fun c175 hf => ?_)
      · refine r_tableIn 701 dL_law_43 (by rw [c175]; decide) (by rw [c175]; decide) (by rw [c175] <;> rfl) (by decide) ?_
        refine r_aload_n 1 dL_law_701 rfl rfl ?_
        refine r_aloadS_n 0 dL_law_702 rfl rfl ?_
        refine r_iload_n 3 dL_law_703 rfl rfl ?_
        refine r_iconst (1 : Int32) dL_law_704 (by decide) ?_
        refine r_iadd dL_law_705 ?_
        refine r_scX hf dL_law_706 (fun v176 ev176 hf => ?_)
        refine r_aloadS_n 0 dL_law_707 rfl rfl ?_
        refine r_iload_n 3 dL_law_708 rfl rfl ?_
        refine r_iconst (2 : Int32) dL_law_709 (by decide) ?_
        refine r_iadd dL_law_710 ?_
        refine r_scX hf dL_law_711 (fun v177 ev177 hf => ?_)
        refine r_chk hf (fun a178 xa178 ta178 hf => ?_)
        refine bnd hf (fun v179 ev179 hf => ?_)
        refine r_callVr (ci := 11) xa178 dL_law_712 cs_RL_93 ww_1010 ww_1011 (by decide) ta178 (by decide) rfl (rest := []) rfl (Or.inl (Nat.le_of_ble_eq_true rfl)) (t_E_view ev179) ?_
        refine r_aload_n 2 dL_law_715 rfl rfl ?_
        refine r_aloadS_n 0 dL_law_716 rfl rfl ?_
        refine r_iload_n 3 dL_law_717 rfl rfl ?_
        refine r_iconst (1 : Int32) dL_law_718 (by decide) ?_
        refine r_iadd dL_law_719 ?_
        refine r_scX hf dL_law_720 (fun v180 ev180 hf => ?_)
        refine r_aloadS_n 0 dL_law_721 rfl rfl ?_
        refine r_iload_n 3 dL_law_722 rfl rfl ?_
        refine r_iconst (2 : Int32) dL_law_723 (by decide) ?_
        refine r_iadd dL_law_724 ?_
        refine r_scX hf dL_law_725 (fun v181 ev181 hf => ?_)
        refine r_chk hf (fun a182 xa182 ta182 hf => ?_)
        refine bnd hf (fun u183 eu183 hf => ?_)
        refine bnd hf (fun v184 ev184 hf => ?_)
        refine r_callVr (ci := 12) xa182 dL_law_726 cs_RL_96 ww_1543 ww_1544 (by decide) ta182 (by decide) rfl (rest := [_]) rfl (Or.inl (Nat.le_of_ble_eq_true rfl)) (lw_ref1 (t_M_view (ckB_t eu183) ev184)) ?_
        refine r_icmp_eq 790 hf dL_law_729 (by decide) (fun c185 hf => ?_) (fun c185 hf => ?_)
        · refine r_sub (L' := [(0, _), (1, _), (2, _), (3, _)]) [0, 1, 2, 3] rfl ?_
          cases (Option.some.inj hf)
          exact kq9
        · cases hf
      refine sw_pos hf (fun c186 hf => ?_) (fun c186 hf => ?_)
      · refine r_tableIn 734 dL_law_43 (by rw [c186]; decide) (by rw [c186]; decide) (by rw [c186] <;> rfl) (by decide) ?_
        refine r_aload_n 1 dL_law_734 rfl rfl ?_
        refine r_aloadS_n 0 dL_law_735 rfl rfl ?_
        refine r_iload_n 3 dL_law_736 rfl rfl ?_
        refine r_iconst (1 : Int32) dL_law_737 (by decide) ?_
        refine r_iadd dL_law_738 ?_
        refine r_scX hf dL_law_739 (fun v187 ev187 hf => ?_)
        refine r_aloadS_n 0 dL_law_740 rfl rfl ?_
        refine r_iload_n 3 dL_law_741 rfl rfl ?_
        refine r_iconst (2 : Int32) dL_law_742 (by decide) ?_
        refine r_iadd dL_law_743 ?_
        refine r_scX hf dL_law_744 (fun v188 ev188 hf => ?_)
        refine r_chk hf (fun a189 xa189 ta189 hf => ?_)
        refine bnd hf (fun v190 ev190 hf => ?_)
        refine r_callVr (ci := 11) xa189 dL_law_745 cs_RL_97 ww_1014 ww_1015 (by decide) ta189 (by decide) rfl (rest := []) rfl (Or.inl (Nat.le_of_ble_eq_true rfl)) (t_E_frequency ev190) ?_
        refine r_aload_n 2 dL_law_748 rfl rfl ?_
        refine r_aloadS_n 0 dL_law_749 rfl rfl ?_
        refine r_iload_n 3 dL_law_750 rfl rfl ?_
        refine r_iconst (1 : Int32) dL_law_751 (by decide) ?_
        refine r_iadd dL_law_752 ?_
        refine r_scX hf dL_law_753 (fun v191 ev191 hf => ?_)
        refine r_aloadS_n 0 dL_law_754 rfl rfl ?_
        refine r_iload_n 3 dL_law_755 rfl rfl ?_
        refine r_iconst (2 : Int32) dL_law_756 (by decide) ?_
        refine r_iadd dL_law_757 ?_
        refine r_scX hf dL_law_758 (fun v192 ev192 hf => ?_)
        refine r_chk hf (fun a193 xa193 ta193 hf => ?_)
        refine bnd hf (fun u194 eu194 hf => ?_)
        refine bnd hf (fun v195 ev195 hf => ?_)
        refine r_callVr (ci := 12) xa193 dL_law_759 cs_RL_100 ww_1547 ww_1548 (by decide) ta193 (by decide) rfl (rest := [_]) rfl (Or.inl (Nat.le_of_ble_eq_true rfl)) (lw_ref (t_M_frequency (ckB_t eu194) ev195)) ?_
        refine r_icmp_eq 790 hf dL_law_762 (by decide) (fun c196 hf => ?_) (fun c196 hf => ?_)
        · refine r_sub (L' := [(0, _), (1, _), (2, _), (3, _)]) [0, 1, 2, 3] rfl ?_
          cases (Option.some.inj hf)
          exact kq9
        · cases hf
      refine sw_pos hf (fun c197 hf => ?_) (fun c197 hf => ?_)
      · refine r_tableIn 767 dL_law_43 (by rw [c197]; decide) (by rw [c197]; decide) (by rw [c197] <;> rfl) (by decide) ?_
        refine r_aload_n 1 dL_law_767 rfl rfl ?_
        refine r_aloadS_n 0 dL_law_768 rfl rfl ?_
        refine r_iload_n 3 dL_law_769 rfl rfl ?_
        refine r_iconst (1 : Int32) dL_law_770 (by decide) ?_
        refine r_iadd dL_law_771 ?_
        refine r_scX hf dL_law_772 (fun v198 ev198 hf => ?_)
        refine r_chk hf (fun a199 xa199 ta199 hf => ?_)
        refine bnd hf (fun v200 ev200 hf => ?_)
        refine r_callVr (ci := 11) xa199 dL_law_773 cs_RL_101 ww_1020 ww_1021 (by decide) ta199 (by decide) rfl (rest := []) rfl (Or.inl (Nat.le_of_ble_eq_true rfl)) (t_E_told ev200) ?_
        refine r_aload_n 2 dL_law_776 rfl rfl ?_
        refine r_aloadS_n 0 dL_law_777 rfl rfl ?_
        refine r_iload_n 3 dL_law_778 rfl rfl ?_
        refine r_iconst (1 : Int32) dL_law_779 (by decide) ?_
        refine r_iadd dL_law_780 ?_
        refine r_scX hf dL_law_781 (fun v201 ev201 hf => ?_)
        refine r_chk hf (fun a202 xa202 ta202 hf => ?_)
        refine bnd hf (fun u203 eu203 hf => ?_)
        refine bnd hf (fun v204 ev204 hf => ?_)
        refine r_callVr (ci := 12) xa202 dL_law_782 cs_RL_104 ww_1551 ww_1552 (by decide) ta202 (by decide) rfl (rest := [_]) rfl (Or.inl (Nat.le_of_ble_eq_true rfl)) (lw_ref1 (t_M_told (ckB_t eu203) ev204)) ?_
        refine r_icmp_eq 790 hf dL_law_785 (by decide) (fun c205 hf => ?_) (fun c205 hf => ?_)
        · refine r_sub (L' := [(0, _), (1, _), (2, _), (3, _)]) [0, 1, 2, 3] rfl ?_
          cases (Option.some.inj hf)
          exact kq9
        · cases hf
      refine r_tableOut 790 dL_law_43 (by have nc10 := sw_ne (n := 0) c10 rfl; have nc27 := sw_ne (n := 1) c27 rfl; have nc42 := sw_ne (n := 2) c42 rfl; have nc53 := sw_ne (n := 3) c53 rfl; have nc60 := sw_ne (n := 4) c60 rfl; have nc67 := sw_ne (n := 5) c67 rfl; have nc76 := sw_ne (n := 6) c76 rfl; have nc85 := sw_ne (n := 7) c85 rfl; have nc94 := sw_ne (n := 8) c94 rfl; have nc105 := sw_ne (n := 9) c105 rfl; have nc118 := sw_ne (n := 10) c118 rfl; have nc129 := sw_ne (n := 11) c129 rfl; have nc146 := sw_ne (n := 12) c146 rfl; have nc155 := sw_ne (n := 13) c155 rfl; have nc164 := sw_ne (n := 14) c164 rfl; have nc175 := sw_ne (n := 15) c175 rfl; have nc186 := sw_ne (n := 16) c186 rfl; have nc197 := sw_ne (n := 17) c197 rfl; omega) (by decide) ?_
      refine r_sub (L' := [(0, _), (1, _), (2, _), (3, _)]) [0, 1, 2, 3] rfl ?_
      cases (Option.some.inj hf)
      exact kq9
set_option maxRecDepth 100000 in
set_option maxHeartbeats 4000000 in
theorem t_LW_law {Γ : W0} {σ σ' : Mem} {r : RT} (hf : LW_law σ (wX Γ) = some σ') (hr : ∀ (τ : Mem) (L' : List (Nat × Value)), σ' = τ → V Γ MD_LW_law σ r τ 797 L' [.int (b2i true)]) : V Γ MD_LW_law σ r σ 0 [(0, .ref (wX Γ).1)] [] := by
  unfold LW_law at hf
  refine r_newX hf dL_law_0 (by decide) ww_109 ww_110 ww_91 (fun m1 em1 hf => ?_)
  refine r_dup dL_law_3 (cat_rf _) ?_
  refine r_aloadS_n 0 dL_law_4 rfl rfl ?_
  refine r_iconst (0 : Int32) dL_law_5 (by decide) ?_
  refine bnd hf (fun v2 ev2 hf => ?_)
  refine r_callSr dL_law_6 cs_RL_9 ww_1028 (by decide) rfl (rest := [_, _]) rfl (Or.inl (Nat.le_of_ble_eq_true rfl)) (t_LW_cell ev2) ?_
  refine bnd hf (fun v3 ev3 hf => ?_)
  refine r_callIv dL_law_9 cs_RL_15 rfl rfl ww_112 (by decide) rfl (rest := [_]) rfl (Or.inl (Nat.le_of_ble_eq_true rfl)) (t_E_init ev3) ?_
  refine r_astore_n (L' := [(1, _), (0, _)]) dL_law_12 rfl (show 1 < 4 by decide) rfl ?_
  refine r_newX hf dL_law_13 (by decide) ww_1030 ww_1031 ww_102 (fun m4 em4 hf => ?_)
  refine r_dup dL_law_16 (cat_rf _) ?_
  refine r_aloadS_n 1 dL_law_17 rfl rfl ?_
  refine r_iconst (0 : Int32) dL_law_18 (by decide) ?_
  refine bnd hf (fun v5 ev5 hf => ?_)
  refine r_callSr dL_law_19 cs_RL_9 ww_1028 (by decide) rfl (rest := [_, _]) rfl (Or.inl (Nat.le_of_ble_eq_true rfl)) (t_LW_cell ev5) ?_
  refine bnd hf (fun v6 ev6 hf => ?_)
  refine r_callIv dL_law_22 cs_RL_20 rfl rfl ww_1033 (by decide) rfl (rest := [_]) rfl (Or.inl (Nat.le_of_ble_eq_true rfl)) (t_M_init ev6) ?_
  refine r_astore_n (L' := [(2, _), (1, _), (0, _)]) dL_law_25 rfl (show 2 < 4 by decide) rfl ?_
  refine r_iconst (1 : Int32) dL_law_26 (by decide) ?_
  refine r_istore_n (L' := [(3, _), (2, _), (1, _), (0, _)]) dL_law_27 rfl (show 3 < 4 by decide) rfl ?_
  refine bnd hf (fun t206 et206 hf => ?_)
  refine r_sub (L' := [(0, _), (1, _), (2, _), (3, _)]) [3, 2, 1, 0] rfl ?_
  refine x_LW_law_l28 ?_ _ et206
  · intro z207 hz207
    subst hz207
    refine r_iconst (b2i true) dL_law_796 rfl ?_
    exact hr _ _ (Option.some.inj hf).symm

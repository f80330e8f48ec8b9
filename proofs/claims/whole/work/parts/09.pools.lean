/-! The pools' entries are what the tables say. -/
set_option maxRecDepth 100000 in
theorem mm_mt0 : mm_meth 0 := ⟨by decide, mm_m 63 rfl rfl, mm_m 43 rfl rfl, rfl, ⟨by decide, by decide⟩, by decide, fun _ => rfl⟩
set_option maxRecDepth 100000 in
theorem mm_mt1 : mm_meth 1 := ⟨by decide, mm_m 395 rfl rfl, mm_m 43 rfl rfl, rfl, ⟨by decide, by decide⟩, by decide, fun z => by cases z⟩
set_option maxRecDepth 100000 in
theorem mm_mt2 : mm_meth 2 := ⟨by decide, mm_m 493 rfl rfl, mm_m 43 rfl rfl, rfl, ⟨by decide, by decide⟩, by decide, fun z => by cases z⟩
set_option maxRecDepth 100000 in
theorem mm_mt3 : mm_meth 3 := ⟨by decide, mm_m 503 rfl rfl, mm_m 43 rfl rfl, rfl, ⟨by decide, by decide⟩, by decide, fun z => by cases z⟩
set_option maxRecDepth 100000 in
theorem mm_mt4 : mm_meth 4 := ⟨by decide, mm_m 543 rfl rfl, mm_m 43 rfl rfl, rfl, ⟨by decide, by decide⟩, by decide, fun z => by cases z⟩
set_option maxRecDepth 100000 in
theorem mm_mt5 : mm_meth 5 := ⟨by decide, mm_m 274 rfl rfl, mm_m 43 rfl rfl, rfl, ⟨by decide, by decide⟩, by decide, fun z => by cases z⟩
set_option maxRecDepth 100000 in
theorem mm_mt6 : mm_meth 6 := ⟨by decide, mm_m 560 rfl rfl, mm_m 43 rfl rfl, rfl, ⟨by decide, by decide⟩, by decide, fun z => by cases z⟩
set_option maxRecDepth 100000 in
theorem mm_mt7 : mm_meth 7 := ⟨by decide, mm_m 607 rfl rfl, mm_m 43 rfl rfl, rfl, ⟨by decide, by decide⟩, by decide, fun z => by cases z⟩
set_option maxRecDepth 100000 in
theorem mm_mt8 : mm_meth 8 := ⟨by decide, mm_m 618 rfl rfl, mm_m 43 rfl rfl, rfl, ⟨by decide, by decide⟩, by decide, fun z => by cases z⟩
set_option maxRecDepth 100000 in
theorem mm_mt9 : mm_meth 9 := ⟨by decide, mm_m 630 rfl rfl, mm_m 43 rfl rfl, rfl, ⟨by decide, by decide⟩, by decide, fun z => by cases z⟩
set_option maxRecDepth 100000 in
theorem mm_mt10 : mm_meth 10 := ⟨by decide, mm_m 638 rfl rfl, mm_m 43 rfl rfl, rfl, ⟨by decide, by decide⟩, by decide, fun z => by cases z⟩
set_option maxRecDepth 100000 in
theorem mm_mt11 : mm_meth 11 := ⟨by decide, mm_m 646 rfl rfl, mm_m 43 rfl rfl, rfl, ⟨by decide, by decide⟩, by decide, fun z => by cases z⟩
set_option maxRecDepth 100000 in
theorem mm_mt12 : mm_meth 12 := ⟨by decide, mm_m 669 rfl rfl, mm_m 43 rfl rfl, rfl, ⟨by decide, by decide⟩, by decide, fun z => by cases z⟩
set_option maxRecDepth 100000 in
theorem mm_mt13 : mm_meth 13 := ⟨by decide, mm_m 683 rfl rfl, mm_m 43 rfl rfl, rfl, ⟨by decide, by decide⟩, by decide, fun z => by cases z⟩
set_option maxRecDepth 100000 in
theorem mm_mt14 : mm_meth 14 := ⟨by decide, mm_m 696 rfl rfl, mm_m 43 rfl rfl, rfl, ⟨by decide, by decide⟩, by decide, fun z => by cases z⟩
set_option maxRecDepth 100000 in
theorem mm_mt15 : mm_meth 15 := ⟨by decide, mm_m 727 rfl rfl, mm_m 43 rfl rfl, rfl, ⟨by decide, by decide⟩, by decide, fun z => by cases z⟩
set_option maxRecDepth 100000 in
theorem mm_mt16 : mm_meth 16 := ⟨by decide, mm_m 752 rfl rfl, mm_m 43 rfl rfl, rfl, ⟨by decide, by decide⟩, by decide, fun z => by cases z⟩
set_option maxRecDepth 100000 in
theorem mm_mt17 : mm_meth 17 := ⟨by decide, mm_m 761 rfl rfl, mm_m 43 rfl rfl, rfl, ⟨by decide, by decide⟩, by decide, fun z => by cases z⟩
set_option maxRecDepth 100000 in
theorem mm_mt18 : mm_meth 18 := ⟨by decide, mm_m 310 rfl rfl, mm_m 43 rfl rfl, rfl, ⟨by decide, by decide⟩, by decide, fun z => by cases z⟩
set_option maxRecDepth 100000 in
theorem mm_mt19 : mm_meth 19 := ⟨by decide, mm_m 774 rfl rfl, mm_m 43 rfl rfl, rfl, ⟨by decide, by decide⟩, by decide, fun z => by cases z⟩
set_option maxRecDepth 100000 in
theorem mm_mt20 : mm_meth 20 := ⟨by decide, mm_m 794 rfl rfl, mm_m 43 rfl rfl, rfl, ⟨by decide, by decide⟩, by decide, fun z => by cases z⟩
set_option maxRecDepth 100000 in
theorem mm_mt21 : mm_meth 21 := ⟨by decide, mm_m 508 rfl rfl, mm_m 43 rfl rfl, rfl, ⟨by decide, by decide⟩, by decide, fun z => by cases z⟩
set_option maxRecDepth 100000 in
theorem mm_mt22 : mm_meth 22 := ⟨by decide, mm_m 512 rfl rfl, mm_m 43 rfl rfl, rfl, ⟨by decide, by decide⟩, by decide, fun z => by cases z⟩
set_option maxRecDepth 100000 in
theorem mm_mt23 : mm_meth 23 := ⟨by decide, mm_m 398 rfl rfl, mm_m 43 rfl rfl, rfl, ⟨by decide, by decide⟩, by decide, fun z => by cases z⟩
set_option maxRecDepth 100000 in
theorem mm_mt24 : mm_meth 24 := ⟨by decide, mm_m 115 rfl rfl, mm_m 46 rfl rfl, rfl, ⟨by decide, by decide⟩, by decide, fun _ => rfl⟩
set_option maxRecDepth 100000 in
theorem mm_mt25 : mm_meth 25 := ⟨by decide, mm_m 655 rfl rfl, mm_m 46 rfl rfl, rfl, ⟨by decide, by decide⟩, by decide, fun z => by cases z⟩
set_option maxRecDepth 100000 in
theorem mm_mt26 : mm_meth 26 := ⟨by decide, mm_m 659 rfl rfl, mm_m 46 rfl rfl, rfl, ⟨by decide, by decide⟩, by decide, fun z => by cases z⟩
set_option maxRecDepth 100000 in
theorem mm_mt27 : mm_meth 27 := ⟨by decide, mm_m 215 rfl rfl, mm_m 49 rfl rfl, rfl, ⟨by decide, by decide⟩, by decide, fun _ => rfl⟩
set_option maxRecDepth 100000 in
theorem mm_mt28 : mm_meth 28 := ⟨by decide, mm_m 482 rfl rfl, mm_m 49 rfl rfl, rfl, ⟨by decide, by decide⟩, by decide, fun z => by cases z⟩
set_option maxRecDepth 100000 in
theorem mm_mt29 : mm_meth 29 := ⟨by decide, mm_m 486 rfl rfl, mm_m 49 rfl rfl, rfl, ⟨by decide, by decide⟩, by decide, fun z => by cases z⟩
set_option maxRecDepth 100000 in
theorem mm_mt30 : mm_meth 30 := ⟨by decide, mm_m 767 rfl rfl, mm_m 49 rfl rfl, rfl, ⟨by decide, by decide⟩, by decide, fun z => by cases z⟩
set_option maxRecDepth 100000 in
theorem mm_mt31 : mm_meth 31 := ⟨by decide, mm_m 778 rfl rfl, mm_m 49 rfl rfl, rfl, ⟨by decide, by decide⟩, by decide, fun z => by cases z⟩
set_option maxRecDepth 100000 in
theorem mm_mt32 : mm_meth 32 := ⟨by decide, mm_m 783 rfl rfl, mm_m 49 rfl rfl, rfl, ⟨by decide, by decide⟩, by decide, fun z => by cases z⟩
set_option maxRecDepth 100000 in
theorem mm_mt33 : mm_meth 33 := ⟨by decide, mm_m 787 rfl rfl, mm_m 49 rfl rfl, rfl, ⟨by decide, by decide⟩, by decide, fun z => by cases z⟩
set_option maxRecDepth 100000 in
theorem mm_mt34 : mm_meth 34 := ⟨by decide, mm_m 798 rfl rfl, mm_m 49 rfl rfl, rfl, ⟨by decide, by decide⟩, by decide, fun z => by cases z⟩
set_option maxRecDepth 100000 in
theorem mm_mt35 : mm_meth 35 := ⟨by decide, mm_m 375 rfl rfl, mm_m 49 rfl rfl, rfl, ⟨by decide, by decide⟩, by decide, fun z => by cases z⟩
set_option maxRecDepth 100000 in
theorem mm_mt36 : mm_meth 36 := ⟨by decide, mm_m 379 rfl rfl, mm_m 49 rfl rfl, rfl, ⟨by decide, by decide⟩, by decide, fun z => by cases z⟩
set_option maxRecDepth 100000 in
theorem mm_mt37 : mm_meth 37 := ⟨by decide, mm_m 383 rfl rfl, mm_m 49 rfl rfl, rfl, ⟨by decide, by decide⟩, by decide, fun z => by cases z⟩
set_option maxRecDepth 100000 in
theorem mm_mt38 : mm_meth 38 := ⟨by decide, mm_m 387 rfl rfl, mm_m 49 rfl rfl, rfl, ⟨by decide, by decide⟩, by decide, fun z => by cases z⟩
set_option maxRecDepth 100000 in
theorem mm_mt39 : mm_meth 39 := ⟨by decide, mm_m 314 rfl rfl, mm_m 49 rfl rfl, rfl, ⟨by decide, by decide⟩, by decide, fun z => by cases z⟩
set_option maxRecDepth 100000 in
theorem mm_mt40 : mm_meth 40 := ⟨by decide, mm_m 328 rfl rfl, mm_m 49 rfl rfl, rfl, ⟨by decide, by decide⟩, by decide, fun z => by cases z⟩
set_option maxRecDepth 100000 in
theorem mm_mt41 : mm_meth 41 := ⟨by decide, mm_m 363 rfl rfl, mm_m 49 rfl rfl, rfl, ⟨by decide, by decide⟩, by decide, fun z => by cases z⟩
set_option maxRecDepth 100000 in
theorem mm_mt42 : mm_meth 42 := ⟨by decide, mm_m 367 rfl rfl, mm_m 49 rfl rfl, rfl, ⟨by decide, by decide⟩, by decide, fun z => by cases z⟩
set_option maxRecDepth 100000 in
theorem mm_mt43 : mm_meth 43 := ⟨by decide, mm_m 332 rfl rfl, mm_m 49 rfl rfl, rfl, ⟨by decide, by decide⟩, by decide, fun z => by cases z⟩
set_option maxRecDepth 100000 in
theorem mm_mt44 : mm_meth 44 := ⟨by decide, mm_m 355 rfl rfl, mm_m 49 rfl rfl, rfl, ⟨by decide, by decide⟩, by decide, fun z => by cases z⟩
set_option maxRecDepth 100000 in
theorem mm_mt45 : mm_meth 45 := ⟨by decide, mm_m 174 rfl rfl, mm_m 48 rfl rfl, rfl, ⟨by decide, by decide⟩, by decide, fun _ => rfl⟩
set_option maxRecDepth 100000 in
theorem mm_mt46 : mm_meth 46 := ⟨by decide, mm_m 318 rfl rfl, mm_m 48 rfl rfl, rfl, ⟨by decide, by decide⟩, by decide, fun z => by cases z⟩
set_option maxRecDepth 100000 in
theorem mm_mt47 : mm_meth 47 := ⟨by decide, mm_m 350 rfl rfl, mm_m 48 rfl rfl, rfl, ⟨by decide, by decide⟩, by decide, fun z => by cases z⟩
set_option maxRecDepth 100000 in
theorem mm_mt48 : mm_meth 48 := ⟨by decide, mm_m 359 rfl rfl, mm_m 48 rfl rfl, rfl, ⟨by decide, by decide⟩, by decide, fun z => by cases z⟩
set_option maxRecDepth 100000 in
theorem mm_mt49 : mm_meth 49 := ⟨by decide, mm_m 745 rfl rfl, mm_m 48 rfl rfl, rfl, ⟨by decide, by decide⟩, by decide, fun z => by cases z⟩
set_option maxRecDepth 100000 in
theorem mm_mt50 : mm_meth 50 := ⟨by decide, mm_m 371 rfl rfl, mm_m 48 rfl rfl, rfl, ⟨by decide, by decide⟩, by decide, fun z => by cases z⟩
set_option maxRecDepth 100000 in
theorem mm_mt51 : mm_meth 51 := ⟨by decide, mm_m 336 rfl rfl, mm_m 48 rfl rfl, rfl, ⟨by decide, by decide⟩, by decide, fun z => by cases z⟩
set_option maxRecDepth 100000 in
theorem mm_mt52 : mm_meth 52 := ⟨by decide, mm_m 340 rfl rfl, mm_m 48 rfl rfl, rfl, ⟨by decide, by decide⟩, by decide, fun z => by cases z⟩
set_option maxRecDepth 100000 in
theorem mm_mt53 : mm_meth 53 := ⟨by decide, mm_m 324 rfl rfl, mm_m 48 rfl rfl, rfl, ⟨by decide, by decide⟩, by decide, fun z => by cases z⟩
set_option maxRecDepth 100000 in
theorem mm_mt54 : mm_meth 54 := ⟨by decide, mm_m 71 rfl rfl, mm_m 44 rfl rfl, rfl, ⟨by decide, by decide⟩, by decide, fun _ => rfl⟩
set_option maxRecDepth 100000 in
theorem mm_mt55 : mm_meth 55 := ⟨by decide, mm_m 470 rfl rfl, mm_m 44 rfl rfl, rfl, ⟨by decide, by decide⟩, by decide, fun z => by cases z⟩
set_option maxRecDepth 100000 in
theorem mm_mt56 : mm_meth 56 := ⟨by decide, mm_m 474 rfl rfl, mm_m 44 rfl rfl, rfl, ⟨by decide, by decide⟩, by decide, fun z => by cases z⟩
set_option maxRecDepth 100000 in
theorem mm_mt57 : mm_meth 57 := ⟨by decide, mm_m 516 rfl rfl, mm_m 44 rfl rfl, rfl, ⟨by decide, by decide⟩, by decide, fun z => by cases z⟩
set_option maxRecDepth 100000 in
theorem mm_mt58 : mm_meth 58 := ⟨by decide, mm_m 536 rfl rfl, mm_m 44 rfl rfl, rfl, ⟨by decide, by decide⟩, by decide, fun z => by cases z⟩
set_option maxRecDepth 100000 in
theorem mm_mt59 : mm_meth 59 := ⟨by decide, mm_m 611 rfl rfl, mm_m 44 rfl rfl, rfl, ⟨by decide, by decide⟩, by decide, fun z => by cases z⟩
set_option maxRecDepth 100000 in
theorem mm_mt60 : mm_meth 60 := ⟨by decide, mm_m 623 rfl rfl, mm_m 44 rfl rfl, rfl, ⟨by decide, by decide⟩, by decide, fun z => by cases z⟩
set_option maxRecDepth 100000 in
theorem mm_mt61 : mm_meth 61 := ⟨by decide, mm_m 294 rfl rfl, mm_m 44 rfl rfl, rfl, ⟨by decide, by decide⟩, by decide, fun z => by cases z⟩
set_option maxRecDepth 100000 in
theorem mm_mt62 : mm_meth 62 := ⟨by decide, mm_m 290 rfl rfl, mm_m 44 rfl rfl, rfl, ⟨by decide, by decide⟩, by decide, fun z => by cases z⟩
set_option maxRecDepth 100000 in
theorem mm_mt63 : mm_meth 63 := ⟨by decide, mm_m 298 rfl rfl, mm_m 44 rfl rfl, rfl, ⟨by decide, by decide⟩, by decide, fun z => by cases z⟩
set_option maxRecDepth 100000 in
theorem mm_mt64 : mm_meth 64 := ⟨by decide, mm_m 564 rfl rfl, mm_m 44 rfl rfl, rfl, ⟨by decide, by decide⟩, by decide, fun z => by cases z⟩
set_option maxRecDepth 100000 in
theorem mm_mt65 : mm_meth 65 := ⟨by decide, mm_m 548 rfl rfl, mm_m 44 rfl rfl, rfl, ⟨by decide, by decide⟩, by decide, fun z => by cases z⟩
set_option maxRecDepth 100000 in
theorem mm_mt66 : mm_meth 66 := ⟨by decide, mm_m 552 rfl rfl, mm_m 44 rfl rfl, rfl, ⟨by decide, by decide⟩, by decide, fun z => by cases z⟩
set_option maxRecDepth 100000 in
theorem mm_mt67 : mm_meth 67 := ⟨by decide, mm_m 278 rfl rfl, mm_m 44 rfl rfl, rfl, ⟨by decide, by decide⟩, by decide, fun z => by cases z⟩
set_option maxRecDepth 100000 in
theorem mm_mt68 : mm_meth 68 := ⟨by decide, mm_m 282 rfl rfl, mm_m 44 rfl rfl, rfl, ⟨by decide, by decide⟩, by decide, fun z => by cases z⟩
set_option maxRecDepth 100000 in
theorem mm_mt69 : mm_meth 69 := ⟨by decide, mm_m 286 rfl rfl, mm_m 44 rfl rfl, rfl, ⟨by decide, by decide⟩, by decide, fun z => by cases z⟩
set_option maxRecDepth 100000 in
theorem mm_mt70 : mm_meth 70 := ⟨by decide, mm_m 306 rfl rfl, mm_m 44 rfl rfl, rfl, ⟨by decide, by decide⟩, by decide, fun z => by cases z⟩
set_option maxRecDepth 100000 in
theorem mm_mt71 : mm_meth 71 := ⟨by decide, mm_m 585 rfl rfl, mm_m 44 rfl rfl, rfl, ⟨by decide, by decide⟩, by decide, fun z => by cases z⟩
set_option maxRecDepth 100000 in
theorem mm_mt72 : mm_meth 72 := ⟨by decide, mm_m 651 rfl rfl, mm_m 44 rfl rfl, rfl, ⟨by decide, by decide⟩, by decide, fun z => by cases z⟩
set_option maxRecDepth 100000 in
theorem mm_mt73 : mm_meth 73 := ⟨by decide, mm_m 136 rfl rfl, mm_m 44 rfl rfl, rfl, ⟨by decide, by decide⟩, by decide, fun z => by cases z⟩
set_option maxRecDepth 100000 in
theorem mm_mt74 : mm_meth 74 := ⟨by decide, mm_m 166 rfl rfl, mm_m 47 rfl rfl, rfl, ⟨by decide, by decide⟩, by decide, fun _ => rfl⟩
set_option maxRecDepth 100000 in
theorem mm_mt75 : mm_meth 75 := ⟨by decide, mm_m 478 rfl rfl, mm_m 47 rfl rfl, rfl, ⟨by decide, by decide⟩, by decide, fun z => by cases z⟩
set_option maxRecDepth 100000 in
theorem mm_mt76 : mm_meth 76 := ⟨by decide, mm_m 676 rfl rfl, mm_m 47 rfl rfl, rfl, ⟨by decide, by decide⟩, by decide, fun z => by cases z⟩
set_option maxRecDepth 100000 in
theorem mm_mt77 : mm_meth 77 := ⟨by decide, mm_m 689 rfl rfl, mm_m 47 rfl rfl, rfl, ⟨by decide, by decide⟩, by decide, fun z => by cases z⟩
set_option maxRecDepth 100000 in
theorem mm_mt78 : mm_meth 78 := ⟨by decide, mm_m 700 rfl rfl, mm_m 47 rfl rfl, rfl, ⟨by decide, by decide⟩, by decide, fun z => by cases z⟩
set_option maxRecDepth 100000 in
theorem mm_mt79 : mm_meth 79 := ⟨by decide, mm_m 732 rfl rfl, mm_m 47 rfl rfl, rfl, ⟨by decide, by decide⟩, by decide, fun z => by cases z⟩
set_option maxRecDepth 100000 in
theorem mm_mt80 : mm_meth 80 := ⟨by decide, mm_m 737 rfl rfl, mm_m 47 rfl rfl, rfl, ⟨by decide, by decide⟩, by decide, fun z => by cases z⟩
set_option maxRecDepth 100000 in
theorem mm_mt81 : mm_meth 81 := ⟨by decide, mm_m 741 rfl rfl, mm_m 47 rfl rfl, rfl, ⟨by decide, by decide⟩, by decide, fun z => by cases z⟩
set_option maxRecDepth 100000 in
theorem mm_mt82 : mm_meth 82 := ⟨by decide, mm_m 705 rfl rfl, mm_m 47 rfl rfl, rfl, ⟨by decide, by decide⟩, by decide, fun z => by cases z⟩
set_option maxRecDepth 100000 in
theorem mm_mt83 : mm_meth 83 := ⟨by decide, mm_m 709 rfl rfl, mm_m 47 rfl rfl, rfl, ⟨by decide, by decide⟩, by decide, fun z => by cases z⟩
set_option maxRecDepth 100000 in
theorem mm_mt84 : mm_meth 84 := ⟨by decide, mm_m 714 rfl rfl, mm_m 47 rfl rfl, rfl, ⟨by decide, by decide⟩, by decide, fun z => by cases z⟩
set_option maxRecDepth 100000 in
theorem mm_mt85 : mm_meth 85 := ⟨by decide, mm_m 719 rfl rfl, mm_m 47 rfl rfl, rfl, ⟨by decide, by decide⟩, by decide, fun z => by cases z⟩
set_option maxRecDepth 100000 in
theorem mm_mt86 : mm_meth 86 := ⟨by decide, mm_m 79 rfl rfl, mm_m 45 rfl rfl, rfl, ⟨by decide, by decide⟩, by decide, fun _ => rfl⟩
set_option maxRecDepth 100000 in
theorem mm_mt87 : mm_meth 87 := ⟨by decide, mm_m 589 rfl rfl, mm_m 45 rfl rfl, rfl, ⟨by decide, by decide⟩, by decide, fun z => by cases z⟩
set_option maxRecDepth 100000 in
theorem mm_mt88 : mm_meth 88 := ⟨by decide, mm_m 593 rfl rfl, mm_m 45 rfl rfl, rfl, ⟨by decide, by decide⟩, by decide, fun z => by cases z⟩
set_option maxRecDepth 100000 in
theorem mm_mt89 : mm_meth 89 := ⟨by decide, mm_m 596 rfl rfl, mm_m 45 rfl rfl, rfl, ⟨by decide, by decide⟩, by decide, fun z => by cases z⟩
set_option maxRecDepth 100000 in
theorem mm_mt90 : mm_meth 90 := ⟨by decide, mm_m 803 rfl rfl, mm_m 50 rfl rfl, rfl, ⟨by decide, by decide⟩, by decide, fun _ => rfl⟩
set_option maxRecDepth 100000 in
theorem mm_mt91 : mm_meth 91 := ⟨by decide, mm_m 808 rfl rfl, mm_m 50 rfl rfl, rfl, ⟨by decide, by decide⟩, by decide, fun z => by cases z⟩
set_option maxRecDepth 100000 in
theorem mm_mt92 : mm_meth 92 := ⟨by decide, mm_m 939 rfl rfl, mm_m 50 rfl rfl, rfl, ⟨by decide, by decide⟩, by decide, fun z => by cases z⟩
set_option maxRecDepth 100000 in
theorem mm_mt93 : mm_meth 93 := ⟨by decide, mm_m 935 rfl rfl, mm_m 50 rfl rfl, rfl, ⟨by decide, by decide⟩, by decide, fun z => by cases z⟩
set_option maxRecDepth 100000 in
theorem mm_mt94 : mm_meth 94 := ⟨by decide, mm_m 907 rfl rfl, mm_m 50 rfl rfl, rfl, ⟨by decide, by decide⟩, by decide, fun z => by cases z⟩
set_option maxRecDepth 100000 in
theorem mm_mt95 : mm_meth 95 := ⟨by decide, mm_m 931 rfl rfl, mm_m 50 rfl rfl, rfl, ⟨by decide, by decide⟩, by decide, fun z => by cases z⟩
set_option maxRecDepth 100000 in
theorem mm_mt96 : mm_meth 96 := ⟨by decide, mm_m 943 rfl rfl, mm_m 50 rfl rfl, rfl, ⟨by decide, by decide⟩, by decide, fun z => by cases z⟩
set_option maxRecDepth 100000 in
theorem mm_mt97 : mm_meth 97 := ⟨by decide, mm_m 951 rfl rfl, mm_m 50 rfl rfl, rfl, ⟨by decide, by decide⟩, by decide, fun z => by cases z⟩
set_option maxRecDepth 100000 in
theorem mm_mt98 : mm_meth 98 := ⟨by decide, mm_m 956 rfl rfl, mm_m 50 rfl rfl, rfl, ⟨by decide, by decide⟩, by decide, fun z => by cases z⟩
set_option maxRecDepth 100000 in
theorem mm_mt99 : mm_meth 99 := ⟨by decide, mm_m 994 rfl rfl, mm_m 50 rfl rfl, rfl, ⟨by decide, by decide⟩, by decide, fun z => by cases z⟩
set_option maxRecDepth 100000 in
theorem mm_mt100 : mm_meth 100 := ⟨by decide, mm_m 1005 rfl rfl, mm_m 50 rfl rfl, rfl, ⟨by decide, by decide⟩, by decide, fun z => by cases z⟩
set_option maxRecDepth 100000 in
theorem mm_mt101 : mm_meth 101 := ⟨by decide, mm_m 998 rfl rfl, mm_m 50 rfl rfl, rfl, ⟨by decide, by decide⟩, by decide, fun z => by cases z⟩
set_option maxRecDepth 100000 in
theorem mm_mt102 : mm_meth 102 := ⟨by decide, mm_m 1002 rfl rfl, mm_m 50 rfl rfl, rfl, ⟨by decide, by decide⟩, by decide, fun z => by cases z⟩
set_option maxRecDepth 100000 in
theorem mm_mt103 : mm_meth 103 := ⟨by decide, mm_m 1044 rfl rfl, mm_m 50 rfl rfl, rfl, ⟨by decide, by decide⟩, by decide, fun z => by cases z⟩
set_option maxRecDepth 100000 in
theorem mm_mt104 : mm_meth 104 := ⟨by decide, mm_m 1040 rfl rfl, mm_m 50 rfl rfl, rfl, ⟨by decide, by decide⟩, by decide, fun z => by cases z⟩
set_option maxRecDepth 100000 in
theorem mm_mt105 : mm_meth 105 := ⟨by decide, mm_m 1048 rfl rfl, mm_m 50 rfl rfl, rfl, ⟨by decide, by decide⟩, by decide, fun z => by cases z⟩
set_option maxRecDepth 100000 in
theorem mm_mt106 : mm_meth 106 := ⟨by decide, mm_m 1052 rfl rfl, mm_m 50 rfl rfl, rfl, ⟨by decide, by decide⟩, by decide, fun z => by cases z⟩
set_option maxRecDepth 100000 in
theorem mm_mt107 : mm_meth 107 := ⟨by decide, mm_m 1029 rfl rfl, mm_m 50 rfl rfl, rfl, ⟨by decide, by decide⟩, by decide, fun z => by cases z⟩
set_option maxRecDepth 100000 in
theorem mm_mt108 : mm_meth 108 := ⟨by decide, mm_m 1032 rfl rfl, mm_m 50 rfl rfl, rfl, ⟨by decide, by decide⟩, by decide, fun z => by cases z⟩
set_option maxRecDepth 100000 in
theorem mm_mt109 : mm_meth 109 := ⟨by decide, mm_m 1025 rfl rfl, mm_m 50 rfl rfl, rfl, ⟨by decide, by decide⟩, by decide, fun z => by cases z⟩
set_option maxRecDepth 100000 in
theorem mm_mt110 : mm_meth 110 := ⟨by decide, mm_m 1036 rfl rfl, mm_m 50 rfl rfl, rfl, ⟨by decide, by decide⟩, by decide, fun z => by cases z⟩
set_option maxRecDepth 100000 in
theorem mm_mt111 : mm_meth 111 := ⟨by decide, mm_m 895 rfl rfl, mm_m 50 rfl rfl, rfl, ⟨by decide, by decide⟩, by decide, fun z => by cases z⟩
set_option maxRecDepth 100000 in
theorem mm_mt112 : mm_meth 112 := ⟨by decide, mm_m 915 rfl rfl, mm_m 50 rfl rfl, rfl, ⟨by decide, by decide⟩, by decide, fun z => by cases z⟩
set_option maxRecDepth 100000 in
theorem mm_mt113 : mm_meth 113 := ⟨by decide, mm_m 919 rfl rfl, mm_m 50 rfl rfl, rfl, ⟨by decide, by decide⟩, by decide, fun z => by cases z⟩
set_option maxRecDepth 100000 in
theorem mm_mt114 : mm_meth 114 := ⟨by decide, mm_m 899 rfl rfl, mm_m 50 rfl rfl, rfl, ⟨by decide, by decide⟩, by decide, fun z => by cases z⟩
set_option maxRecDepth 100000 in
theorem mm_mt115 : mm_meth 115 := ⟨by decide, mm_m 903 rfl rfl, mm_m 50 rfl rfl, rfl, ⟨by decide, by decide⟩, by decide, fun z => by cases z⟩
set_option maxRecDepth 100000 in
theorem mm_mt116 : mm_meth 116 := ⟨by decide, mm_m 911 rfl rfl, mm_m 50 rfl rfl, rfl, ⟨by decide, by decide⟩, by decide, fun z => by cases z⟩
set_option maxRecDepth 100000 in
theorem mm_mt117 : mm_meth 117 := ⟨by decide, mm_m 923 rfl rfl, mm_m 50 rfl rfl, rfl, ⟨by decide, by decide⟩, by decide, fun z => by cases z⟩
set_option maxRecDepth 100000 in
theorem mm_mt118 : mm_meth 118 := ⟨by decide, mm_m 927 rfl rfl, mm_m 50 rfl rfl, rfl, ⟨by decide, by decide⟩, by decide, fun z => by cases z⟩
set_option maxRecDepth 100000 in
theorem mm_mt119 : mm_meth 119 := ⟨by decide, mm_m 947 rfl rfl, mm_m 50 rfl rfl, rfl, ⟨by decide, by decide⟩, by decide, fun z => by cases z⟩
set_option maxRecDepth 100000 in
theorem mm_mt120 : mm_meth 120 := ⟨by decide, mm_m 960 rfl rfl, mm_m 50 rfl rfl, rfl, ⟨by decide, by decide⟩, by decide, fun z => by cases z⟩
set_option maxRecDepth 100000 in
theorem mm_mt121 : mm_meth 121 := ⟨by decide, mm_m 964 rfl rfl, mm_m 50 rfl rfl, rfl, ⟨by decide, by decide⟩, by decide, fun z => by cases z⟩
set_option maxRecDepth 100000 in
theorem mm_mt122 : mm_meth 122 := ⟨by decide, mm_m 968 rfl rfl, mm_m 50 rfl rfl, rfl, ⟨by decide, by decide⟩, by decide, fun z => by cases z⟩
set_option maxRecDepth 100000 in
theorem mm_mt123 : mm_meth 123 := ⟨by decide, mm_m 972 rfl rfl, mm_m 50 rfl rfl, rfl, ⟨by decide, by decide⟩, by decide, fun z => by cases z⟩
set_option maxRecDepth 100000 in
theorem mm_mt124 : mm_meth 124 := ⟨by decide, mm_m 976 rfl rfl, mm_m 50 rfl rfl, rfl, ⟨by decide, by decide⟩, by decide, fun z => by cases z⟩
set_option maxRecDepth 100000 in
theorem mm_mt125 : mm_meth 125 := ⟨by decide, mm_m 980 rfl rfl, mm_m 50 rfl rfl, rfl, ⟨by decide, by decide⟩, by decide, fun z => by cases z⟩
set_option maxRecDepth 100000 in
theorem mm_mt126 : mm_meth 126 := ⟨by decide, mm_m 985 rfl rfl, mm_m 50 rfl rfl, rfl, ⟨by decide, by decide⟩, by decide, fun z => by cases z⟩
set_option maxRecDepth 100000 in
theorem mm_mt127 : mm_meth 127 := ⟨by decide, mm_m 990 rfl rfl, mm_m 50 rfl rfl, rfl, ⟨by decide, by decide⟩, by decide, fun z => by cases z⟩
set_option maxRecDepth 100000 in
theorem mm_mt128 : mm_meth 128 := ⟨by decide, mm_m 1009 rfl rfl, mm_m 50 rfl rfl, rfl, ⟨by decide, by decide⟩, by decide, fun z => by cases z⟩
set_option maxRecDepth 100000 in
theorem mm_mt129 : mm_meth 129 := ⟨by decide, mm_m 1013 rfl rfl, mm_m 50 rfl rfl, rfl, ⟨by decide, by decide⟩, by decide, fun z => by cases z⟩
set_option maxRecDepth 100000 in
theorem mm_mt130 : mm_meth 130 := ⟨by decide, mm_m 1017 rfl rfl, mm_m 50 rfl rfl, rfl, ⟨by decide, by decide⟩, by decide, fun z => by cases z⟩
set_option maxRecDepth 100000 in
theorem mm_mt131 : mm_meth 131 := ⟨by decide, mm_m 1021 rfl rfl, mm_m 50 rfl rfl, rfl, ⟨by decide, by decide⟩, by decide, fun z => by cases z⟩
set_option maxRecDepth 100000 in
theorem mm_mt132 : mm_meth 132 := ⟨by decide, mm_m 1056 rfl rfl, mm_m 50 rfl rfl, rfl, ⟨by decide, by decide⟩, by decide, fun z => by cases z⟩
set_option maxRecDepth 100000 in
theorem mm_mt133 : mm_meth 133 := ⟨by decide, mm_m 1060 rfl rfl, mm_m 50 rfl rfl, rfl, ⟨by decide, by decide⟩, by decide, fun z => by cases z⟩
set_option maxRecDepth 100000 in
theorem mm_mt134 : mm_meth 134 := ⟨by decide, mm_m 390 rfl rfl, mm_m 42 rfl rfl, rfl, ⟨by decide, by decide⟩, by decide, fun z => by cases z⟩
set_option maxRecDepth 100000 in
theorem mm_mt135 : mm_meth 135 := ⟨by decide, mm_m 489 rfl rfl, mm_m 42 rfl rfl, rfl, ⟨by decide, by decide⟩, by decide, fun z => by cases z⟩
set_option maxRecDepth 100000 in
theorem mm_mt136 : mm_meth 136 := ⟨by decide, mm_m 498 rfl rfl, mm_m 42 rfl rfl, rfl, ⟨by decide, by decide⟩, by decide, fun z => by cases z⟩
set_option maxRecDepth 100000 in
theorem mm_mt137 : mm_meth 137 := ⟨by decide, mm_m 539 rfl rfl, mm_m 42 rfl rfl, rfl, ⟨by decide, by decide⟩, by decide, fun z => by cases z⟩
set_option maxRecDepth 100000 in
theorem mm_mt138 : mm_meth 138 := ⟨by decide, mm_m 555 rfl rfl, mm_m 42 rfl rfl, rfl, ⟨by decide, by decide⟩, by decide, fun z => by cases z⟩
set_option maxRecDepth 100000 in
theorem mm_mt139 : mm_meth 139 := ⟨by decide, mm_m 603 rfl rfl, mm_m 42 rfl rfl, rfl, ⟨by decide, by decide⟩, by decide, fun z => by cases z⟩
set_option maxRecDepth 100000 in
theorem mm_mt140 : mm_meth 140 := ⟨by decide, mm_m 614 rfl rfl, mm_m 42 rfl rfl, rfl, ⟨by decide, by decide⟩, by decide, fun z => by cases z⟩
set_option maxRecDepth 100000 in
theorem mm_mt141 : mm_meth 141 := ⟨by decide, mm_m 626 rfl rfl, mm_m 42 rfl rfl, rfl, ⟨by decide, by decide⟩, by decide, fun z => by cases z⟩
set_option maxRecDepth 100000 in
theorem mm_mt142 : mm_meth 142 := ⟨by decide, mm_m 634 rfl rfl, mm_m 42 rfl rfl, rfl, ⟨by decide, by decide⟩, by decide, fun z => by cases z⟩
set_option maxRecDepth 100000 in
theorem mm_mt143 : mm_meth 143 := ⟨by decide, mm_m 642 rfl rfl, mm_m 42 rfl rfl, rfl, ⟨by decide, by decide⟩, by decide, fun z => by cases z⟩
set_option maxRecDepth 100000 in
theorem mm_mt144 : mm_meth 144 := ⟨by decide, mm_m 665 rfl rfl, mm_m 42 rfl rfl, rfl, ⟨by decide, by decide⟩, by decide, fun z => by cases z⟩
set_option maxRecDepth 100000 in
theorem mm_mt145 : mm_meth 145 := ⟨by decide, mm_m 679 rfl rfl, mm_m 42 rfl rfl, rfl, ⟨by decide, by decide⟩, by decide, fun z => by cases z⟩
set_option maxRecDepth 100000 in
theorem mm_mt146 : mm_meth 146 := ⟨by decide, mm_m 692 rfl rfl, mm_m 42 rfl rfl, rfl, ⟨by decide, by decide⟩, by decide, fun z => by cases z⟩
set_option maxRecDepth 100000 in
theorem mm_mt147 : mm_meth 147 := ⟨by decide, mm_m 723 rfl rfl, mm_m 42 rfl rfl, rfl, ⟨by decide, by decide⟩, by decide, fun z => by cases z⟩
set_option maxRecDepth 100000 in
theorem mm_mt148 : mm_meth 148 := ⟨by decide, mm_m 748 rfl rfl, mm_m 42 rfl rfl, rfl, ⟨by decide, by decide⟩, by decide, fun z => by cases z⟩
set_option maxRecDepth 100000 in
theorem mm_mt149 : mm_meth 149 := ⟨by decide, mm_m 757 rfl rfl, mm_m 42 rfl rfl, rfl, ⟨by decide, by decide⟩, by decide, fun z => by cases z⟩
set_option maxRecDepth 100000 in
theorem mm_mt150 : mm_meth 150 := ⟨by decide, mm_m 770 rfl rfl, mm_m 42 rfl rfl, rfl, ⟨by decide, by decide⟩, by decide, fun z => by cases z⟩
set_option maxRecDepth 100000 in
theorem mm_mt151 : mm_meth 151 := ⟨by decide, mm_m 790 rfl rfl, mm_m 42 rfl rfl, rfl, ⟨by decide, by decide⟩, by decide, fun z => by cases z⟩
set_option maxRecDepth 100000 in
theorem mm_pk0_1 : mm_pok "FairDesk" 1 15 0 0 0 := ⟨mm_m 64 rfl rfl, mm_m 65 rfl rfl, mm_m 66 rfl rfl⟩
set_option maxRecDepth 100000 in
theorem mm_pk0_7 : mm_pok "FairDesk" 7 8 4 8 0 := ⟨"FairDesk$Goods", mm_T4, rfl, mm_m 67 rfl rfl, mm_m 68 rfl rfl, mm_m 44 rfl rfl⟩
set_option maxRecDepth 100000 in
theorem mm_pk0_9 : mm_pok "FairDesk" 9 4 54 0 0 := ⟨mm_mt54, rfl, mm_m 69 rfl rfl, mm_m 70 rfl rfl, ⟨rfl, rfl⟩, rfl⟩
set_option maxRecDepth 100000 in
theorem mm_pk0_10 : mm_pok "FairDesk" 10 1 0 0 0 := ⟨"FairDesk", mm_T0, 4, rfl, by decide, rfl, rfl, mm_m 258 rfl rfl, fun _ => rfl⟩
set_option maxRecDepth 100000 in
theorem mm_pk0_16 : mm_pok "FairDesk" 16 8 5 9 0 := ⟨"FairDesk$House", mm_T5, rfl, mm_m 162 rfl rfl, mm_m 163 rfl rfl, mm_m 47 rfl rfl⟩
set_option maxRecDepth 100000 in
theorem mm_pk0_18 : mm_pok "FairDesk" 18 4 74 0 0 := ⟨mm_mt74, rfl, mm_m 164 rfl rfl, mm_m 165 rfl rfl, ⟨rfl, rfl⟩, rfl⟩
set_option maxRecDepth 100000 in
theorem mm_pk0_19 : mm_pok "FairDesk" 19 1 0 1 0 := ⟨"FairDesk", mm_T0, 4, rfl, by decide, rfl, rfl, mm_m 259 rfl rfl, fun _ => rfl⟩
set_option maxRecDepth 100000 in
theorem mm_pk0_23 : mm_pok "FairDesk" 23 8 2 12 0 := ⟨"FairDesk$CakeTable", mm_T2, rfl, mm_m 211 rfl rfl, mm_m 212 rfl rfl, mm_m 49 rfl rfl⟩
set_option maxRecDepth 100000 in
theorem mm_pk0_25 : mm_pok "FairDesk" 25 4 27 0 0 := ⟨mm_mt27, rfl, mm_m 213 rfl rfl, mm_m 214 rfl rfl, ⟨rfl, rfl⟩, rfl⟩
set_option maxRecDepth 100000 in
theorem mm_pk0_26 : mm_pok "FairDesk" 26 1 0 2 0 := ⟨"FairDesk", mm_T0, 4, rfl, by decide, rfl, rfl, mm_m 260 rfl rfl, fun _ => rfl⟩
set_option maxRecDepth 100000 in
theorem mm_pk0_30 : mm_pok "FairDesk" 30 0 0 3 0 := ⟨"FairDesk", mm_T0, 4, rfl, by decide, rfl, rfl, mm_m 261 rfl rfl, fun z => by cases z⟩
set_option maxRecDepth 100000 in
theorem mm_pk0_34 : mm_pok "FairDesk" 34 3 23 3 0 := ⟨mm_mt23, mm_m 396 rfl rfl, mm_m 397 rfl rfl, rfl⟩
set_option maxRecDepth 100000 in
theorem mm_pk0_38 : mm_pok "FairDesk" 38 14 0 0 0 := ⟨"java/lang/IllegalArgumentException", rfl, mm_m 399 rfl rfl, mm_m 400 rfl rfl, mm_m 54 rfl rfl⟩
set_option maxRecDepth 100000 in
theorem mm_pk0_40 : mm_pok "FairDesk" 40 13 0 0 0 := ⟨"people are 1 to 6", by decide⟩
set_option maxRecDepth 100000 in
theorem mm_pk0_42 : mm_pok "FairDesk" 42 16 0 0 0 := ⟨"java/lang/IllegalArgumentException", rfl, mm_m 441 rfl rfl⟩
set_option maxRecDepth 100000 in
theorem mm_pk0_45 : mm_pok "FairDesk" 45 2 55 1 0 := ⟨mm_mt55, rfl, mm_m 467 rfl rfl, mm_m 468 rfl rfl, mm_m 469 rfl rfl, ⟨mm_T4, 8, rfl⟩, rfl⟩
set_option maxRecDepth 100000 in
theorem mm_pk0_49 : mm_pok "FairDesk" 49 2 75 1 0 := ⟨mm_mt75, rfl, mm_m 475 rfl rfl, mm_m 476 rfl rfl, mm_m 477 rfl rfl, ⟨mm_T5, 9, rfl⟩, rfl⟩
set_option maxRecDepth 100000 in
theorem mm_pk0_50 : mm_pok "FairDesk" 50 2 28 1 0 := ⟨mm_mt28, rfl, mm_m 479 rfl rfl, mm_m 480 rfl rfl, mm_m 481 rfl rfl, ⟨mm_T2, 12, rfl⟩, rfl⟩
set_option maxRecDepth 100000 in
theorem mm_pk0_51 : mm_pok "FairDesk" 51 13 0 0 0 := ⟨"items are 0 to 12", by decide⟩
set_option maxRecDepth 100000 in
theorem mm_pk0_53 : mm_pok "FairDesk" 53 2 56 1 0 := ⟨mm_mt56, rfl, mm_m 495 rfl rfl, mm_m 472 rfl rfl, mm_m 473 rfl rfl, ⟨mm_T4, 8, rfl⟩, rfl⟩
set_option maxRecDepth 100000 in
theorem mm_pk0_56 : mm_pok "FairDesk" 56 13 0 0 0 := ⟨"an item's value is 0 to 1000", by decide⟩
set_option maxRecDepth 100000 in
theorem mm_pk0_58 : mm_pok "FairDesk" 58 2 21 1 0 := ⟨mm_mt21, rfl, mm_m 505 rfl rfl, mm_m 507 rfl rfl, mm_m 14 rfl rfl, ⟨mm_T0, 4, rfl⟩, rfl⟩
set_option maxRecDepth 100000 in
theorem mm_pk0_62 : mm_pok "FairDesk" 62 2 22 1 0 := ⟨mm_mt22, rfl, mm_m 509 rfl rfl, mm_m 511 rfl rfl, mm_m 15 rfl rfl, ⟨mm_T0, 4, rfl⟩, rfl⟩
set_option maxRecDepth 100000 in
theorem mm_pk0_65 : mm_pok "FairDesk" 65 14 1 0 0 := ⟨"java/lang/IndexOutOfBoundsException", rfl, mm_m 517 rfl rfl, mm_m 518 rfl rfl, mm_m 55 rfl rfl⟩
set_option maxRecDepth 100000 in
theorem mm_pk0_67 : mm_pok "FairDesk" 67 13 0 0 0 := ⟨"no such person or item", by decide⟩
set_option maxRecDepth 100000 in
theorem mm_pk0_69 : mm_pok "FairDesk" 69 16 1 0 0 := ⟨"java/lang/IndexOutOfBoundsException", rfl, mm_m 527 rfl rfl⟩
set_option maxRecDepth 100000 in
theorem mm_pk0_70 : mm_pok "FairDesk" 70 2 58 3 0 := ⟨mm_mt58, rfl, mm_m 533 rfl rfl, mm_m 534 rfl rfl, mm_m 535 rfl rfl, ⟨mm_T4, 8, rfl⟩, rfl⟩
set_option maxRecDepth 100000 in
theorem mm_pk0_74 : mm_pok "FairDesk" 74 13 0 0 0 := ⟨"no such person", by decide⟩
set_option maxRecDepth 100000 in
theorem mm_pk0_76 : mm_pok "FairDesk" 76 2 65 1 0 := ⟨mm_mt65, rfl, mm_m 545 rfl rfl, mm_m 546 rfl rfl, mm_m 547 rfl rfl, ⟨mm_T4, 8, rfl⟩, rfl⟩
set_option maxRecDepth 100000 in
theorem mm_pk0_79 : mm_pok "FairDesk" 79 2 67 0 0 := ⟨mm_mt67, rfl, mm_m 275 rfl rfl, mm_m 276 rfl rfl, mm_m 277 rfl rfl, ⟨mm_T4, 8, rfl⟩, rfl⟩
set_option maxRecDepth 100000 in
theorem mm_pk0_83 : mm_pok "FairDesk" 83 2 64 0 0 := ⟨mm_mt64, rfl, mm_m 561 rfl rfl, mm_m 562 rfl rfl, mm_m 563 rfl rfl, ⟨mm_T4, 8, rfl⟩, rfl⟩
set_option maxRecDepth 100000 in
theorem mm_pk0_87 : mm_pok "FairDesk" 87 14 2 0 0 := ⟨"java/lang/IllegalStateException", rfl, mm_m 566 rfl rfl, mm_m 567 rfl rfl, mm_m 57 rfl rfl⟩
set_option maxRecDepth 100000 in
theorem mm_pk0_89 : mm_pok "FairDesk" 89 13 0 0 0 := ⟨"too many ways to give the items", by decide⟩
set_option maxRecDepth 100000 in
theorem mm_pk0_91 : mm_pok "FairDesk" 91 16 2 0 0 := ⟨"java/lang/IllegalStateException", rfl, mm_m 576 rfl rfl⟩
set_option maxRecDepth 100000 in
theorem mm_pk0_92 : mm_pok "FairDesk" 92 2 71 0 0 := ⟨mm_mt71, rfl, mm_m 582 rfl rfl, mm_m 583 rfl rfl, mm_m 584 rfl rfl, ⟨mm_T4, 8, rfl⟩, rfl⟩
set_option maxRecDepth 100000 in
theorem mm_pk0_96 : mm_pok "FairDesk" 96 2 59 2 0 := ⟨mm_mt59, rfl, mm_m 608 rfl rfl, mm_m 609 rfl rfl, mm_m 610 rfl rfl, ⟨mm_T4, 8, rfl⟩, rfl⟩
set_option maxRecDepth 100000 in
theorem mm_pk0_100 : mm_pok "FairDesk" 100 13 0 0 0 := ⟨"no such item", by decide⟩
set_option maxRecDepth 100000 in
theorem mm_pk0_102 : mm_pok "FairDesk" 102 2 60 1 0 := ⟨mm_mt60, rfl, mm_m 620 rfl rfl, mm_m 621 rfl rfl, mm_m 622 rfl rfl, ⟨mm_T4, 8, rfl⟩, rfl⟩
set_option maxRecDepth 100000 in
theorem mm_pk0_106 : mm_pok "FairDesk" 106 2 61 2 0 := ⟨mm_mt61, rfl, mm_m 631 rfl rfl, mm_m 292 rfl rfl, mm_m 293 rfl rfl, ⟨mm_T4, 8, rfl⟩, rfl⟩
set_option maxRecDepth 100000 in
theorem mm_pk0_109 : mm_pok "FairDesk" 109 2 62 3 0 := ⟨mm_mt62, rfl, mm_m 639 rfl rfl, mm_m 288 rfl rfl, mm_m 289 rfl rfl, ⟨mm_T4, 8, rfl⟩, rfl⟩
set_option maxRecDepth 100000 in
theorem mm_pk0_113 : mm_pok "FairDesk" 113 13 0 0 0 := ⟨"too many ways to put the items into bundles", by decide⟩
set_option maxRecDepth 100000 in
theorem mm_pk0_115 : mm_pok "FairDesk" 115 2 72 1 0 := ⟨mm_mt72, rfl, mm_m 648 rfl rfl, mm_m 649 rfl rfl, mm_m 650 rfl rfl, ⟨mm_T4, 8, rfl⟩, rfl⟩
set_option maxRecDepth 100000 in
theorem mm_pk0_118 : mm_pok "FairDesk" 118 11 0 0 100000 := mm_m 670 rfl rfl
set_option maxRecDepth 100000 in
theorem mm_pk0_119 : mm_pok "FairDesk" 119 13 0 0 0 := ⟨"a room's value is 0 to 100000", by decide⟩
set_option maxRecDepth 100000 in
theorem mm_pk0_121 : mm_pok "FairDesk" 121 13 0 0 0 := ⟨"no such person or room", by decide⟩
set_option maxRecDepth 100000 in
theorem mm_pk0_123 : mm_pok "FairDesk" 123 2 76 3 0 := ⟨mm_mt76, rfl, mm_m 673 rfl rfl, mm_m 674 rfl rfl, mm_m 675 rfl rfl, ⟨mm_T5, 9, rfl⟩, rfl⟩
set_option maxRecDepth 100000 in
theorem mm_pk0_124 : mm_pok "FairDesk" 124 11 0 0 600000 := mm_m 684 rfl rfl
set_option maxRecDepth 100000 in
theorem mm_pk0_125 : mm_pok "FairDesk" 125 13 0 0 0 := ⟨"a total rent is 0 to 600000", by decide⟩
set_option maxRecDepth 100000 in
theorem mm_pk0_127 : mm_pok "FairDesk" 127 2 77 1 0 := ⟨mm_mt77, rfl, mm_m 686 rfl rfl, mm_m 687 rfl rfl, mm_m 688 rfl rfl, ⟨mm_T5, 9, rfl⟩, rfl⟩
set_option maxRecDepth 100000 in
theorem mm_pk0_130 : mm_pok "FairDesk" 130 2 78 0 0 := ⟨mm_mt78, rfl, mm_m 697 rfl rfl, mm_m 698 rfl rfl, mm_m 699 rfl rfl, ⟨mm_T5, 9, rfl⟩, rfl⟩
set_option maxRecDepth 100000 in
theorem mm_pk0_133 : mm_pok "FairDesk" 133 13 0 0 0 := ⟨"to somebody the rooms' values are not the total", by decide⟩
set_option maxRecDepth 100000 in
theorem mm_pk0_135 : mm_pok "FairDesk" 135 2 82 0 0 := ⟨mm_mt82, rfl, mm_m 702 rfl rfl, mm_m 703 rfl rfl, mm_m 704 rfl rfl, ⟨mm_T5, 9, rfl⟩, rfl⟩
set_option maxRecDepth 100000 in
theorem mm_pk0_138 : mm_pok "FairDesk" 138 13 0 0 0 := ⟨"no such person or what", by decide⟩
set_option maxRecDepth 100000 in
theorem mm_pk0_140 : mm_pok "FairDesk" 140 2 79 0 0 := ⟨mm_mt79, rfl, mm_m 729 rfl rfl, mm_m 730 rfl rfl, mm_m 731 rfl rfl, ⟨mm_T5, 9, rfl⟩, rfl⟩
set_option maxRecDepth 100000 in
theorem mm_pk0_143 : mm_pok "FairDesk" 143 13 0 0 0 := ⟨"the rooms were not divided", by decide⟩
set_option maxRecDepth 100000 in
theorem mm_pk0_145 : mm_pok "FairDesk" 145 2 80 1 0 := ⟨mm_mt80, rfl, mm_m 734 rfl rfl, mm_m 735 rfl rfl, mm_m 736 rfl rfl, ⟨mm_T5, 9, rfl⟩, rfl⟩
set_option maxRecDepth 100000 in
theorem mm_pk0_148 : mm_pok "FairDesk" 148 2 81 1 0 := ⟨mm_mt81, rfl, mm_m 738 rfl rfl, mm_m 739 rfl rfl, mm_m 740 rfl rfl, ⟨mm_T5, 9, rfl⟩, rfl⟩
set_option maxRecDepth 100000 in
theorem mm_pk0_152 : mm_pok "FairDesk" 152 2 49 1 0 := ⟨mm_mt49, rfl, mm_m 742 rfl rfl, mm_m 743 rfl rfl, mm_m 744 rfl rfl, ⟨mm_T3, 2, rfl⟩, rfl⟩
set_option maxRecDepth 100000 in
theorem mm_pk0_158 : mm_pok "FairDesk" 158 13 0 0 0 := ⟨"a cake's length is 1 to 16", by decide⟩
set_option maxRecDepth 100000 in
theorem mm_pk0_160 : mm_pok "FairDesk" 160 2 29 1 0 := ⟨mm_mt29, rfl, mm_m 754 rfl rfl, mm_m 484 rfl rfl, mm_m 485 rfl rfl, ⟨mm_T2, 12, rfl⟩, rfl⟩
set_option maxRecDepth 100000 in
theorem mm_pk0_163 : mm_pok "FairDesk" 163 13 0 0 0 := ⟨"a density is 0 to 12", by decide⟩
set_option maxRecDepth 100000 in
theorem mm_pk0_165 : mm_pok "FairDesk" 165 13 0 0 0 := ⟨"no such person or part of the cake", by decide⟩
set_option maxRecDepth 100000 in
theorem mm_pk0_167 : mm_pok "FairDesk" 167 2 30 3 0 := ⟨mm_mt30, rfl, mm_m 764 rfl rfl, mm_m 765 rfl rfl, mm_m 766 rfl rfl, ⟨mm_T2, 12, rfl⟩, rfl⟩
set_option maxRecDepth 100000 in
theorem mm_pk0_170 : mm_pok "FairDesk" 170 2 39 0 0 := ⟨mm_mt39, rfl, mm_m 311 rfl rfl, mm_m 312 rfl rfl, mm_m 313 rfl rfl, ⟨mm_T2, 12, rfl⟩, rfl⟩
set_option maxRecDepth 100000 in
theorem mm_pk0_173 : mm_pok "FairDesk" 173 2 35 0 0 := ⟨mm_mt35, rfl, mm_m 372 rfl rfl, mm_m 373 rfl rfl, mm_m 374 rfl rfl, ⟨mm_T2, 12, rfl⟩, rfl⟩
set_option maxRecDepth 100000 in
theorem mm_pk0_176 : mm_pok "FairDesk" 176 2 31 0 0 := ⟨mm_mt31, rfl, mm_m 775 rfl rfl, mm_m 776 rfl rfl, mm_m 777 rfl rfl, ⟨mm_T2, 12, rfl⟩, rfl⟩
set_option maxRecDepth 100000 in
theorem mm_pk0_179 : mm_pok "FairDesk" 179 13 0 0 0 := ⟨"the cake is not cut", by decide⟩
set_option maxRecDepth 100000 in
theorem mm_pk0_181 : mm_pok "FairDesk" 181 2 32 1 0 := ⟨mm_mt32, rfl, mm_m 780 rfl rfl, mm_m 781 rfl rfl, mm_m 782 rfl rfl, ⟨mm_T2, 12, rfl⟩, rfl⟩
set_option maxRecDepth 100000 in
theorem mm_pk0_184 : mm_pok "FairDesk" 184 2 33 1 0 := ⟨mm_mt33, rfl, mm_m 784 rfl rfl, mm_m 785 rfl rfl, mm_m 786 rfl rfl, ⟨mm_T2, 12, rfl⟩, rfl⟩
set_option maxRecDepth 100000 in
theorem mm_pk0_187 : mm_pok "FairDesk" 187 2 34 2 0 := ⟨mm_mt34, rfl, mm_m 795 rfl rfl, mm_m 796 rfl rfl, mm_m 797 rfl rfl, ⟨mm_T2, 12, rfl⟩, rfl⟩
set_option maxRecDepth 100000 in
theorem mm_pk0_191 : mm_pok "FairDesk" 191 2 57 0 0 := ⟨mm_mt57, rfl, mm_m 513 rfl rfl, mm_m 514 rfl rfl, mm_m 515 rfl rfl, ⟨mm_T4, 8, rfl⟩, rfl⟩
set_option maxRecDepth 100000 in
theorem mm_pp0 : ∀ q ∈ mm_p0, mm_pok "FairDesk" q.1 q.2.1 q.2.2.1 q.2.2.2.1 q.2.2.2.2 := List.forall_mem_cons.mpr ⟨mm_pk0_1, List.forall_mem_cons.mpr ⟨mm_pk0_7, List.forall_mem_cons.mpr ⟨mm_pk0_9, List.forall_mem_cons.mpr ⟨mm_pk0_10, List.forall_mem_cons.mpr ⟨mm_pk0_16, List.forall_mem_cons.mpr ⟨mm_pk0_18, List.forall_mem_cons.mpr ⟨mm_pk0_19, List.forall_mem_cons.mpr ⟨mm_pk0_23, List.forall_mem_cons.mpr ⟨mm_pk0_25, List.forall_mem_cons.mpr ⟨mm_pk0_26, List.forall_mem_cons.mpr ⟨mm_pk0_30, List.forall_mem_cons.mpr ⟨mm_pk0_34, List.forall_mem_cons.mpr ⟨mm_pk0_38, List.forall_mem_cons.mpr ⟨mm_pk0_40, List.forall_mem_cons.mpr ⟨mm_pk0_42, List.forall_mem_cons.mpr ⟨mm_pk0_45, List.forall_mem_cons.mpr ⟨mm_pk0_49, List.forall_mem_cons.mpr ⟨mm_pk0_50, List.forall_mem_cons.mpr ⟨mm_pk0_51, List.forall_mem_cons.mpr ⟨mm_pk0_53, List.forall_mem_cons.mpr ⟨mm_pk0_56, List.forall_mem_cons.mpr ⟨mm_pk0_58, List.forall_mem_cons.mpr ⟨mm_pk0_62, List.forall_mem_cons.mpr ⟨mm_pk0_65, List.forall_mem_cons.mpr ⟨mm_pk0_67, List.forall_mem_cons.mpr ⟨mm_pk0_69, List.forall_mem_cons.mpr ⟨mm_pk0_70, List.forall_mem_cons.mpr ⟨mm_pk0_74, List.forall_mem_cons.mpr ⟨mm_pk0_76, List.forall_mem_cons.mpr ⟨mm_pk0_79, List.forall_mem_cons.mpr ⟨mm_pk0_83, List.forall_mem_cons.mpr ⟨mm_pk0_87, List.forall_mem_cons.mpr ⟨mm_pk0_89, List.forall_mem_cons.mpr ⟨mm_pk0_91, List.forall_mem_cons.mpr ⟨mm_pk0_92, List.forall_mem_cons.mpr ⟨mm_pk0_96, List.forall_mem_cons.mpr ⟨mm_pk0_100, List.forall_mem_cons.mpr ⟨mm_pk0_102, List.forall_mem_cons.mpr ⟨mm_pk0_106, List.forall_mem_cons.mpr ⟨mm_pk0_109, List.forall_mem_cons.mpr ⟨mm_pk0_113, List.forall_mem_cons.mpr ⟨mm_pk0_115, List.forall_mem_cons.mpr ⟨mm_pk0_118, List.forall_mem_cons.mpr ⟨mm_pk0_119, List.forall_mem_cons.mpr ⟨mm_pk0_121, List.forall_mem_cons.mpr ⟨mm_pk0_123, List.forall_mem_cons.mpr ⟨mm_pk0_124, List.forall_mem_cons.mpr ⟨mm_pk0_125, List.forall_mem_cons.mpr ⟨mm_pk0_127, List.forall_mem_cons.mpr ⟨mm_pk0_130, List.forall_mem_cons.mpr ⟨mm_pk0_133, List.forall_mem_cons.mpr ⟨mm_pk0_135, List.forall_mem_cons.mpr ⟨mm_pk0_138, List.forall_mem_cons.mpr ⟨mm_pk0_140, List.forall_mem_cons.mpr ⟨mm_pk0_143, List.forall_mem_cons.mpr ⟨mm_pk0_145, List.forall_mem_cons.mpr ⟨mm_pk0_148, List.forall_mem_cons.mpr ⟨mm_pk0_152, List.forall_mem_cons.mpr ⟨mm_pk0_158, List.forall_mem_cons.mpr ⟨mm_pk0_160, List.forall_mem_cons.mpr ⟨mm_pk0_163, List.forall_mem_cons.mpr ⟨mm_pk0_165, List.forall_mem_cons.mpr ⟨mm_pk0_167, List.forall_mem_cons.mpr ⟨mm_pk0_170, List.forall_mem_cons.mpr ⟨mm_pk0_173, List.forall_mem_cons.mpr ⟨mm_pk0_176, List.forall_mem_cons.mpr ⟨mm_pk0_179, List.forall_mem_cons.mpr ⟨mm_pk0_181, List.forall_mem_cons.mpr ⟨mm_pk0_184, List.forall_mem_cons.mpr ⟨mm_pk0_187, List.forall_mem_cons.mpr ⟨mm_pk0_191, fun _ h => absurd h List.not_mem_nil⟩⟩⟩⟩⟩⟩⟩⟩⟩⟩⟩⟩⟩⟩⟩⟩⟩⟩⟩⟩⟩⟩⟩⟩⟩⟩⟩⟩⟩⟩⟩⟩⟩⟩⟩⟩⟩⟩⟩⟩⟩⟩⟩⟩⟩⟩⟩⟩⟩⟩⟩⟩⟩⟩⟩⟩⟩⟩⟩⟩⟩⟩⟩⟩⟩⟩⟩⟩⟩⟩⟩
set_option maxRecDepth 100000 in
theorem mm_pk1_3 : mm_pok "FairDesk$BundleSearch" 3 15 0 0 0 := ⟨mm_m 116 rfl rfl, mm_m 65 rfl rfl, mm_m 66 rfl rfl⟩
set_option maxRecDepth 100000 in
theorem mm_pk1_9 : mm_pok "FairDesk$BundleSearch" 9 1 1 4 0 := ⟨"FairDesk$BundleSearch", mm_T1, 5, rfl, by decide, rfl, rfl, mm_m 121 rfl rfl, fun _ => rfl⟩
set_option maxRecDepth 100000 in
theorem mm_pk1_15 : mm_pok "FairDesk$BundleSearch" 15 0 1 0 0 := ⟨"FairDesk$BundleSearch", mm_T1, 5, rfl, by decide, rfl, rfl, mm_m 117 rfl rfl, fun z => by cases z⟩
set_option maxRecDepth 100000 in
theorem mm_pk1_19 : mm_pok "FairDesk$BundleSearch" 19 0 1 1 0 := ⟨"FairDesk$BundleSearch", mm_T1, 5, rfl, by decide, rfl, rfl, mm_m 118 rfl rfl, fun z => by cases z⟩
set_option maxRecDepth 100000 in
theorem mm_pk1_22 : mm_pok "FairDesk$BundleSearch" 22 0 1 2 0 := ⟨"FairDesk$BundleSearch", mm_T1, 5, rfl, by decide, rfl, rfl, mm_m 119 rfl rfl, fun z => by cases z⟩
set_option maxRecDepth 100000 in
theorem mm_pk1_25 : mm_pok "FairDesk$BundleSearch" 25 0 1 3 0 := ⟨"FairDesk$BundleSearch", mm_T1, 5, rfl, by decide, rfl, rfl, mm_m 120 rfl rfl, fun z => by cases z⟩
set_option maxRecDepth 100000 in
theorem mm_pk1_28 : mm_pok "FairDesk$BundleSearch" 28 2 26 3 0 := ⟨mm_mt26, rfl, mm_m 656 rfl rfl, mm_m 658 rfl rfl, mm_m 18 rfl rfl, ⟨mm_T1, 5, rfl⟩, rfl⟩
set_option maxRecDepth 100000 in
theorem mm_pk1_32 : mm_pok "FairDesk$BundleSearch" 32 7 1 0 0 := ⟨mm_m 660 rfl rfl, mm_m 661 rfl rfl, mm_m 56 rfl rfl, mm_m 662 rfl rfl⟩
set_option maxRecDepth 100000 in
theorem mm_pp1 : ∀ q ∈ mm_p1, mm_pok "FairDesk$BundleSearch" q.1 q.2.1 q.2.2.1 q.2.2.2.1 q.2.2.2.2 := List.forall_mem_cons.mpr ⟨mm_pk1_3, List.forall_mem_cons.mpr ⟨mm_pk1_9, List.forall_mem_cons.mpr ⟨mm_pk1_15, List.forall_mem_cons.mpr ⟨mm_pk1_19, List.forall_mem_cons.mpr ⟨mm_pk1_22, List.forall_mem_cons.mpr ⟨mm_pk1_25, List.forall_mem_cons.mpr ⟨mm_pk1_28, List.forall_mem_cons.mpr ⟨mm_pk1_32, fun _ h => absurd h List.not_mem_nil⟩⟩⟩⟩⟩⟩⟩⟩
set_option maxRecDepth 100000 in
theorem mm_pk2_3 : mm_pok "FairDesk$CakeTable" 3 15 0 0 0 := ⟨mm_m 216 rfl rfl, mm_m 65 rfl rfl, mm_m 66 rfl rfl⟩
set_option maxRecDepth 100000 in
theorem mm_pk2_9 : mm_pok "FairDesk$CakeTable" 9 0 2 0 0 := ⟨"FairDesk$CakeTable", mm_T2, 12, rfl, by decide, rfl, rfl, mm_m 220 rfl rfl, fun z => by cases z⟩
set_option maxRecDepth 100000 in
theorem mm_pk2_15 : mm_pok "FairDesk$CakeTable" 15 0 2 1 0 := ⟨"FairDesk$CakeTable", mm_T2, 12, rfl, by decide, rfl, rfl, mm_m 221 rfl rfl, fun z => by cases z⟩
set_option maxRecDepth 100000 in
theorem mm_pk2_18 : mm_pok "FairDesk$CakeTable" 18 0 2 2 0 := ⟨"FairDesk$CakeTable", mm_T2, 12, rfl, by decide, rfl, rfl, mm_m 222 rfl rfl, fun z => by cases z⟩
set_option maxRecDepth 100000 in
theorem mm_pk2_22 : mm_pok "FairDesk$CakeTable" 22 10 54 50 0 := ⟨rfl, rfl, mm_m 217 rfl rfl, mm_m 110 rfl rfl⟩
set_option maxRecDepth 100000 in
theorem mm_pk2_24 : mm_pok "FairDesk$CakeTable" 24 1 2 3 0 := ⟨"FairDesk$CakeTable", mm_T2, 12, rfl, by decide, rfl, rfl, mm_m 223 rfl rfl, fun _ => rfl⟩
set_option maxRecDepth 100000 in
theorem mm_pk2_27 : mm_pok "FairDesk$CakeTable" 27 8 3 2 0 := ⟨"FairDesk$Fraction", mm_T3, rfl, mm_m 218 rfl rfl, mm_m 171 rfl rfl, mm_m 48 rfl rfl⟩
set_option maxRecDepth 100000 in
theorem mm_pk2_29 : mm_pok "FairDesk$CakeTable" 29 1 2 4 0 := ⟨"FairDesk$CakeTable", mm_T2, 12, rfl, by decide, rfl, rfl, mm_m 224 rfl rfl, fun _ => rfl⟩
set_option maxRecDepth 100000 in
theorem mm_pk2_33 : mm_pok "FairDesk$CakeTable" 33 1 2 5 0 := ⟨"FairDesk$CakeTable", mm_T2, 12, rfl, by decide, rfl, rfl, mm_m 225 rfl rfl, fun _ => rfl⟩
set_option maxRecDepth 100000 in
theorem mm_pk2_36 : mm_pok "FairDesk$CakeTable" 36 1 2 6 0 := ⟨"FairDesk$CakeTable", mm_T2, 12, rfl, by decide, rfl, rfl, mm_m 226 rfl rfl, fun _ => rfl⟩
set_option maxRecDepth 100000 in
theorem mm_pk2_39 : mm_pok "FairDesk$CakeTable" 39 1 2 7 0 := ⟨"FairDesk$CakeTable", mm_T2, 12, rfl, by decide, rfl, rfl, mm_m 227 rfl rfl, fun _ => rfl⟩
set_option maxRecDepth 100000 in
theorem mm_pk2_43 : mm_pok "FairDesk$CakeTable" 43 1 2 8 0 := ⟨"FairDesk$CakeTable", mm_T2, 12, rfl, by decide, rfl, rfl, mm_m 228 rfl rfl, fun _ => rfl⟩
set_option maxRecDepth 100000 in
theorem mm_pk2_47 : mm_pok "FairDesk$CakeTable" 47 5 45 0 0 := ⟨mm_mt45, rfl, ⟨"FairDesk", by decide⟩, mm_m 173 rfl rfl, ⟨rfl, rfl⟩, rfl⟩
set_option maxRecDepth 100000 in
theorem mm_pk2_48 : mm_pok "FairDesk$CakeTable" 48 1 2 9 0 := ⟨"FairDesk$CakeTable", mm_T2, 12, rfl, by decide, rfl, rfl, mm_m 229 rfl rfl, fun _ => rfl⟩
set_option maxRecDepth 100000 in
theorem mm_pk2_52 : mm_pok "FairDesk$CakeTable" 52 1 2 10 0 := ⟨"FairDesk$CakeTable", mm_T2, 12, rfl, by decide, rfl, rfl, mm_m 230 rfl rfl, fun _ => rfl⟩
set_option maxRecDepth 100000 in
theorem mm_pk2_55 : mm_pok "FairDesk$CakeTable" 55 1 2 11 0 := ⟨"FairDesk$CakeTable", mm_T2, 12, rfl, by decide, rfl, rfl, mm_m 231 rfl rfl, fun _ => rfl⟩
set_option maxRecDepth 100000 in
theorem mm_pk2_58 : mm_pok "FairDesk$CakeTable" 58 2 29 1 0 := ⟨mm_mt29, rfl, mm_m 483 rfl rfl, mm_m 484 rfl rfl, mm_m 485 rfl rfl, ⟨mm_T2, 12, rfl⟩, rfl⟩
set_option maxRecDepth 100000 in
theorem mm_pk2_62 : mm_pok "FairDesk$CakeTable" 62 2 43 4 0 := ⟨mm_mt43, rfl, mm_m 329 rfl rfl, mm_m 331 rfl rfl, mm_m 6 rfl rfl, ⟨mm_T2, 12, rfl⟩, rfl⟩
set_option maxRecDepth 100000 in
theorem mm_pk2_66 : mm_pok "FairDesk$CakeTable" 66 2 46 2 0 := ⟨mm_mt46, rfl, mm_m 315 rfl rfl, mm_m 316 rfl rfl, mm_m 317 rfl rfl, ⟨mm_T3, 2, rfl⟩, rfl⟩
set_option maxRecDepth 100000 in
theorem mm_pk2_70 : mm_pok "FairDesk$CakeTable" 70 2 36 0 0 := ⟨mm_mt36, rfl, mm_m 376 rfl rfl, mm_m 378 rfl rfl, mm_m 10 rfl rfl, ⟨mm_T2, 12, rfl⟩, rfl⟩
set_option maxRecDepth 100000 in
theorem mm_pk2_73 : mm_pok "FairDesk$CakeTable" 73 2 37 0 0 := ⟨mm_mt37, rfl, mm_m 380 rfl rfl, mm_m 382 rfl rfl, mm_m 11 rfl rfl, ⟨mm_T2, 12, rfl⟩, rfl⟩
set_option maxRecDepth 100000 in
theorem mm_pk2_77 : mm_pok "FairDesk$CakeTable" 77 2 38 1 0 := ⟨mm_mt38, rfl, mm_m 384 rfl rfl, mm_m 386 rfl rfl, mm_m 12 rfl rfl, ⟨mm_T2, 12, rfl⟩, rfl⟩
set_option maxRecDepth 100000 in
theorem mm_pk2_80 : mm_pok "FairDesk$CakeTable" 80 2 44 2 0 := ⟨mm_mt44, rfl, mm_m 352 rfl rfl, mm_m 354 rfl rfl, mm_m 7 rfl rfl, ⟨mm_T2, 12, rfl⟩, rfl⟩
set_option maxRecDepth 100000 in
theorem mm_pk2_84 : mm_pok "FairDesk$CakeTable" 84 2 50 1 0 := ⟨mm_mt50, rfl, mm_m 368 rfl rfl, mm_m 369 rfl rfl, mm_m 370 rfl rfl, ⟨mm_T3, 2, rfl⟩, rfl⟩
set_option maxRecDepth 100000 in
theorem mm_pk2_88 : mm_pok "FairDesk$CakeTable" 88 2 48 1 0 := ⟨mm_mt48, rfl, mm_m 356 rfl rfl, mm_m 357 rfl rfl, mm_m 358 rfl rfl, ⟨mm_T3, 2, rfl⟩, rfl⟩
set_option maxRecDepth 100000 in
theorem mm_pk2_92 : mm_pok "FairDesk$CakeTable" 92 2 40 3 0 := ⟨mm_mt40, rfl, mm_m 325 rfl rfl, mm_m 327 rfl rfl, mm_m 5 rfl rfl, ⟨mm_T2, 12, rfl⟩, rfl⟩
set_option maxRecDepth 100000 in
theorem mm_pk2_96 : mm_pok "FairDesk$CakeTable" 96 2 47 2 0 := ⟨mm_mt47, rfl, mm_m 347 rfl rfl, mm_m 348 rfl rfl, mm_m 349 rfl rfl, ⟨mm_T3, 2, rfl⟩, rfl⟩
set_option maxRecDepth 100000 in
theorem mm_pk2_99 : mm_pok "FairDesk$CakeTable" 99 2 41 2 0 := ⟨mm_mt41, rfl, mm_m 360 rfl rfl, mm_m 362 rfl rfl, mm_m 8 rfl rfl, ⟨mm_T2, 12, rfl⟩, rfl⟩
set_option maxRecDepth 100000 in
theorem mm_pk2_103 : mm_pok "FairDesk$CakeTable" 103 2 42 2 0 := ⟨mm_mt42, rfl, mm_m 364 rfl rfl, mm_m 366 rfl rfl, mm_m 9 rfl rfl, ⟨mm_T2, 12, rfl⟩, rfl⟩
set_option maxRecDepth 100000 in
theorem mm_pk2_107 : mm_pok "FairDesk$CakeTable" 107 2 51 1 0 := ⟨mm_mt51, rfl, mm_m 333 rfl rfl, mm_m 334 rfl rfl, mm_m 335 rfl rfl, ⟨mm_T3, 2, rfl⟩, rfl⟩
set_option maxRecDepth 100000 in
theorem mm_pk2_111 : mm_pok "FairDesk$CakeTable" 111 2 52 1 0 := ⟨mm_mt52, rfl, mm_m 337 rfl rfl, mm_m 338 rfl rfl, mm_m 339 rfl rfl, ⟨mm_T3, 2, rfl⟩, rfl⟩
set_option maxRecDepth 100000 in
theorem mm_pk2_115 : mm_pok "FairDesk$CakeTable" 115 7 3 0 0 := ⟨mm_m 341 rfl rfl, mm_m 342 rfl rfl, mm_m 56 rfl rfl, mm_m 343 rfl rfl⟩
set_option maxRecDepth 100000 in
theorem mm_pk2_121 : mm_pok "FairDesk$CakeTable" 121 7 2 0 0 := ⟨mm_m 344 rfl rfl, mm_m 345 rfl rfl, mm_m 56 rfl rfl, mm_m 346 rfl rfl⟩
set_option maxRecDepth 100000 in
theorem mm_pk2_100027 : mm_pok "FairDesk$CakeTable" 100027 9 53 0 0 := ⟨3, "FairDesk$Fraction", 27, rfl, rfl, rfl, mm_m 218 rfl rfl, rfl⟩
set_option maxRecDepth 100000 in
theorem mm_pp2 : ∀ q ∈ mm_p2, mm_pok "FairDesk$CakeTable" q.1 q.2.1 q.2.2.1 q.2.2.2.1 q.2.2.2.2 := List.forall_mem_cons.mpr ⟨mm_pk2_3, List.forall_mem_cons.mpr ⟨mm_pk2_9, List.forall_mem_cons.mpr ⟨mm_pk2_15, List.forall_mem_cons.mpr ⟨mm_pk2_18, List.forall_mem_cons.mpr ⟨mm_pk2_22, List.forall_mem_cons.mpr ⟨mm_pk2_24, List.forall_mem_cons.mpr ⟨mm_pk2_27, List.forall_mem_cons.mpr ⟨mm_pk2_29, List.forall_mem_cons.mpr ⟨mm_pk2_33, List.forall_mem_cons.mpr ⟨mm_pk2_36, List.forall_mem_cons.mpr ⟨mm_pk2_39, List.forall_mem_cons.mpr ⟨mm_pk2_43, List.forall_mem_cons.mpr ⟨mm_pk2_47, List.forall_mem_cons.mpr ⟨mm_pk2_48, List.forall_mem_cons.mpr ⟨mm_pk2_52, List.forall_mem_cons.mpr ⟨mm_pk2_55, List.forall_mem_cons.mpr ⟨mm_pk2_58, List.forall_mem_cons.mpr ⟨mm_pk2_62, List.forall_mem_cons.mpr ⟨mm_pk2_66, List.forall_mem_cons.mpr ⟨mm_pk2_70, List.forall_mem_cons.mpr ⟨mm_pk2_73, List.forall_mem_cons.mpr ⟨mm_pk2_77, List.forall_mem_cons.mpr ⟨mm_pk2_80, List.forall_mem_cons.mpr ⟨mm_pk2_84, List.forall_mem_cons.mpr ⟨mm_pk2_88, List.forall_mem_cons.mpr ⟨mm_pk2_92, List.forall_mem_cons.mpr ⟨mm_pk2_96, List.forall_mem_cons.mpr ⟨mm_pk2_99, List.forall_mem_cons.mpr ⟨mm_pk2_103, List.forall_mem_cons.mpr ⟨mm_pk2_107, List.forall_mem_cons.mpr ⟨mm_pk2_111, List.forall_mem_cons.mpr ⟨mm_pk2_115, List.forall_mem_cons.mpr ⟨mm_pk2_121, List.forall_mem_cons.mpr ⟨mm_pk2_100027, fun _ h => absurd h List.not_mem_nil⟩⟩⟩⟩⟩⟩⟩⟩⟩⟩⟩⟩⟩⟩⟩⟩⟩⟩⟩⟩⟩⟩⟩⟩⟩⟩⟩⟩⟩⟩⟩⟩⟩⟩
set_option maxRecDepth 100000 in
theorem mm_pk3_1 : mm_pok "FairDesk$Fraction" 1 15 0 0 0 := ⟨mm_m 175 rfl rfl, mm_m 65 rfl rfl, mm_m 66 rfl rfl⟩
set_option maxRecDepth 100000 in
theorem mm_pk3_7 : mm_pok "FairDesk$Fraction" 7 0 3 0 0 := ⟨"FairDesk$Fraction", mm_T3, 2, rfl, by decide, rfl, rfl, mm_m 176 rfl rfl, fun z => by cases z⟩
set_option maxRecDepth 100000 in
theorem mm_pk3_13 : mm_pok "FairDesk$Fraction" 13 0 3 1 0 := ⟨"FairDesk$Fraction", mm_T3, 2, rfl, by decide, rfl, rfl, mm_m 177 rfl rfl, fun z => by cases z⟩
set_option maxRecDepth 100000 in
theorem mm_pk3_16 : mm_pok "FairDesk$Fraction" 16 7 4 0 0 := ⟨mm_m 319 rfl rfl, mm_m 320 rfl rfl, mm_m 56 rfl rfl, mm_m 321 rfl rfl⟩
set_option maxRecDepth 100000 in
theorem mm_pk3_22 : mm_pok "FairDesk$Fraction" 22 3 53 2 0 := ⟨mm_mt53, mm_m 322 rfl rfl, mm_m 323 rfl rfl, rfl⟩
set_option maxRecDepth 100000 in
theorem mm_pk3_26 : mm_pok "FairDesk$Fraction" 26 2 46 2 0 := ⟨mm_mt46, rfl, mm_m 351 rfl rfl, mm_m 316 rfl rfl, mm_m 317 rfl rfl, ⟨mm_T3, 2, rfl⟩, rfl⟩
set_option maxRecDepth 100000 in
theorem mm_pp3 : ∀ q ∈ mm_p3, mm_pok "FairDesk$Fraction" q.1 q.2.1 q.2.2.1 q.2.2.2.1 q.2.2.2.2 := List.forall_mem_cons.mpr ⟨mm_pk3_1, List.forall_mem_cons.mpr ⟨mm_pk3_7, List.forall_mem_cons.mpr ⟨mm_pk3_13, List.forall_mem_cons.mpr ⟨mm_pk3_16, List.forall_mem_cons.mpr ⟨mm_pk3_22, List.forall_mem_cons.mpr ⟨mm_pk3_26, fun _ h => absurd h List.not_mem_nil⟩⟩⟩⟩⟩⟩
set_option maxRecDepth 100000 in
theorem mm_pk4_3 : mm_pok "FairDesk$Goods" 3 15 0 0 0 := ⟨mm_m 72 rfl rfl, mm_m 65 rfl rfl, mm_m 66 rfl rfl⟩
set_option maxRecDepth 100000 in
theorem mm_pk4_9 : mm_pok "FairDesk$Goods" 9 0 4 0 0 := ⟨"FairDesk$Goods", mm_T4, 8, rfl, by decide, rfl, rfl, mm_m 137 rfl rfl, fun z => by cases z⟩
set_option maxRecDepth 100000 in
theorem mm_pk4_15 : mm_pok "FairDesk$Goods" 15 0 4 1 0 := ⟨"FairDesk$Goods", mm_T4, 8, rfl, by decide, rfl, rfl, mm_m 138 rfl rfl, fun z => by cases z⟩
set_option maxRecDepth 100000 in
theorem mm_pk4_18 : mm_pok "FairDesk$Goods" 18 10 54 50 0 := ⟨rfl, rfl, mm_m 73 rfl rfl, mm_m 110 rfl rfl⟩
set_option maxRecDepth 100000 in
theorem mm_pk4_20 : mm_pok "FairDesk$Goods" 20 1 4 2 0 := ⟨"FairDesk$Goods", mm_T4, 8, rfl, by decide, rfl, rfl, mm_m 139 rfl rfl, fun _ => rfl⟩
set_option maxRecDepth 100000 in
theorem mm_pk4_23 : mm_pok "FairDesk$Goods" 23 1 4 3 0 := ⟨"FairDesk$Goods", mm_T4, 8, rfl, by decide, rfl, rfl, mm_m 140 rfl rfl, fun _ => rfl⟩
set_option maxRecDepth 100000 in
theorem mm_pk4_27 : mm_pok "FairDesk$Goods" 27 1 4 4 0 := ⟨"FairDesk$Goods", mm_T4, 8, rfl, by decide, rfl, rfl, mm_m 141 rfl rfl, fun _ => rfl⟩
set_option maxRecDepth 100000 in
theorem mm_pk4_30 : mm_pok "FairDesk$Goods" 30 1 4 5 0 := ⟨"FairDesk$Goods", mm_T4, 8, rfl, by decide, rfl, rfl, mm_m 142 rfl rfl, fun _ => rfl⟩
set_option maxRecDepth 100000 in
theorem mm_pk4_33 : mm_pok "FairDesk$Goods" 33 8 6 9 0 := ⟨"FairDesk$ProductSearch", mm_T6, rfl, mm_m 75 rfl rfl, mm_m 76 rfl rfl, mm_m 45 rfl rfl⟩
set_option maxRecDepth 100000 in
theorem mm_pk4_35 : mm_pok "FairDesk$Goods" 35 5 86 0 0 := ⟨mm_mt86, rfl, ⟨"FairDesk", by decide⟩, mm_m 78 rfl rfl, ⟨rfl, rfl⟩, rfl⟩
set_option maxRecDepth 100000 in
theorem mm_pk4_36 : mm_pok "FairDesk$Goods" 36 1 4 6 0 := ⟨"FairDesk$Goods", mm_T4, 8, rfl, by decide, rfl, rfl, mm_m 143 rfl rfl, fun _ => rfl⟩
set_option maxRecDepth 100000 in
theorem mm_pk4_40 : mm_pok "FairDesk$Goods" 40 8 1 5 0 := ⟨"FairDesk$BundleSearch", mm_T1, rfl, mm_m 111 rfl rfl, mm_m 112 rfl rfl, mm_m 46 rfl rfl⟩
set_option maxRecDepth 100000 in
theorem mm_pk4_42 : mm_pok "FairDesk$Goods" 42 5 24 0 0 := ⟨mm_mt24, rfl, ⟨"FairDesk", by decide⟩, mm_m 114 rfl rfl, ⟨rfl, rfl⟩, rfl⟩
set_option maxRecDepth 100000 in
theorem mm_pk4_43 : mm_pok "FairDesk$Goods" 43 1 4 7 0 := ⟨"FairDesk$Goods", mm_T4, 8, rfl, by decide, rfl, rfl, mm_m 144 rfl rfl, fun _ => rfl⟩
set_option maxRecDepth 100000 in
theorem mm_pk4_47 : mm_pok "FairDesk$Goods" 47 2 73 0 0 := ⟨mm_mt73, rfl, mm_m 133 rfl rfl, mm_m 135 rfl rfl, mm_m 0 rfl rfl, ⟨mm_T4, 8, rfl⟩, rfl⟩
set_option maxRecDepth 100000 in
theorem mm_pk4_50 : mm_pok "FairDesk$Goods" 50 2 56 1 0 := ⟨mm_mt56, rfl, mm_m 471 rfl rfl, mm_m 472 rfl rfl, mm_m 473 rfl rfl, ⟨mm_T4, 8, rfl⟩, rfl⟩
set_option maxRecDepth 100000 in
theorem mm_pk4_54 : mm_pok "FairDesk$Goods" 54 2 61 2 0 := ⟨mm_mt61, rfl, mm_m 291 rfl rfl, mm_m 292 rfl rfl, mm_m 293 rfl rfl, ⟨mm_T4, 8, rfl⟩, rfl⟩
set_option maxRecDepth 100000 in
theorem mm_pk4_58 : mm_pok "FairDesk$Goods" 58 2 63 2 0 := ⟨mm_mt63, rfl, mm_m 295 rfl rfl, mm_m 297 rfl rfl, mm_m 3 rfl rfl, ⟨mm_T4, 8, rfl⟩, rfl⟩
set_option maxRecDepth 100000 in
theorem mm_pk4_61 : mm_pok "FairDesk$Goods" 61 7 0 0 0 := ⟨mm_m 299 rfl rfl, mm_m 300 rfl rfl, mm_m 56 rfl rfl, mm_m 301 rfl rfl⟩
set_option maxRecDepth 100000 in
theorem mm_pk4_66 : mm_pok "FairDesk$Goods" 66 11 0 0 65536 := mm_m 565 rfl rfl
set_option maxRecDepth 100000 in
theorem mm_pk4_67 : mm_pok "FairDesk$Goods" 67 2 66 1 0 := ⟨mm_mt66, rfl, mm_m 549 rfl rfl, mm_m 551 rfl rfl, mm_m 16 rfl rfl, ⟨mm_T4, 8, rfl⟩, rfl⟩
set_option maxRecDepth 100000 in
theorem mm_pk4_71 : mm_pok "FairDesk$Goods" 71 2 68 0 0 := ⟨mm_mt68, rfl, mm_m 279 rfl rfl, mm_m 281 rfl rfl, mm_m 1 rfl rfl, ⟨mm_T4, 8, rfl⟩, rfl⟩
set_option maxRecDepth 100000 in
theorem mm_pk4_75 : mm_pok "FairDesk$Goods" 75 11 0 0 100000 := mm_m 302 rfl rfl
set_option maxRecDepth 100000 in
theorem mm_pk4_76 : mm_pok "FairDesk$Goods" 76 2 70 0 0 := ⟨mm_mt70, rfl, mm_m 303 rfl rfl, mm_m 305 rfl rfl, mm_m 4 rfl rfl, ⟨mm_T4, 8, rfl⟩, rfl⟩
set_option maxRecDepth 100000 in
theorem mm_pk4_79 : mm_pok "FairDesk$Goods" 79 2 69 1 0 := ⟨mm_mt69, rfl, mm_m 283 rfl rfl, mm_m 285 rfl rfl, mm_m 2 rfl rfl, ⟨mm_T4, 8, rfl⟩, rfl⟩
set_option maxRecDepth 100000 in
theorem mm_pk4_82 : mm_pok "FairDesk$Goods" 82 2 62 3 0 := ⟨mm_mt62, rfl, mm_m 287 rfl rfl, mm_m 288 rfl rfl, mm_m 289 rfl rfl, ⟨mm_T4, 8, rfl⟩, rfl⟩
set_option maxRecDepth 100000 in
theorem mm_pk4_86 : mm_pok "FairDesk$Goods" 86 2 87 4 0 := ⟨mm_mt87, rfl, mm_m 586 rfl rfl, mm_m 587 rfl rfl, mm_m 588 rfl rfl, ⟨mm_T6, 9, rfl⟩, rfl⟩
set_option maxRecDepth 100000 in
theorem mm_pk4_90 : mm_pok "FairDesk$Goods" 90 2 25 3 0 := ⟨mm_mt25, rfl, mm_m 652 rfl rfl, mm_m 653 rfl rfl, mm_m 654 rfl rfl, ⟨mm_T1, 5, rfl⟩, rfl⟩
set_option maxRecDepth 100000 in
theorem mm_pp4 : ∀ q ∈ mm_p4, mm_pok "FairDesk$Goods" q.1 q.2.1 q.2.2.1 q.2.2.2.1 q.2.2.2.2 := List.forall_mem_cons.mpr ⟨mm_pk4_3, List.forall_mem_cons.mpr ⟨mm_pk4_9, List.forall_mem_cons.mpr ⟨mm_pk4_15, List.forall_mem_cons.mpr ⟨mm_pk4_18, List.forall_mem_cons.mpr ⟨mm_pk4_20, List.forall_mem_cons.mpr ⟨mm_pk4_23, List.forall_mem_cons.mpr ⟨mm_pk4_27, List.forall_mem_cons.mpr ⟨mm_pk4_30, List.forall_mem_cons.mpr ⟨mm_pk4_33, List.forall_mem_cons.mpr ⟨mm_pk4_35, List.forall_mem_cons.mpr ⟨mm_pk4_36, List.forall_mem_cons.mpr ⟨mm_pk4_40, List.forall_mem_cons.mpr ⟨mm_pk4_42, List.forall_mem_cons.mpr ⟨mm_pk4_43, List.forall_mem_cons.mpr ⟨mm_pk4_47, List.forall_mem_cons.mpr ⟨mm_pk4_50, List.forall_mem_cons.mpr ⟨mm_pk4_54, List.forall_mem_cons.mpr ⟨mm_pk4_58, List.forall_mem_cons.mpr ⟨mm_pk4_61, List.forall_mem_cons.mpr ⟨mm_pk4_66, List.forall_mem_cons.mpr ⟨mm_pk4_67, List.forall_mem_cons.mpr ⟨mm_pk4_71, List.forall_mem_cons.mpr ⟨mm_pk4_75, List.forall_mem_cons.mpr ⟨mm_pk4_76, List.forall_mem_cons.mpr ⟨mm_pk4_79, List.forall_mem_cons.mpr ⟨mm_pk4_82, List.forall_mem_cons.mpr ⟨mm_pk4_86, List.forall_mem_cons.mpr ⟨mm_pk4_90, fun _ h => absurd h List.not_mem_nil⟩⟩⟩⟩⟩⟩⟩⟩⟩⟩⟩⟩⟩⟩⟩⟩⟩⟩⟩⟩⟩⟩⟩⟩⟩⟩⟩⟩
set_option maxRecDepth 100000 in
theorem mm_pk5_3 : mm_pok "FairDesk$House" 3 15 0 0 0 := ⟨mm_m 167 rfl rfl, mm_m 65 rfl rfl, mm_m 66 rfl rfl⟩
set_option maxRecDepth 100000 in
theorem mm_pk5_9 : mm_pok "FairDesk$House" 9 0 5 0 0 := ⟨"FairDesk$House", mm_T5, 9, rfl, by decide, rfl, rfl, mm_m 183 rfl rfl, fun z => by cases z⟩
set_option maxRecDepth 100000 in
theorem mm_pk5_15 : mm_pok "FairDesk$House" 15 0 5 1 0 := ⟨"FairDesk$House", mm_T5, 9, rfl, by decide, rfl, rfl, mm_m 184 rfl rfl, fun z => by cases z⟩
set_option maxRecDepth 100000 in
theorem mm_pk5_18 : mm_pok "FairDesk$House" 18 0 5 2 0 := ⟨"FairDesk$House", mm_T5, 9, rfl, by decide, rfl, rfl, mm_m 185 rfl rfl, fun z => by cases z⟩
set_option maxRecDepth 100000 in
theorem mm_pk5_22 : mm_pok "FairDesk$House" 22 10 54 50 0 := ⟨rfl, rfl, mm_m 168 rfl rfl, mm_m 110 rfl rfl⟩
set_option maxRecDepth 100000 in
theorem mm_pk5_24 : mm_pok "FairDesk$House" 24 1 5 4 0 := ⟨"FairDesk$House", mm_T5, 9, rfl, by decide, rfl, rfl, mm_m 187 rfl rfl, fun _ => rfl⟩
set_option maxRecDepth 100000 in
theorem mm_pk5_27 : mm_pok "FairDesk$House" 27 1 5 5 0 := ⟨"FairDesk$House", mm_T5, 9, rfl, by decide, rfl, rfl, mm_m 188 rfl rfl, fun _ => rfl⟩
set_option maxRecDepth 100000 in
theorem mm_pk5_31 : mm_pok "FairDesk$House" 31 1 5 6 0 := ⟨"FairDesk$House", mm_T5, 9, rfl, by decide, rfl, rfl, mm_m 189 rfl rfl, fun _ => rfl⟩
set_option maxRecDepth 100000 in
theorem mm_pk5_34 : mm_pok "FairDesk$House" 34 1 5 7 0 := ⟨"FairDesk$House", mm_T5, 9, rfl, by decide, rfl, rfl, mm_m 190 rfl rfl, fun _ => rfl⟩
set_option maxRecDepth 100000 in
theorem mm_pk5_37 : mm_pok "FairDesk$House" 37 8 3 2 0 := ⟨"FairDesk$Fraction", mm_T3, rfl, mm_m 169 rfl rfl, mm_m 171 rfl rfl, mm_m 48 rfl rfl⟩
set_option maxRecDepth 100000 in
theorem mm_pk5_39 : mm_pok "FairDesk$House" 39 1 5 8 0 := ⟨"FairDesk$House", mm_T5, 9, rfl, by decide, rfl, rfl, mm_m 191 rfl rfl, fun _ => rfl⟩
set_option maxRecDepth 100000 in
theorem mm_pk5_43 : mm_pok "FairDesk$House" 43 5 45 0 0 := ⟨mm_mt45, rfl, ⟨"FairDesk", by decide⟩, mm_m 173 rfl rfl, ⟨rfl, rfl⟩, rfl⟩
set_option maxRecDepth 100000 in
theorem mm_pk5_44 : mm_pok "FairDesk$House" 44 0 5 3 0 := ⟨"FairDesk$House", mm_T5, 9, rfl, by decide, rfl, rfl, mm_m 186 rfl rfl, fun z => by cases z⟩
set_option maxRecDepth 100000 in
theorem mm_pk5_47 : mm_pok "FairDesk$House" 47 2 83 3 0 := ⟨mm_mt83, rfl, mm_m 706 rfl rfl, mm_m 708 rfl rfl, mm_m 19 rfl rfl, ⟨mm_T5, 9, rfl⟩, rfl⟩
set_option maxRecDepth 100000 in
theorem mm_pk5_51 : mm_pok "FairDesk$House" 51 2 84 0 0 := ⟨mm_mt84, rfl, mm_m 711 rfl rfl, mm_m 713 rfl rfl, mm_m 20 rfl rfl, ⟨mm_T5, 9, rfl⟩, rfl⟩
set_option maxRecDepth 100000 in
theorem mm_pk5_54 : mm_pok "FairDesk$House" 54 2 85 0 0 := ⟨mm_mt85, rfl, mm_m 716 rfl rfl, mm_m 718 rfl rfl, mm_m 21 rfl rfl, ⟨mm_T5, 9, rfl⟩, rfl⟩
set_option maxRecDepth 100000 in
theorem mm_pk5_57 : mm_pok "FairDesk$House" 57 7 5 0 0 := ⟨mm_m 710 rfl rfl, mm_m 600 rfl rfl, mm_m 599 rfl rfl, mm_m 58 rfl rfl⟩
set_option maxRecDepth 100000 in
theorem mm_pk5_63 : mm_pok "FairDesk$House" 63 7 0 0 0 := ⟨mm_m 715 rfl rfl, mm_m 300 rfl rfl, mm_m 56 rfl rfl, mm_m 301 rfl rfl⟩
set_option maxRecDepth 100000 in
theorem mm_pk5_69 : mm_pok "FairDesk$House" 69 2 46 2 0 := ⟨mm_mt46, rfl, mm_m 720 rfl rfl, mm_m 316 rfl rfl, mm_m 317 rfl rfl, ⟨mm_T3, 2, rfl⟩, rfl⟩
set_option maxRecDepth 100000 in
theorem mm_pk5_100037 : mm_pok "FairDesk$House" 100037 9 53 0 0 := ⟨3, "FairDesk$Fraction", 37, rfl, rfl, rfl, mm_m 169 rfl rfl, rfl⟩
set_option maxRecDepth 100000 in
theorem mm_pp5 : ∀ q ∈ mm_p5, mm_pok "FairDesk$House" q.1 q.2.1 q.2.2.1 q.2.2.2.1 q.2.2.2.2 := List.forall_mem_cons.mpr ⟨mm_pk5_3, List.forall_mem_cons.mpr ⟨mm_pk5_9, List.forall_mem_cons.mpr ⟨mm_pk5_15, List.forall_mem_cons.mpr ⟨mm_pk5_18, List.forall_mem_cons.mpr ⟨mm_pk5_22, List.forall_mem_cons.mpr ⟨mm_pk5_24, List.forall_mem_cons.mpr ⟨mm_pk5_27, List.forall_mem_cons.mpr ⟨mm_pk5_31, List.forall_mem_cons.mpr ⟨mm_pk5_34, List.forall_mem_cons.mpr ⟨mm_pk5_37, List.forall_mem_cons.mpr ⟨mm_pk5_39, List.forall_mem_cons.mpr ⟨mm_pk5_43, List.forall_mem_cons.mpr ⟨mm_pk5_44, List.forall_mem_cons.mpr ⟨mm_pk5_47, List.forall_mem_cons.mpr ⟨mm_pk5_51, List.forall_mem_cons.mpr ⟨mm_pk5_54, List.forall_mem_cons.mpr ⟨mm_pk5_57, List.forall_mem_cons.mpr ⟨mm_pk5_63, List.forall_mem_cons.mpr ⟨mm_pk5_69, List.forall_mem_cons.mpr ⟨mm_pk5_100037, fun _ h => absurd h List.not_mem_nil⟩⟩⟩⟩⟩⟩⟩⟩⟩⟩⟩⟩⟩⟩⟩⟩⟩⟩⟩⟩
set_option maxRecDepth 100000 in
theorem mm_pk6_3 : mm_pok "FairDesk$ProductSearch" 3 15 0 0 0 := ⟨mm_m 80 rfl rfl, mm_m 65 rfl rfl, mm_m 66 rfl rfl⟩
set_option maxRecDepth 100000 in
theorem mm_pk6_9 : mm_pok "FairDesk$ProductSearch" 9 1 6 6 0 := ⟨"FairDesk$ProductSearch", mm_T6, 9, rfl, by decide, rfl, rfl, mm_m 88 rfl rfl, fun _ => rfl⟩
set_option maxRecDepth 100000 in
theorem mm_pk6_15 : mm_pok "FairDesk$ProductSearch" 15 1 6 7 0 := ⟨"FairDesk$ProductSearch", mm_T6, 9, rfl, by decide, rfl, rfl, mm_m 89 rfl rfl, fun _ => rfl⟩
set_option maxRecDepth 100000 in
theorem mm_pk6_18 : mm_pok "FairDesk$ProductSearch" 18 10 54 50 0 := ⟨rfl, rfl, mm_m 81 rfl rfl, mm_m 110 rfl rfl⟩
set_option maxRecDepth 100000 in
theorem mm_pk6_20 : mm_pok "FairDesk$ProductSearch" 20 1 6 8 0 := ⟨"FairDesk$ProductSearch", mm_T6, 9, rfl, by decide, rfl, rfl, mm_m 90 rfl rfl, fun _ => rfl⟩
set_option maxRecDepth 100000 in
theorem mm_pk6_23 : mm_pok "FairDesk$ProductSearch" 23 0 6 0 0 := ⟨"FairDesk$ProductSearch", mm_T6, 9, rfl, by decide, rfl, rfl, mm_m 82 rfl rfl, fun z => by cases z⟩
set_option maxRecDepth 100000 in
theorem mm_pk6_27 : mm_pok "FairDesk$ProductSearch" 27 0 6 1 0 := ⟨"FairDesk$ProductSearch", mm_T6, 9, rfl, by decide, rfl, rfl, mm_m 83 rfl rfl, fun z => by cases z⟩
set_option maxRecDepth 100000 in
theorem mm_pk6_30 : mm_pok "FairDesk$ProductSearch" 30 0 6 2 0 := ⟨"FairDesk$ProductSearch", mm_T6, 9, rfl, by decide, rfl, rfl, mm_m 84 rfl rfl, fun z => by cases z⟩
set_option maxRecDepth 100000 in
theorem mm_pk6_33 : mm_pok "FairDesk$ProductSearch" 33 0 6 3 0 := ⟨"FairDesk$ProductSearch", mm_T6, 9, rfl, by decide, rfl, rfl, mm_m 85 rfl rfl, fun z => by cases z⟩
set_option maxRecDepth 100000 in
theorem mm_pk6_36 : mm_pok "FairDesk$ProductSearch" 36 0 6 4 0 := ⟨"FairDesk$ProductSearch", mm_T6, 9, rfl, by decide, rfl, rfl, mm_m 86 rfl rfl, fun z => by cases z⟩
set_option maxRecDepth 100000 in
theorem mm_pk6_39 : mm_pok "FairDesk$ProductSearch" 39 0 6 5 0 := ⟨"FairDesk$ProductSearch", mm_T6, 9, rfl, by decide, rfl, rfl, mm_m 87 rfl rfl, fun z => by cases z⟩
set_option maxRecDepth 100000 in
theorem mm_pk6_43 : mm_pok "FairDesk$ProductSearch" 43 2 88 1 0 := ⟨mm_mt88, rfl, mm_m 590 rfl rfl, mm_m 592 rfl rfl, mm_m 17 rfl rfl, ⟨mm_T6, 9, rfl⟩, rfl⟩
set_option maxRecDepth 100000 in
theorem mm_pk6_47 : mm_pok "FairDesk$ProductSearch" 47 3 89 2 0 := ⟨mm_mt89, mm_m 594 rfl rfl, mm_m 595 rfl rfl, rfl⟩
set_option maxRecDepth 100000 in
theorem mm_pk6_51 : mm_pok "FairDesk$ProductSearch" 51 7 5 0 0 := ⟨mm_m 598 rfl rfl, mm_m 600 rfl rfl, mm_m 599 rfl rfl, mm_m 58 rfl rfl⟩
set_option maxRecDepth 100000 in
theorem mm_pk6_57 : mm_pok "FairDesk$ProductSearch" 57 12 0 0 1000000000000000000 := mm_m 597 rfl rfl
set_option maxRecDepth 100000 in
theorem mm_pp6 : ∀ q ∈ mm_p6, mm_pok "FairDesk$ProductSearch" q.1 q.2.1 q.2.2.1 q.2.2.2.1 q.2.2.2.2 := List.forall_mem_cons.mpr ⟨mm_pk6_3, List.forall_mem_cons.mpr ⟨mm_pk6_9, List.forall_mem_cons.mpr ⟨mm_pk6_15, List.forall_mem_cons.mpr ⟨mm_pk6_18, List.forall_mem_cons.mpr ⟨mm_pk6_20, List.forall_mem_cons.mpr ⟨mm_pk6_23, List.forall_mem_cons.mpr ⟨mm_pk6_27, List.forall_mem_cons.mpr ⟨mm_pk6_30, List.forall_mem_cons.mpr ⟨mm_pk6_33, List.forall_mem_cons.mpr ⟨mm_pk6_36, List.forall_mem_cons.mpr ⟨mm_pk6_39, List.forall_mem_cons.mpr ⟨mm_pk6_43, List.forall_mem_cons.mpr ⟨mm_pk6_47, List.forall_mem_cons.mpr ⟨mm_pk6_51, List.forall_mem_cons.mpr ⟨mm_pk6_57, fun _ h => absurd h List.not_mem_nil⟩⟩⟩⟩⟩⟩⟩⟩⟩⟩⟩⟩⟩⟩⟩
set_option maxRecDepth 100000 in
theorem mm_pk7_1 : mm_pok "FairDeskModel" 1 15 0 0 0 := ⟨mm_m 804 rfl rfl, mm_m 65 rfl rfl, mm_m 66 rfl rfl⟩
set_option maxRecDepth 100000 in
theorem mm_pk7_7 : mm_pok "FairDeskModel" 7 0 7 0 0 := ⟨"FairDeskModel", mm_T7, 27, rfl, by decide, rfl, rfl, mm_m 809 rfl rfl, fun z => by cases z⟩
set_option maxRecDepth 100000 in
theorem mm_pk7_13 : mm_pok "FairDeskModel" 13 0 7 1 0 := ⟨"FairDeskModel", mm_T7, 27, rfl, by decide, rfl, rfl, mm_m 810 rfl rfl, fun z => by cases z⟩
set_option maxRecDepth 100000 in
theorem mm_pk7_16 : mm_pok "FairDeskModel" 16 0 7 2 0 := ⟨"FairDeskModel", mm_T7, 27, rfl, by decide, rfl, rfl, mm_m 811 rfl rfl, fun z => by cases z⟩
set_option maxRecDepth 100000 in
theorem mm_pk7_19 : mm_pok "FairDeskModel" 19 1 7 3 0 := ⟨"FairDeskModel", mm_T7, 27, rfl, by decide, rfl, rfl, mm_m 812 rfl rfl, fun _ => rfl⟩
set_option maxRecDepth 100000 in
theorem mm_pk7_23 : mm_pok "FairDeskModel" 23 1 7 4 0 := ⟨"FairDeskModel", mm_T7, 27, rfl, by decide, rfl, rfl, mm_m 813 rfl rfl, fun _ => rfl⟩
set_option maxRecDepth 100000 in
theorem mm_pk7_26 : mm_pok "FairDeskModel" 26 1 7 5 0 := ⟨"FairDeskModel", mm_T7, 27, rfl, by decide, rfl, rfl, mm_m 814 rfl rfl, fun _ => rfl⟩
set_option maxRecDepth 100000 in
theorem mm_pk7_29 : mm_pok "FairDeskModel" 29 1 7 6 0 := ⟨"FairDeskModel", mm_T7, 27, rfl, by decide, rfl, rfl, mm_m 815 rfl rfl, fun _ => rfl⟩
set_option maxRecDepth 100000 in
theorem mm_pk7_32 : mm_pok "FairDeskModel" 32 1 7 7 0 := ⟨"FairDeskModel", mm_T7, 27, rfl, by decide, rfl, rfl, mm_m 816 rfl rfl, fun _ => rfl⟩
set_option maxRecDepth 100000 in
theorem mm_pk7_35 : mm_pok "FairDeskModel" 35 0 7 8 0 := ⟨"FairDeskModel", mm_T7, 27, rfl, by decide, rfl, rfl, mm_m 817 rfl rfl, fun z => by cases z⟩
set_option maxRecDepth 100000 in
theorem mm_pk7_38 : mm_pok "FairDeskModel" 38 0 7 9 0 := ⟨"FairDeskModel", mm_T7, 27, rfl, by decide, rfl, rfl, mm_m 818 rfl rfl, fun z => by cases z⟩
set_option maxRecDepth 100000 in
theorem mm_pk7_42 : mm_pok "FairDeskModel" 42 1 7 10 0 := ⟨"FairDeskModel", mm_T7, 27, rfl, by decide, rfl, rfl, mm_m 819 rfl rfl, fun _ => rfl⟩
set_option maxRecDepth 100000 in
theorem mm_pk7_45 : mm_pok "FairDeskModel" 45 1 7 11 0 := ⟨"FairDeskModel", mm_T7, 27, rfl, by decide, rfl, rfl, mm_m 820 rfl rfl, fun _ => rfl⟩
set_option maxRecDepth 100000 in
theorem mm_pk7_48 : mm_pok "FairDeskModel" 48 1 7 12 0 := ⟨"FairDeskModel", mm_T7, 27, rfl, by decide, rfl, rfl, mm_m 821 rfl rfl, fun _ => rfl⟩
set_option maxRecDepth 100000 in
theorem mm_pk7_51 : mm_pok "FairDeskModel" 51 1 7 13 0 := ⟨"FairDeskModel", mm_T7, 27, rfl, by decide, rfl, rfl, mm_m 822 rfl rfl, fun _ => rfl⟩
set_option maxRecDepth 100000 in
theorem mm_pk7_55 : mm_pok "FairDeskModel" 55 1 7 14 0 := ⟨"FairDeskModel", mm_T7, 27, rfl, by decide, rfl, rfl, mm_m 823 rfl rfl, fun _ => rfl⟩
set_option maxRecDepth 100000 in
theorem mm_pk7_58 : mm_pok "FairDeskModel" 58 0 7 15 0 := ⟨"FairDeskModel", mm_T7, 27, rfl, by decide, rfl, rfl, mm_m 824 rfl rfl, fun z => by cases z⟩
set_option maxRecDepth 100000 in
theorem mm_pk7_61 : mm_pok "FairDeskModel" 61 1 7 16 0 := ⟨"FairDeskModel", mm_T7, 27, rfl, by decide, rfl, rfl, mm_m 825 rfl rfl, fun _ => rfl⟩
set_option maxRecDepth 100000 in
theorem mm_pk7_64 : mm_pok "FairDeskModel" 64 0 7 17 0 := ⟨"FairDeskModel", mm_T7, 27, rfl, by decide, rfl, rfl, mm_m 826 rfl rfl, fun z => by cases z⟩
set_option maxRecDepth 100000 in
theorem mm_pk7_67 : mm_pok "FairDeskModel" 67 1 7 18 0 := ⟨"FairDeskModel", mm_T7, 27, rfl, by decide, rfl, rfl, mm_m 827 rfl rfl, fun _ => rfl⟩
set_option maxRecDepth 100000 in
theorem mm_pk7_70 : mm_pok "FairDeskModel" 70 1 7 19 0 := ⟨"FairDeskModel", mm_T7, 27, rfl, by decide, rfl, rfl, mm_m 828 rfl rfl, fun _ => rfl⟩
set_option maxRecDepth 100000 in
theorem mm_pk7_73 : mm_pok "FairDeskModel" 73 1 7 20 0 := ⟨"FairDeskModel", mm_T7, 27, rfl, by decide, rfl, rfl, mm_m 829 rfl rfl, fun _ => rfl⟩
set_option maxRecDepth 100000 in
theorem mm_pk7_76 : mm_pok "FairDeskModel" 76 1 7 21 0 := ⟨"FairDeskModel", mm_T7, 27, rfl, by decide, rfl, rfl, mm_m 830 rfl rfl, fun _ => rfl⟩
set_option maxRecDepth 100000 in
theorem mm_pk7_79 : mm_pok "FairDeskModel" 79 1 7 22 0 := ⟨"FairDeskModel", mm_T7, 27, rfl, by decide, rfl, rfl, mm_m 831 rfl rfl, fun _ => rfl⟩
set_option maxRecDepth 100000 in
theorem mm_pk7_82 : mm_pok "FairDeskModel" 82 1 7 23 0 := ⟨"FairDeskModel", mm_T7, 27, rfl, by decide, rfl, rfl, mm_m 832 rfl rfl, fun _ => rfl⟩
set_option maxRecDepth 100000 in
theorem mm_pk7_85 : mm_pok "FairDeskModel" 85 0 7 24 0 := ⟨"FairDeskModel", mm_T7, 27, rfl, by decide, rfl, rfl, mm_m 833 rfl rfl, fun z => by cases z⟩
set_option maxRecDepth 100000 in
theorem mm_pk7_89 : mm_pok "FairDeskModel" 89 0 7 25 0 := ⟨"FairDeskModel", mm_T7, 27, rfl, by decide, rfl, rfl, mm_m 834 rfl rfl, fun z => by cases z⟩
set_option maxRecDepth 100000 in
theorem mm_pk7_92 : mm_pok "FairDeskModel" 92 1 7 26 0 := ⟨"FairDeskModel", mm_T7, 27, rfl, by decide, rfl, rfl, mm_m 835 rfl rfl, fun _ => rfl⟩
set_option maxRecDepth 100000 in
theorem mm_pk7_95 : mm_pok "FairDeskModel" 95 2 91 1 0 := ⟨mm_mt91, rfl, mm_m 805 rfl rfl, mm_m 807 rfl rfl, mm_m 22 rfl rfl, ⟨mm_T7, 27, rfl⟩, rfl⟩
set_option maxRecDepth 100000 in
theorem mm_pk7_99 : mm_pok "FairDeskModel" 99 2 92 2 0 := ⟨mm_mt92, rfl, mm_m 936 rfl rfl, mm_m 938 rfl rfl, mm_m 28 rfl rfl, ⟨mm_T7, 27, rfl⟩, rfl⟩
set_option maxRecDepth 100000 in
theorem mm_pk7_103 : mm_pok "FairDeskModel" 103 2 93 2 0 := ⟨mm_mt93, rfl, mm_m 932 rfl rfl, mm_m 934 rfl rfl, mm_m 27 rfl rfl, ⟨mm_T7, 27, rfl⟩, rfl⟩
set_option maxRecDepth 100000 in
theorem mm_pk7_107 : mm_pok "FairDeskModel" 107 11 0 0 65536 := mm_m 952 rfl rfl
set_option maxRecDepth 100000 in
theorem mm_pk7_108 : mm_pok "FairDeskModel" 108 3 100 2 0 := ⟨mm_mt100, mm_m 1003 rfl rfl, mm_m 1004 rfl rfl, rfl⟩
set_option maxRecDepth 100000 in
theorem mm_pk7_112 : mm_pok "FairDeskModel" 112 2 102 2 0 := ⟨mm_mt102, rfl, mm_m 999 rfl rfl, mm_m 1001 rfl rfl, mm_m 34 rfl rfl, ⟨mm_T7, 27, rfl⟩, rfl⟩
set_option maxRecDepth 100000 in
theorem mm_pk7_116 : mm_pok "FairDeskModel" 116 2 103 2 0 := ⟨mm_mt103, rfl, mm_m 1041 rfl rfl, mm_m 1043 rfl rfl, mm_m 39 rfl rfl, ⟨mm_T7, 27, rfl⟩, rfl⟩
set_option maxRecDepth 100000 in
theorem mm_pk7_119 : mm_pok "FairDeskModel" 119 2 104 5 0 := ⟨mm_mt104, rfl, mm_m 1037 rfl rfl, mm_m 1039 rfl rfl, mm_m 38 rfl rfl, ⟨mm_T7, 27, rfl⟩, rfl⟩
set_option maxRecDepth 100000 in
theorem mm_pk7_123 : mm_pok "FairDeskModel" 123 2 105 5 0 := ⟨mm_mt105, rfl, mm_m 1045 rfl rfl, mm_m 1047 rfl rfl, mm_m 40 rfl rfl, ⟨mm_T7, 27, rfl⟩, rfl⟩
set_option maxRecDepth 100000 in
theorem mm_pk7_126 : mm_pok "FairDeskModel" 126 2 107 5 0 := ⟨mm_mt107, rfl, mm_m 1026 rfl rfl, mm_m 1028 rfl rfl, mm_m 36 rfl rfl, ⟨mm_T7, 27, rfl⟩, rfl⟩
set_option maxRecDepth 100000 in
theorem mm_pk7_129 : mm_pok "FairDeskModel" 129 3 108 1 0 := ⟨mm_mt108, mm_m 1030 rfl rfl, mm_m 1031 rfl rfl, rfl⟩
set_option maxRecDepth 100000 in
theorem mm_pk7_133 : mm_pok "FairDeskModel" 133 2 110 2 0 := ⟨mm_mt110, rfl, mm_m 1033 rfl rfl, mm_m 1035 rfl rfl, mm_m 37 rfl rfl, ⟨mm_T7, 27, rfl⟩, rfl⟩
set_option maxRecDepth 100000 in
theorem mm_pk7_136 : mm_pok "FairDeskModel" 136 2 94 0 0 := ⟨mm_mt94, rfl, mm_m 904 rfl rfl, mm_m 906 rfl rfl, mm_m 23 rfl rfl, ⟨mm_T7, 27, rfl⟩, rfl⟩
set_option maxRecDepth 100000 in
theorem mm_pk7_139 : mm_pok "FairDeskModel" 139 2 112 1 0 := ⟨mm_mt112, rfl, mm_m 912 rfl rfl, mm_m 914 rfl rfl, mm_m 24 rfl rfl, ⟨mm_T7, 27, rfl⟩, rfl⟩
set_option maxRecDepth 100000 in
theorem mm_pk7_143 : mm_pok "FairDeskModel" 143 2 113 1 0 := ⟨mm_mt113, rfl, mm_m 916 rfl rfl, mm_m 918 rfl rfl, mm_m 25 rfl rfl, ⟨mm_T7, 27, rfl⟩, rfl⟩
set_option maxRecDepth 100000 in
theorem mm_pk7_146 : mm_pok "FairDeskModel" 146 2 95 0 0 := ⟨mm_mt95, rfl, mm_m 928 rfl rfl, mm_m 930 rfl rfl, mm_m 26 rfl rfl, ⟨mm_T7, 27, rfl⟩, rfl⟩
set_option maxRecDepth 100000 in
theorem mm_pk7_150 : mm_pok "FairDeskModel" 150 2 96 0 0 := ⟨mm_mt96, rfl, mm_m 940 rfl rfl, mm_m 942 rfl rfl, mm_m 29 rfl rfl, ⟨mm_T7, 27, rfl⟩, rfl⟩
set_option maxRecDepth 100000 in
theorem mm_pk7_153 : mm_pok "FairDeskModel" 153 2 97 0 0 := ⟨mm_mt97, rfl, mm_m 948 rfl rfl, mm_m 950 rfl rfl, mm_m 30 rfl rfl, ⟨mm_T7, 27, rfl⟩, rfl⟩
set_option maxRecDepth 100000 in
theorem mm_pk7_156 : mm_pok "FairDeskModel" 156 2 98 1 0 := ⟨mm_mt98, rfl, mm_m 953 rfl rfl, mm_m 955 rfl rfl, mm_m 31 rfl rfl, ⟨mm_T7, 27, rfl⟩, rfl⟩
set_option maxRecDepth 100000 in
theorem mm_pk7_159 : mm_pok "FairDeskModel" 159 11 0 0 100000 := mm_m 981 rfl rfl
set_option maxRecDepth 100000 in
theorem mm_pk7_160 : mm_pok "FairDeskModel" 160 11 0 0 600000 := mm_m 986 rfl rfl
set_option maxRecDepth 100000 in
theorem mm_pk7_161 : mm_pok "FairDeskModel" 161 2 99 1 0 := ⟨mm_mt99, rfl, mm_m 991 rfl rfl, mm_m 993 rfl rfl, mm_m 32 rfl rfl, ⟨mm_T7, 27, rfl⟩, rfl⟩
set_option maxRecDepth 100000 in
theorem mm_pk7_164 : mm_pok "FairDeskModel" 164 2 101 0 0 := ⟨mm_mt101, rfl, mm_m 995 rfl rfl, mm_m 997 rfl rfl, mm_m 33 rfl rfl, ⟨mm_T7, 27, rfl⟩, rfl⟩
set_option maxRecDepth 100000 in
theorem mm_pk7_167 : mm_pok "FairDeskModel" 167 2 109 0 0 := ⟨mm_mt109, rfl, mm_m 1022 rfl rfl, mm_m 1024 rfl rfl, mm_m 35 rfl rfl, ⟨mm_T7, 27, rfl⟩, rfl⟩
set_option maxRecDepth 100000 in
theorem mm_pk7_170 : mm_pok "FairDeskModel" 170 2 106 0 0 := ⟨mm_mt106, rfl, mm_m 1049 rfl rfl, mm_m 1051 rfl rfl, mm_m 41 rfl rfl, ⟨mm_T7, 27, rfl⟩, rfl⟩
set_option maxRecDepth 100000 in
theorem mm_pp7 : ∀ q ∈ mm_p7, mm_pok "FairDeskModel" q.1 q.2.1 q.2.2.1 q.2.2.2.1 q.2.2.2.2 := List.forall_mem_cons.mpr ⟨mm_pk7_1, List.forall_mem_cons.mpr ⟨mm_pk7_7, List.forall_mem_cons.mpr ⟨mm_pk7_13, List.forall_mem_cons.mpr ⟨mm_pk7_16, List.forall_mem_cons.mpr ⟨mm_pk7_19, List.forall_mem_cons.mpr ⟨mm_pk7_23, List.forall_mem_cons.mpr ⟨mm_pk7_26, List.forall_mem_cons.mpr ⟨mm_pk7_29, List.forall_mem_cons.mpr ⟨mm_pk7_32, List.forall_mem_cons.mpr ⟨mm_pk7_35, List.forall_mem_cons.mpr ⟨mm_pk7_38, List.forall_mem_cons.mpr ⟨mm_pk7_42, List.forall_mem_cons.mpr ⟨mm_pk7_45, List.forall_mem_cons.mpr ⟨mm_pk7_48, List.forall_mem_cons.mpr ⟨mm_pk7_51, List.forall_mem_cons.mpr ⟨mm_pk7_55, List.forall_mem_cons.mpr ⟨mm_pk7_58, List.forall_mem_cons.mpr ⟨mm_pk7_61, List.forall_mem_cons.mpr ⟨mm_pk7_64, List.forall_mem_cons.mpr ⟨mm_pk7_67, List.forall_mem_cons.mpr ⟨mm_pk7_70, List.forall_mem_cons.mpr ⟨mm_pk7_73, List.forall_mem_cons.mpr ⟨mm_pk7_76, List.forall_mem_cons.mpr ⟨mm_pk7_79, List.forall_mem_cons.mpr ⟨mm_pk7_82, List.forall_mem_cons.mpr ⟨mm_pk7_85, List.forall_mem_cons.mpr ⟨mm_pk7_89, List.forall_mem_cons.mpr ⟨mm_pk7_92, List.forall_mem_cons.mpr ⟨mm_pk7_95, List.forall_mem_cons.mpr ⟨mm_pk7_99, List.forall_mem_cons.mpr ⟨mm_pk7_103, List.forall_mem_cons.mpr ⟨mm_pk7_107, List.forall_mem_cons.mpr ⟨mm_pk7_108, List.forall_mem_cons.mpr ⟨mm_pk7_112, List.forall_mem_cons.mpr ⟨mm_pk7_116, List.forall_mem_cons.mpr ⟨mm_pk7_119, List.forall_mem_cons.mpr ⟨mm_pk7_123, List.forall_mem_cons.mpr ⟨mm_pk7_126, List.forall_mem_cons.mpr ⟨mm_pk7_129, List.forall_mem_cons.mpr ⟨mm_pk7_133, List.forall_mem_cons.mpr ⟨mm_pk7_136, List.forall_mem_cons.mpr ⟨mm_pk7_139, List.forall_mem_cons.mpr ⟨mm_pk7_143, List.forall_mem_cons.mpr ⟨mm_pk7_146, List.forall_mem_cons.mpr ⟨mm_pk7_150, List.forall_mem_cons.mpr ⟨mm_pk7_153, List.forall_mem_cons.mpr ⟨mm_pk7_156, List.forall_mem_cons.mpr ⟨mm_pk7_159, List.forall_mem_cons.mpr ⟨mm_pk7_160, List.forall_mem_cons.mpr ⟨mm_pk7_161, List.forall_mem_cons.mpr ⟨mm_pk7_164, List.forall_mem_cons.mpr ⟨mm_pk7_167, List.forall_mem_cons.mpr ⟨mm_pk7_170, fun _ h => absurd h List.not_mem_nil⟩⟩⟩⟩⟩⟩⟩⟩⟩⟩⟩⟩⟩⟩⟩⟩⟩⟩⟩⟩⟩⟩⟩⟩⟩⟩⟩⟩⟩⟩⟩⟩⟩⟩⟩⟩⟩⟩⟩⟩⟩⟩⟩⟩⟩⟩⟩⟩⟩⟩⟩⟩⟩
set_option maxRecDepth 100000 in
theorem mm_pk8_7 : mm_pok "FairDeskLaw" 7 2 1 1 0 := ⟨mm_mt1, rfl, mm_m 392 rfl rfl, mm_m 393 rfl rfl, mm_m 394 rfl rfl, ⟨mm_T0, 4, rfl⟩, rfl⟩
set_option maxRecDepth 100000 in
theorem mm_pk8_8 : mm_pok "FairDeskLaw" 8 8 0 4 0 := ⟨"FairDesk", mm_T0, rfl, mm_m 59 rfl rfl, mm_m 60 rfl rfl, mm_m 43 rfl rfl⟩
set_option maxRecDepth 100000 in
theorem mm_pk8_15 : mm_pok "FairDeskLaw" 15 2 2 1 0 := ⟨mm_mt2, rfl, mm_m 490 rfl rfl, mm_m 491 rfl rfl, mm_m 492 rfl rfl, ⟨mm_T0, 4, rfl⟩, rfl⟩
set_option maxRecDepth 100000 in
theorem mm_pk8_18 : mm_pok "FairDeskLaw" 18 2 3 3 0 := ⟨mm_mt3, rfl, mm_m 500 rfl rfl, mm_m 501 rfl rfl, mm_m 502 rfl rfl, ⟨mm_T0, 4, rfl⟩, rfl⟩
set_option maxRecDepth 100000 in
theorem mm_pk8_24 : mm_pok "FairDeskLaw" 24 2 4 1 0 := ⟨mm_mt4, rfl, mm_m 540 rfl rfl, mm_m 541 rfl rfl, mm_m 542 rfl rfl, ⟨mm_T0, 4, rfl⟩, rfl⟩
set_option maxRecDepth 100000 in
theorem mm_pk8_27 : mm_pok "FairDeskLaw" 27 2 6 0 0 := ⟨mm_mt6, rfl, mm_m 557 rfl rfl, mm_m 558 rfl rfl, mm_m 559 rfl rfl, ⟨mm_T0, 4, rfl⟩, rfl⟩
set_option maxRecDepth 100000 in
theorem mm_pk8_33 : mm_pok "FairDeskLaw" 33 2 7 2 0 := ⟨mm_mt7, rfl, mm_m 604 rfl rfl, mm_m 605 rfl rfl, mm_m 606 rfl rfl, ⟨mm_T0, 4, rfl⟩, rfl⟩
set_option maxRecDepth 100000 in
theorem mm_pk8_37 : mm_pok "FairDeskLaw" 37 2 8 1 0 := ⟨mm_mt8, rfl, mm_m 615 rfl rfl, mm_m 616 rfl rfl, mm_m 617 rfl rfl, ⟨mm_T0, 4, rfl⟩, rfl⟩
set_option maxRecDepth 100000 in
theorem mm_pk8_41 : mm_pok "FairDeskLaw" 41 2 9 2 0 := ⟨mm_mt9, rfl, mm_m 627 rfl rfl, mm_m 628 rfl rfl, mm_m 629 rfl rfl, ⟨mm_T0, 4, rfl⟩, rfl⟩
set_option maxRecDepth 100000 in
theorem mm_pk8_44 : mm_pok "FairDeskLaw" 44 2 10 3 0 := ⟨mm_mt10, rfl, mm_m 635 rfl rfl, mm_m 636 rfl rfl, mm_m 637 rfl rfl, ⟨mm_T0, 4, rfl⟩, rfl⟩
set_option maxRecDepth 100000 in
theorem mm_pk8_48 : mm_pok "FairDeskLaw" 48 2 11 1 0 := ⟨mm_mt11, rfl, mm_m 643 rfl rfl, mm_m 644 rfl rfl, mm_m 645 rfl rfl, ⟨mm_T0, 4, rfl⟩, rfl⟩
set_option maxRecDepth 100000 in
theorem mm_pk8_51 : mm_pok "FairDeskLaw" 51 2 12 3 0 := ⟨mm_mt12, rfl, mm_m 666 rfl rfl, mm_m 667 rfl rfl, mm_m 668 rfl rfl, ⟨mm_T0, 4, rfl⟩, rfl⟩
set_option maxRecDepth 100000 in
theorem mm_pk8_54 : mm_pok "FairDeskLaw" 54 2 13 1 0 := ⟨mm_mt13, rfl, mm_m 680 rfl rfl, mm_m 681 rfl rfl, mm_m 682 rfl rfl, ⟨mm_T0, 4, rfl⟩, rfl⟩
set_option maxRecDepth 100000 in
theorem mm_pk8_57 : mm_pok "FairDeskLaw" 57 2 14 0 0 := ⟨mm_mt14, rfl, mm_m 693 rfl rfl, mm_m 694 rfl rfl, mm_m 695 rfl rfl, ⟨mm_T0, 4, rfl⟩, rfl⟩
set_option maxRecDepth 100000 in
theorem mm_pk8_61 : mm_pok "FairDeskLaw" 61 2 15 2 0 := ⟨mm_mt15, rfl, mm_m 724 rfl rfl, mm_m 725 rfl rfl, mm_m 726 rfl rfl, ⟨mm_T0, 4, rfl⟩, rfl⟩
set_option maxRecDepth 100000 in
theorem mm_pk8_65 : mm_pok "FairDeskLaw" 65 2 16 1 0 := ⟨mm_mt16, rfl, mm_m 749 rfl rfl, mm_m 750 rfl rfl, mm_m 751 rfl rfl, ⟨mm_T0, 4, rfl⟩, rfl⟩
set_option maxRecDepth 100000 in
theorem mm_pk8_68 : mm_pok "FairDeskLaw" 68 2 17 3 0 := ⟨mm_mt17, rfl, mm_m 758 rfl rfl, mm_m 759 rfl rfl, mm_m 760 rfl rfl, ⟨mm_T0, 4, rfl⟩, rfl⟩
set_option maxRecDepth 100000 in
theorem mm_pk8_71 : mm_pok "FairDeskLaw" 71 2 19 2 0 := ⟨mm_mt19, rfl, mm_m 771 rfl rfl, mm_m 772 rfl rfl, mm_m 773 rfl rfl, ⟨mm_T0, 4, rfl⟩, rfl⟩
set_option maxRecDepth 100000 in
theorem mm_pk8_74 : mm_pok "FairDeskLaw" 74 2 20 3 0 := ⟨mm_mt20, rfl, mm_m 791 rfl rfl, mm_m 792 rfl rfl, mm_m 793 rfl rfl, ⟨mm_T0, 4, rfl⟩, rfl⟩
set_option maxRecDepth 100000 in
theorem mm_pk8_78 : mm_pok "FairDeskLaw" 78 4 0 0 0 := ⟨mm_mt0, rfl, mm_m 61 rfl rfl, mm_m 62 rfl rfl, ⟨rfl, rfl⟩, rfl⟩
set_option maxRecDepth 100000 in
theorem mm_pk8_79 : mm_pok "FairDeskLaw" 79 8 7 27 0 := ⟨"FairDeskModel", mm_T7, rfl, mm_m 799 rfl rfl, mm_m 800 rfl rfl, mm_m 50 rfl rfl⟩
set_option maxRecDepth 100000 in
theorem mm_pk8_81 : mm_pok "FairDeskLaw" 81 4 90 0 0 := ⟨mm_mt90, rfl, mm_m 801 rfl rfl, mm_m 802 rfl rfl, ⟨rfl, rfl⟩, rfl⟩
set_option maxRecDepth 100000 in
theorem mm_pk8_82 : mm_pok "FairDeskLaw" 82 3 134 2 0 := ⟨mm_mt134, mm_m 388 rfl rfl, mm_m 389 rfl rfl, rfl⟩
set_option maxRecDepth 100000 in
theorem mm_pk8_87 : mm_pok "FairDeskLaw" 87 2 114 1 0 := ⟨mm_mt114, rfl, mm_m 896 rfl rfl, mm_m 897 rfl rfl, mm_m 898 rfl rfl, ⟨mm_T7, 27, rfl⟩, rfl⟩
set_option maxRecDepth 100000 in
theorem mm_pk8_88 : mm_pok "FairDeskLaw" 88 2 111 0 0 := ⟨mm_mt111, rfl, mm_m 892 rfl rfl, mm_m 893 rfl rfl, mm_m 894 rfl rfl, ⟨mm_T7, 27, rfl⟩, rfl⟩
set_option maxRecDepth 100000 in
theorem mm_pk8_91 : mm_pok "FairDeskLaw" 91 3 135 2 0 := ⟨mm_mt135, mm_m 487 rfl rfl, mm_m 488 rfl rfl, rfl⟩
set_option maxRecDepth 100000 in
theorem mm_pk8_93 : mm_pok "FairDeskLaw" 93 2 115 1 0 := ⟨mm_mt115, rfl, mm_m 900 rfl rfl, mm_m 901 rfl rfl, mm_m 902 rfl rfl, ⟨mm_T7, 27, rfl⟩, rfl⟩
set_option maxRecDepth 100000 in
theorem mm_pk8_94 : mm_pok "FairDeskLaw" 94 3 136 5 0 := ⟨mm_mt136, mm_m 496 rfl rfl, mm_m 497 rfl rfl, rfl⟩
set_option maxRecDepth 100000 in
theorem mm_pk8_97 : mm_pok "FairDeskLaw" 97 2 116 3 0 := ⟨mm_mt116, rfl, mm_m 908 rfl rfl, mm_m 909 rfl rfl, mm_m 910 rfl rfl, ⟨mm_T7, 27, rfl⟩, rfl⟩
set_option maxRecDepth 100000 in
theorem mm_pk8_98 : mm_pok "FairDeskLaw" 98 3 137 2 0 := ⟨mm_mt137, mm_m 537 rfl rfl, mm_m 538 rfl rfl, rfl⟩
set_option maxRecDepth 100000 in
theorem mm_pk8_100 : mm_pok "FairDeskLaw" 100 2 117 1 0 := ⟨mm_mt117, rfl, mm_m 920 rfl rfl, mm_m 921 rfl rfl, mm_m 922 rfl rfl, ⟨mm_T7, 27, rfl⟩, rfl⟩
set_option maxRecDepth 100000 in
theorem mm_pk8_101 : mm_pok "FairDeskLaw" 101 2 5 0 0 := ⟨mm_mt5, rfl, mm_m 271 rfl rfl, mm_m 272 rfl rfl, mm_m 273 rfl rfl, ⟨mm_T0, 4, rfl⟩, rfl⟩
set_option maxRecDepth 100000 in
theorem mm_pk8_104 : mm_pok "FairDeskLaw" 104 2 118 0 0 := ⟨mm_mt118, rfl, mm_m 924 rfl rfl, mm_m 925 rfl rfl, mm_m 926 rfl rfl, ⟨mm_T7, 27, rfl⟩, rfl⟩
set_option maxRecDepth 100000 in
theorem mm_pk8_105 : mm_pok "FairDeskLaw" 105 3 138 2 0 := ⟨mm_mt138, mm_m 553 rfl rfl, mm_m 554 rfl rfl, rfl⟩
set_option maxRecDepth 100000 in
theorem mm_pk8_108 : mm_pok "FairDeskLaw" 108 2 119 0 0 := ⟨mm_mt119, rfl, mm_m 944 rfl rfl, mm_m 945 rfl rfl, mm_m 946 rfl rfl, ⟨mm_T7, 27, rfl⟩, rfl⟩
set_option maxRecDepth 100000 in
theorem mm_pk8_109 : mm_pok "FairDeskLaw" 109 3 139 4 0 := ⟨mm_mt139, mm_m 601 rfl rfl, mm_m 602 rfl rfl, rfl⟩
set_option maxRecDepth 100000 in
theorem mm_pk8_112 : mm_pok "FairDeskLaw" 112 2 120 2 0 := ⟨mm_mt120, rfl, mm_m 957 rfl rfl, mm_m 958 rfl rfl, mm_m 959 rfl rfl, ⟨mm_T7, 27, rfl⟩, rfl⟩
set_option maxRecDepth 100000 in
theorem mm_pk8_113 : mm_pok "FairDeskLaw" 113 3 140 3 0 := ⟨mm_mt140, mm_m 612 rfl rfl, mm_m 613 rfl rfl, rfl⟩
set_option maxRecDepth 100000 in
theorem mm_pk8_116 : mm_pok "FairDeskLaw" 116 2 121 1 0 := ⟨mm_mt121, rfl, mm_m 961 rfl rfl, mm_m 962 rfl rfl, mm_m 963 rfl rfl, ⟨mm_T7, 27, rfl⟩, rfl⟩
set_option maxRecDepth 100000 in
theorem mm_pk8_117 : mm_pok "FairDeskLaw" 117 3 141 4 0 := ⟨mm_mt141, mm_m 624 rfl rfl, mm_m 625 rfl rfl, rfl⟩
set_option maxRecDepth 100000 in
theorem mm_pk8_119 : mm_pok "FairDeskLaw" 119 2 122 2 0 := ⟨mm_mt122, rfl, mm_m 965 rfl rfl, mm_m 966 rfl rfl, mm_m 967 rfl rfl, ⟨mm_T7, 27, rfl⟩, rfl⟩
set_option maxRecDepth 100000 in
theorem mm_pk8_120 : mm_pok "FairDeskLaw" 120 3 142 5 0 := ⟨mm_mt142, mm_m 632 rfl rfl, mm_m 633 rfl rfl, rfl⟩
set_option maxRecDepth 100000 in
theorem mm_pk8_123 : mm_pok "FairDeskLaw" 123 2 123 3 0 := ⟨mm_mt123, rfl, mm_m 969 rfl rfl, mm_m 970 rfl rfl, mm_m 971 rfl rfl, ⟨mm_T7, 27, rfl⟩, rfl⟩
set_option maxRecDepth 100000 in
theorem mm_pk8_124 : mm_pok "FairDeskLaw" 124 3 143 3 0 := ⟨mm_mt143, mm_m 640 rfl rfl, mm_m 641 rfl rfl, rfl⟩
set_option maxRecDepth 100000 in
theorem mm_pk8_126 : mm_pok "FairDeskLaw" 126 2 124 1 0 := ⟨mm_mt124, rfl, mm_m 973 rfl rfl, mm_m 974 rfl rfl, mm_m 975 rfl rfl, ⟨mm_T7, 27, rfl⟩, rfl⟩
set_option maxRecDepth 100000 in
theorem mm_pk8_127 : mm_pok "FairDeskLaw" 127 3 144 5 0 := ⟨mm_mt144, mm_m 663 rfl rfl, mm_m 664 rfl rfl, rfl⟩
set_option maxRecDepth 100000 in
theorem mm_pk8_129 : mm_pok "FairDeskLaw" 129 2 125 3 0 := ⟨mm_mt125, rfl, mm_m 977 rfl rfl, mm_m 978 rfl rfl, mm_m 979 rfl rfl, ⟨mm_T7, 27, rfl⟩, rfl⟩
set_option maxRecDepth 100000 in
theorem mm_pk8_130 : mm_pok "FairDeskLaw" 130 3 145 3 0 := ⟨mm_mt145, mm_m 677 rfl rfl, mm_m 678 rfl rfl, rfl⟩
set_option maxRecDepth 100000 in
theorem mm_pk8_132 : mm_pok "FairDeskLaw" 132 2 126 1 0 := ⟨mm_mt126, rfl, mm_m 982 rfl rfl, mm_m 983 rfl rfl, mm_m 984 rfl rfl, ⟨mm_T7, 27, rfl⟩, rfl⟩
set_option maxRecDepth 100000 in
theorem mm_pk8_133 : mm_pok "FairDeskLaw" 133 3 146 2 0 := ⟨mm_mt146, mm_m 690 rfl rfl, mm_m 691 rfl rfl, rfl⟩
set_option maxRecDepth 100000 in
theorem mm_pk8_135 : mm_pok "FairDeskLaw" 135 2 127 0 0 := ⟨mm_mt127, rfl, mm_m 987 rfl rfl, mm_m 988 rfl rfl, mm_m 989 rfl rfl, ⟨mm_T7, 27, rfl⟩, rfl⟩
set_option maxRecDepth 100000 in
theorem mm_pk8_136 : mm_pok "FairDeskLaw" 136 3 147 4 0 := ⟨mm_mt147, mm_m 721 rfl rfl, mm_m 722 rfl rfl, rfl⟩
set_option maxRecDepth 100000 in
theorem mm_pk8_138 : mm_pok "FairDeskLaw" 138 2 128 2 0 := ⟨mm_mt128, rfl, mm_m 1006 rfl rfl, mm_m 1007 rfl rfl, mm_m 1008 rfl rfl, ⟨mm_T7, 27, rfl⟩, rfl⟩
set_option maxRecDepth 100000 in
theorem mm_pk8_139 : mm_pok "FairDeskLaw" 139 3 148 2 0 := ⟨mm_mt148, mm_m 746 rfl rfl, mm_m 747 rfl rfl, rfl⟩
set_option maxRecDepth 100000 in
theorem mm_pk8_141 : mm_pok "FairDeskLaw" 141 2 129 1 0 := ⟨mm_mt129, rfl, mm_m 1010 rfl rfl, mm_m 1011 rfl rfl, mm_m 1012 rfl rfl, ⟨mm_T7, 27, rfl⟩, rfl⟩
set_option maxRecDepth 100000 in
theorem mm_pk8_142 : mm_pok "FairDeskLaw" 142 3 149 5 0 := ⟨mm_mt149, mm_m 755 rfl rfl, mm_m 756 rfl rfl, rfl⟩
set_option maxRecDepth 100000 in
theorem mm_pk8_144 : mm_pok "FairDeskLaw" 144 2 130 3 0 := ⟨mm_mt130, rfl, mm_m 1014 rfl rfl, mm_m 1015 rfl rfl, mm_m 1016 rfl rfl, ⟨mm_T7, 27, rfl⟩, rfl⟩
set_option maxRecDepth 100000 in
theorem mm_pk8_145 : mm_pok "FairDeskLaw" 145 2 18 1 0 := ⟨mm_mt18, rfl, mm_m 307 rfl rfl, mm_m 308 rfl rfl, mm_m 309 rfl rfl, ⟨mm_T0, 4, rfl⟩, rfl⟩
set_option maxRecDepth 100000 in
theorem mm_pk8_149 : mm_pok "FairDeskLaw" 149 2 131 1 0 := ⟨mm_mt131, rfl, mm_m 1018 rfl rfl, mm_m 1019 rfl rfl, mm_m 1020 rfl rfl, ⟨mm_T7, 27, rfl⟩, rfl⟩
set_option maxRecDepth 100000 in
theorem mm_pk8_150 : mm_pok "FairDeskLaw" 150 3 150 4 0 := ⟨mm_mt150, mm_m 768 rfl rfl, mm_m 769 rfl rfl, rfl⟩
set_option maxRecDepth 100000 in
theorem mm_pk8_152 : mm_pok "FairDeskLaw" 152 2 132 2 0 := ⟨mm_mt132, rfl, mm_m 1053 rfl rfl, mm_m 1054 rfl rfl, mm_m 1055 rfl rfl, ⟨mm_T7, 27, rfl⟩, rfl⟩
set_option maxRecDepth 100000 in
theorem mm_pk8_153 : mm_pok "FairDeskLaw" 153 3 151 5 0 := ⟨mm_mt151, mm_m 788 rfl rfl, mm_m 789 rfl rfl, rfl⟩
set_option maxRecDepth 100000 in
theorem mm_pk8_155 : mm_pok "FairDeskLaw" 155 2 133 3 0 := ⟨mm_mt133, rfl, mm_m 1057 rfl rfl, mm_m 1058 rfl rfl, mm_m 1059 rfl rfl, ⟨mm_T7, 27, rfl⟩, rfl⟩
set_option maxRecDepth 100000 in
theorem mm_pp8 : ∀ q ∈ mm_p8, mm_pok "FairDeskLaw" q.1 q.2.1 q.2.2.1 q.2.2.2.1 q.2.2.2.2 := List.forall_mem_cons.mpr ⟨mm_pk8_7, List.forall_mem_cons.mpr ⟨mm_pk8_8, List.forall_mem_cons.mpr ⟨mm_pk8_15, List.forall_mem_cons.mpr ⟨mm_pk8_18, List.forall_mem_cons.mpr ⟨mm_pk8_24, List.forall_mem_cons.mpr ⟨mm_pk8_27, List.forall_mem_cons.mpr ⟨mm_pk8_33, List.forall_mem_cons.mpr ⟨mm_pk8_37, List.forall_mem_cons.mpr ⟨mm_pk8_41, List.forall_mem_cons.mpr ⟨mm_pk8_44, List.forall_mem_cons.mpr ⟨mm_pk8_48, List.forall_mem_cons.mpr ⟨mm_pk8_51, List.forall_mem_cons.mpr ⟨mm_pk8_54, List.forall_mem_cons.mpr ⟨mm_pk8_57, List.forall_mem_cons.mpr ⟨mm_pk8_61, List.forall_mem_cons.mpr ⟨mm_pk8_65, List.forall_mem_cons.mpr ⟨mm_pk8_68, List.forall_mem_cons.mpr ⟨mm_pk8_71, List.forall_mem_cons.mpr ⟨mm_pk8_74, List.forall_mem_cons.mpr ⟨mm_pk8_78, List.forall_mem_cons.mpr ⟨mm_pk8_79, List.forall_mem_cons.mpr ⟨mm_pk8_81, List.forall_mem_cons.mpr ⟨mm_pk8_82, List.forall_mem_cons.mpr ⟨mm_pk8_87, List.forall_mem_cons.mpr ⟨mm_pk8_88, List.forall_mem_cons.mpr ⟨mm_pk8_91, List.forall_mem_cons.mpr ⟨mm_pk8_93, List.forall_mem_cons.mpr ⟨mm_pk8_94, List.forall_mem_cons.mpr ⟨mm_pk8_97, List.forall_mem_cons.mpr ⟨mm_pk8_98, List.forall_mem_cons.mpr ⟨mm_pk8_100, List.forall_mem_cons.mpr ⟨mm_pk8_101, List.forall_mem_cons.mpr ⟨mm_pk8_104, List.forall_mem_cons.mpr ⟨mm_pk8_105, List.forall_mem_cons.mpr ⟨mm_pk8_108, List.forall_mem_cons.mpr ⟨mm_pk8_109, List.forall_mem_cons.mpr ⟨mm_pk8_112, List.forall_mem_cons.mpr ⟨mm_pk8_113, List.forall_mem_cons.mpr ⟨mm_pk8_116, List.forall_mem_cons.mpr ⟨mm_pk8_117, List.forall_mem_cons.mpr ⟨mm_pk8_119, List.forall_mem_cons.mpr ⟨mm_pk8_120, List.forall_mem_cons.mpr ⟨mm_pk8_123, List.forall_mem_cons.mpr ⟨mm_pk8_124, List.forall_mem_cons.mpr ⟨mm_pk8_126, List.forall_mem_cons.mpr ⟨mm_pk8_127, List.forall_mem_cons.mpr ⟨mm_pk8_129, List.forall_mem_cons.mpr ⟨mm_pk8_130, List.forall_mem_cons.mpr ⟨mm_pk8_132, List.forall_mem_cons.mpr ⟨mm_pk8_133, List.forall_mem_cons.mpr ⟨mm_pk8_135, List.forall_mem_cons.mpr ⟨mm_pk8_136, List.forall_mem_cons.mpr ⟨mm_pk8_138, List.forall_mem_cons.mpr ⟨mm_pk8_139, List.forall_mem_cons.mpr ⟨mm_pk8_141, List.forall_mem_cons.mpr ⟨mm_pk8_142, List.forall_mem_cons.mpr ⟨mm_pk8_144, List.forall_mem_cons.mpr ⟨mm_pk8_145, List.forall_mem_cons.mpr ⟨mm_pk8_149, List.forall_mem_cons.mpr ⟨mm_pk8_150, List.forall_mem_cons.mpr ⟨mm_pk8_152, List.forall_mem_cons.mpr ⟨mm_pk8_153, List.forall_mem_cons.mpr ⟨mm_pk8_155, fun _ h => absurd h List.not_mem_nil⟩⟩⟩⟩⟩⟩⟩⟩⟩⟩⟩⟩⟩⟩⟩⟩⟩⟩⟩⟩⟩⟩⟩⟩⟩⟩⟩⟩⟩⟩⟩⟩⟩⟩⟩⟩⟩⟩⟩⟩⟩⟩⟩⟩⟩⟩⟩⟩⟩⟩⟩⟩⟩⟩⟩⟩⟩⟩⟩⟩⟩⟩⟩
theorem mm_pls : ∀ (k : Nat), ∀ q ∈ mm_pl k, mm_pok (mm_ownC k) q.1 q.2.1 q.2.2.1 q.2.2.2.1 q.2.2.2.2
  | 0 => mm_pp0
  | 1 => mm_pp1
  | 2 => mm_pp2
  | 3 => mm_pp3
  | 4 => mm_pp4
  | 5 => mm_pp5
  | 6 => mm_pp6
  | 7 => mm_pp7
  | _ + 8 => mm_pp8
theorem mm_pool_ok {j idx t a b : Nat} {z : Int} (h : mm_pool j idx = some (t, a, b, z)) : mm_pok (mm_own j) idx t a b z := mm_pls (mm_cn j) _ (mm_lk_mem h)

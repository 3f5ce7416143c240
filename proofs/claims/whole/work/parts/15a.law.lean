theorem qc_yX4_letter : Cond.code yX4_letter cX4_letter 2 (some .int) ∈ XT := xm 229 (by decide +kernel) (by decide +kernel)
theorem qi_yX4_letter : Cond.instanceMethod yX4_letter ∈ XT := xm 227 (by decide +kernel) (by decide +kernel)
theorem qe_yX4_letter : Cond.selects yX4_letter.cls yX4_letter yX4_letter ∈ XT := xm 228 (by decide +kernel) (by decide +kernel)
theorem cv_yX4_letter : CV yX4_letter cX4_letter 2 (some .int) 1 := ⟨qc_yX4_letter, qi_yX4_letter, qe_yX4_letter, qz_SumColours, by decide +kernel, by decide +kernel, by decide +kernel⟩
theorem qc_yX5_letter : Cond.code yX5_letter cX5_letter 2 (some .int) ∈ XT := xm 742 (by decide +kernel) (by decide +kernel)
theorem qi_yX5_letter : Cond.instanceMethod yX5_letter ∈ XT := xm 740 (by decide +kernel) (by decide +kernel)
theorem qe_yX5_letter : Cond.selects yX5_letter.cls yX5_letter yX5_letter ∈ XT := xm 741 (by decide +kernel) (by decide +kernel)
theorem cv_yX5_letter : CV yX5_letter cX5_letter 2 (some .int) 1 := ⟨qc_yX5_letter, qi_yX5_letter, qe_yX5_letter, qz_SumColoursModel, by decide +kernel, by decide +kernel, by decide +kernel⟩
theorem qc_yX4_blank : Cond.code yX4_blank cX4_blank 2 (some .int) ∈ XT := xm 240 (by decide +kernel) (by decide +kernel)
theorem qi_yX4_blank : Cond.instanceMethod yX4_blank ∈ XT := xm 238 (by decide +kernel) (by decide +kernel)
theorem qe_yX4_blank : Cond.selects yX4_blank.cls yX4_blank yX4_blank ∈ XT := xm 239 (by decide +kernel) (by decide +kernel)
theorem cv_yX4_blank : CV yX4_blank cX4_blank 2 (some .int) 0 := ⟨qc_yX4_blank, qi_yX4_blank, qe_yX4_blank, qz_SumColours, by decide +kernel, by decide +kernel, by decide +kernel⟩
theorem qc_yX5_blank : Cond.code yX5_blank cX5_blank 2 (some .int) ∈ XT := xm 749 (by decide +kernel) (by decide +kernel)
theorem qi_yX5_blank : Cond.instanceMethod yX5_blank ∈ XT := xm 747 (by decide +kernel) (by decide +kernel)
theorem qe_yX5_blank : Cond.selects yX5_blank.cls yX5_blank yX5_blank ∈ XT := xm 748 (by decide +kernel) (by decide +kernel)
theorem cv_yX5_blank : CV yX5_blank cX5_blank 2 (some .int) 0 := ⟨qc_yX5_blank, qi_yX5_blank, qe_yX5_blank, qz_SumColoursModel, by decide +kernel, by decide +kernel, by decide +kernel⟩
theorem qc_yX4_fault : Cond.code yX4_fault cX4_fault 1 (some .int) ∈ XT := xm 244 (by decide +kernel) (by decide +kernel)
theorem qi_yX4_fault : Cond.instanceMethod yX4_fault ∈ XT := xm 242 (by decide +kernel) (by decide +kernel)
theorem qe_yX4_fault : Cond.selects yX4_fault.cls yX4_fault yX4_fault ∈ XT := xm 243 (by decide +kernel) (by decide +kernel)
theorem cv_yX4_fault : CV yX4_fault cX4_fault 1 (some .int) 0 := ⟨qc_yX4_fault, qi_yX4_fault, qe_yX4_fault, qz_SumColours, by decide +kernel, by decide +kernel, by decide +kernel⟩
theorem qc_yX5_fault : Cond.code yX5_fault cX5_fault 1 (some .int) ∈ XT := xm 753 (by decide +kernel) (by decide +kernel)
theorem qi_yX5_fault : Cond.instanceMethod yX5_fault ∈ XT := xm 751 (by decide +kernel) (by decide +kernel)
theorem qe_yX5_fault : Cond.selects yX5_fault.cls yX5_fault yX5_fault ∈ XT := xm 752 (by decide +kernel) (by decide +kernel)
theorem cv_yX5_fault : CV yX5_fault cX5_fault 1 (some .int) 0 := ⟨qc_yX5_fault, qi_yX5_fault, qe_yX5_fault, qz_SumColoursModel, by decide +kernel, by decide +kernel, by decide +kernel⟩
theorem qc_yX4_board : Cond.code yX4_board cX4_board 1 (some .int) ∈ XT := xm 367 (by decide +kernel) (by decide +kernel)
theorem qi_yX4_board : Cond.instanceMethod yX4_board ∈ XT := xm 365 (by decide +kernel) (by decide +kernel)
theorem qe_yX4_board : Cond.selects yX4_board.cls yX4_board yX4_board ∈ XT := xm 366 (by decide +kernel) (by decide +kernel)
theorem cv_yX4_board : CV yX4_board cX4_board 1 (some .int) 0 := ⟨qc_yX4_board, qi_yX4_board, qe_yX4_board, qz_SumColours, by decide +kernel, by decide +kernel, by decide +kernel⟩
theorem qc_yX5_board : Cond.code yX5_board cX5_board 3 (some .int) ∈ XT := xm 776 (by decide +kernel) (by decide +kernel)
theorem qi_yX5_board : Cond.instanceMethod yX5_board ∈ XT := xm 774 (by decide +kernel) (by decide +kernel)
theorem qe_yX5_board : Cond.selects yX5_board.cls yX5_board yX5_board ∈ XT := xm 775 (by decide +kernel) (by decide +kernel)
theorem cv_yX5_board : CV yX5_board cX5_board 3 (some .int) 0 := ⟨qc_yX5_board, qi_yX5_board, qe_yX5_board, qz_SumColoursModel, by decide +kernel, by decide +kernel, by decide +kernel⟩
theorem qc_yX5_number : Cond.code yX5_number cX5_number 3 (some .int) ∈ XT := xm 780 (by decide +kernel) (by decide +kernel)
theorem qi_yX5_number : Cond.instanceMethod yX5_number ∈ XT := xm 778 (by decide +kernel) (by decide +kernel)
theorem qe_yX5_number : Cond.selects yX5_number.cls yX5_number yX5_number ∈ XT := xm 779 (by decide +kernel) (by decide +kernel)
theorem cv_yX5_number : CV yX5_number cX5_number 3 (some .int) 2 := ⟨qc_yX5_number, qi_yX5_number, qe_yX5_number, qz_SumColoursModel, by decide +kernel, by decide +kernel, by decide +kernel⟩
theorem qc_yX4_as : Cond.code yX4_as cX4_as 5 (some .int) ∈ XT := xm 467 (by decide +kernel) (by decide +kernel)
theorem qi_yX4_as : Cond.instanceMethod yX4_as ∈ XT := xm 465 (by decide +kernel) (by decide +kernel)
theorem qe_yX4_as : Cond.selects yX4_as.cls yX4_as yX4_as ∈ XT := xm 466 (by decide +kernel) (by decide +kernel)
theorem cv_yX4_as : CV yX4_as cX4_as 5 (some .int) 2 := ⟨qc_yX4_as, qi_yX4_as, qe_yX4_as, qz_SumColours, by decide +kernel, by decide +kernel, by decide +kernel⟩
theorem qc_yX5_as : Cond.code yX5_as cX5_as 4 (some .int) ∈ XT := xm 849 (by decide +kernel) (by decide +kernel)
theorem qi_yX5_as : Cond.instanceMethod yX5_as ∈ XT := xm 847 (by decide +kernel) (by decide +kernel)
theorem qe_yX5_as : Cond.selects yX5_as.cls yX5_as yX5_as ∈ XT := xm 848 (by decide +kernel) (by decide +kernel)
theorem cv_yX5_as : CV yX5_as cX5_as 4 (some .int) 2 := ⟨qc_yX5_as, qi_yX5_as, qe_yX5_as, qz_SumColoursModel, by decide +kernel, by decide +kernel, by decide +kernel⟩
theorem qc_yX4_way : Cond.code yX4_way cX4_way 3 (some .int) ∈ XT := xm 474 (by decide +kernel) (by decide +kernel)
theorem qi_yX4_way : Cond.instanceMethod yX4_way ∈ XT := xm 472 (by decide +kernel) (by decide +kernel)
theorem qe_yX4_way : Cond.selects yX4_way.cls yX4_way yX4_way ∈ XT := xm 473 (by decide +kernel) (by decide +kernel)
theorem cv_yX4_way : CV yX4_way cX4_way 3 (some .int) 2 := ⟨qc_yX4_way, qi_yX4_way, qe_yX4_way, qz_SumColours, by decide +kernel, by decide +kernel, by decide +kernel⟩
theorem qc_yX5_way : Cond.code yX5_way cX5_way 3 (some .int) ∈ XT := xm 869 (by decide +kernel) (by decide +kernel)
theorem qi_yX5_way : Cond.instanceMethod yX5_way ∈ XT := xm 867 (by decide +kernel) (by decide +kernel)
theorem qe_yX5_way : Cond.selects yX5_way.cls yX5_way yX5_way ∈ XT := xm 868 (by decide +kernel) (by decide +kernel)
theorem cv_yX5_way : CV yX5_way cX5_way 3 (some .int) 2 := ⟨qc_yX5_way, qi_yX5_way, qe_yX5_way, qz_SumColoursModel, by decide +kernel, by decide +kernel, by decide +kernel⟩
theorem qc_yX4_paint : Cond.code yX4_paint cX4_paint 3 (some .int) ∈ XT := xm 486 (by decide +kernel) (by decide +kernel)
theorem qi_yX4_paint : Cond.instanceMethod yX4_paint ∈ XT := xm 484 (by decide +kernel) (by decide +kernel)
theorem qe_yX4_paint : Cond.selects yX4_paint.cls yX4_paint yX4_paint ∈ XT := xm 485 (by decide +kernel) (by decide +kernel)
theorem cv_yX4_paint : CV yX4_paint cX4_paint 3 (some .int) 2 := ⟨qc_yX4_paint, qi_yX4_paint, qe_yX4_paint, qz_SumColours, by decide +kernel, by decide +kernel, by decide +kernel⟩
theorem qc_yX5_paint : Cond.code yX5_paint cX5_paint 3 (some .int) ∈ XT := xm 873 (by decide +kernel) (by decide +kernel)
theorem qi_yX5_paint : Cond.instanceMethod yX5_paint ∈ XT := xm 871 (by decide +kernel) (by decide +kernel)
theorem qe_yX5_paint : Cond.selects yX5_paint.cls yX5_paint yX5_paint ∈ XT := xm 872 (by decide +kernel) (by decide +kernel)
theorem cv_yX5_paint : CV yX5_paint cX5_paint 3 (some .int) 2 := ⟨qc_yX5_paint, qi_yX5_paint, qe_yX5_paint, qz_SumColoursModel, by decide +kernel, by decide +kernel, by decide +kernel⟩
theorem qc_yX4_wipe : Cond.code yX4_wipe cX4_wipe 3 (some .int) ∈ XT := xm 503 (by decide +kernel) (by decide +kernel)
theorem qi_yX4_wipe : Cond.instanceMethod yX4_wipe ∈ XT := xm 501 (by decide +kernel) (by decide +kernel)
theorem qe_yX4_wipe : Cond.selects yX4_wipe.cls yX4_wipe yX4_wipe ∈ XT := xm 502 (by decide +kernel) (by decide +kernel)
theorem cv_yX4_wipe : CV yX4_wipe cX4_wipe 3 (some .int) 1 := ⟨qc_yX4_wipe, qi_yX4_wipe, qe_yX4_wipe, qz_SumColours, by decide +kernel, by decide +kernel, by decide +kernel⟩
theorem qc_yX5_wipe : Cond.code yX5_wipe cX5_wipe 3 (some .int) ∈ XT := xm 889 (by decide +kernel) (by decide +kernel)
theorem qi_yX5_wipe : Cond.instanceMethod yX5_wipe ∈ XT := xm 887 (by decide +kernel) (by decide +kernel)
theorem qe_yX5_wipe : Cond.selects yX5_wipe.cls yX5_wipe yX5_wipe ∈ XT := xm 888 (by decide +kernel) (by decide +kernel)
theorem cv_yX5_wipe : CV yX5_wipe cX5_wipe 3 (some .int) 1 := ⟨qc_yX5_wipe, qi_yX5_wipe, qe_yX5_wipe, qz_SumColoursModel, by decide +kernel, by decide +kernel, by decide +kernel⟩
theorem qc_yX4_be : Cond.code yX4_be cX4_be 4 (some .int) ∈ XT := xm 507 (by decide +kernel) (by decide +kernel)
theorem qi_yX4_be : Cond.instanceMethod yX4_be ∈ XT := xm 505 (by decide +kernel) (by decide +kernel)
theorem qe_yX4_be : Cond.selects yX4_be.cls yX4_be yX4_be ∈ XT := xm 506 (by decide +kernel) (by decide +kernel)
theorem cv_yX4_be : CV yX4_be cX4_be 4 (some .int) 2 := ⟨qc_yX4_be, qi_yX4_be, qe_yX4_be, qz_SumColours, by decide +kernel, by decide +kernel, by decide +kernel⟩
theorem qc_yX5_be : Cond.code yX5_be cX5_be 4 (some .int) ∈ XT := xm 893 (by decide +kernel) (by decide +kernel)
theorem qi_yX5_be : Cond.instanceMethod yX5_be ∈ XT := xm 891 (by decide +kernel) (by decide +kernel)
theorem qe_yX5_be : Cond.selects yX5_be.cls yX5_be yX5_be ∈ XT := xm 892 (by decide +kernel) (by decide +kernel)
theorem cv_yX5_be : CV yX5_be cX5_be 4 (some .int) 2 := ⟨qc_yX5_be, qi_yX5_be, qe_yX5_be, qz_SumColoursModel, by decide +kernel, by decide +kernel, by decide +kernel⟩
theorem qc_yX5_ways : Cond.code yX5_ways cX5_ways 2 (some .int) ∈ XT := xm 853 (by decide +kernel) (by decide +kernel)
theorem qi_yX5_ways : Cond.instanceMethod yX5_ways ∈ XT := xm 851 (by decide +kernel) (by decide +kernel)
theorem qe_yX5_ways : Cond.selects yX5_ways.cls yX5_ways yX5_ways ∈ XT := xm 852 (by decide +kernel) (by decide +kernel)
theorem cv_yX5_ways : CV yX5_ways cX5_ways 2 (some .int) 1 := ⟨qc_yX5_ways, qi_yX5_ways, qe_yX5_ways, qz_SumColoursModel, by decide +kernel, by decide +kernel, by decide +kernel⟩
theorem qc_yX5_mend : Cond.code yX5_mend cX5_mend 1 (some .int) ∈ XT := xm 897 (by decide +kernel) (by decide +kernel)
theorem qi_yX5_mend : Cond.instanceMethod yX5_mend ∈ XT := xm 895 (by decide +kernel) (by decide +kernel)
theorem qe_yX5_mend : Cond.selects yX5_mend.cls yX5_mend yX5_mend ∈ XT := xm 896 (by decide +kernel) (by decide +kernel)
theorem cv_yX5_mend : CV yX5_mend cX5_mend 1 (some .int) 0 := ⟨qc_yX5_mend, qi_yX5_mend, qe_yX5_mend, qz_SumColoursModel, by decide +kernel, by decide +kernel, by decide +kernel⟩
theorem qc_yX5_wins : Cond.code yX5_wins cX5_wins 2 (some .int) ∈ XT := xm 905 (by decide +kernel) (by decide +kernel)
theorem qi_yX5_wins : Cond.instanceMethod yX5_wins ∈ XT := xm 903 (by decide +kernel) (by decide +kernel)
theorem qe_yX5_wins : Cond.selects yX5_wins.cls yX5_wins yX5_wins ∈ XT := xm 904 (by decide +kernel) (by decide +kernel)
theorem cv_yX5_wins : CV yX5_wins cX5_wins 2 (some .int) 1 := ⟨qc_yX5_wins, qi_yX5_wins, qe_yX5_wins, qz_SumColoursModel, by decide +kernel, by decide +kernel, by decide +kernel⟩
theorem qc_yX5_odds : Cond.code yX5_odds cX5_odds 4 (some .int) ∈ XT := xm 921 (by decide +kernel) (by decide +kernel)
theorem qi_yX5_odds : Cond.instanceMethod yX5_odds ∈ XT := xm 919 (by decide +kernel) (by decide +kernel)
theorem qe_yX5_odds : Cond.selects yX5_odds.cls yX5_odds yX5_odds ∈ XT := xm 920 (by decide +kernel) (by decide +kernel)
theorem cv_yX5_odds : CV yX5_odds cX5_odds 4 (some .int) 3 := ⟨qc_yX5_odds, qi_yX5_odds, qe_yX5_odds, qz_SumColoursModel, by decide +kernel, by decide +kernel, by decide +kernel⟩
theorem qc_yX4_see : Cond.code yX4_see cX4_see 4 (some .int) ∈ XT := xm 568 (by decide +kernel) (by decide +kernel)
theorem qi_yX4_see : Cond.instanceMethod yX4_see ∈ XT := xm 566 (by decide +kernel) (by decide +kernel)
theorem qe_yX4_see : Cond.selects yX4_see.cls yX4_see yX4_see ∈ XT := xm 567 (by decide +kernel) (by decide +kernel)
theorem cv_yX4_see : CV yX4_see cX4_see 4 (some .int) 3 := ⟨qc_yX4_see, qi_yX4_see, qe_yX4_see, qz_SumColours, by decide +kernel, by decide +kernel, by decide +kernel⟩
theorem qc_yX5_see : Cond.code yX5_see cX5_see 4 (some .int) ∈ XT := xm 932 (by decide +kernel) (by decide +kernel)
theorem qi_yX5_see : Cond.instanceMethod yX5_see ∈ XT := xm 930 (by decide +kernel) (by decide +kernel)
theorem qe_yX5_see : Cond.selects yX5_see.cls yX5_see yX5_see ∈ XT := xm 931 (by decide +kernel) (by decide +kernel)
theorem cv_yX5_see : CV yX5_see cX5_see 4 (some .int) 3 := ⟨qc_yX5_see, qi_yX5_see, qe_yX5_see, qz_SumColoursModel, by decide +kernel, by decide +kernel, by decide +kernel⟩
theorem qc_yX4_forget : Cond.code yX4_forget cX4_forget 2 (some .int) ∈ XT := xm 577 (by decide +kernel) (by decide +kernel)
theorem qi_yX4_forget : Cond.instanceMethod yX4_forget ∈ XT := xm 575 (by decide +kernel) (by decide +kernel)
theorem qe_yX4_forget : Cond.selects yX4_forget.cls yX4_forget yX4_forget ∈ XT := xm 576 (by decide +kernel) (by decide +kernel)
theorem cv_yX4_forget : CV yX4_forget cX4_forget 2 (some .int) 0 := ⟨qc_yX4_forget, qi_yX4_forget, qe_yX4_forget, qz_SumColours, by decide +kernel, by decide +kernel, by decide +kernel⟩
theorem qc_yX5_forget : Cond.code yX5_forget cX5_forget 2 (some .int) ∈ XT := xm 936 (by decide +kernel) (by decide +kernel)
theorem qi_yX5_forget : Cond.instanceMethod yX5_forget ∈ XT := xm 934 (by decide +kernel) (by decide +kernel)
theorem qe_yX5_forget : Cond.selects yX5_forget.cls yX5_forget yX5_forget ∈ XT := xm 935 (by decide +kernel) (by decide +kernel)
theorem cv_yX5_forget : CV yX5_forget cX5_forget 2 (some .int) 0 := ⟨qc_yX5_forget, qi_yX5_forget, qe_yX5_forget, qz_SumColoursModel, by decide +kernel, by decide +kernel, by decide +kernel⟩
theorem qc_yX4_paintings : Cond.code yX4_paintings cX4_paintings 9 (some .int) ∈ XT := xm 581 (by decide +kernel) (by decide +kernel)
theorem qi_yX4_paintings : Cond.instanceMethod yX4_paintings ∈ XT := xm 579 (by decide +kernel) (by decide +kernel)
theorem qe_yX4_paintings : Cond.selects yX4_paintings.cls yX4_paintings yX4_paintings ∈ XT := xm 580 (by decide +kernel) (by decide +kernel)
theorem cv_yX4_paintings : CV yX4_paintings cX4_paintings 9 (some .int) 3 := ⟨qc_yX4_paintings, qi_yX4_paintings, qe_yX4_paintings, qz_SumColours, by decide +kernel, by decide +kernel, by decide +kernel⟩
theorem qc_yX5_paintings : Cond.code yX5_paintings cX5_paintings 4 (some .int) ∈ XT := xm 940 (by decide +kernel) (by decide +kernel)
theorem qi_yX5_paintings : Cond.instanceMethod yX5_paintings ∈ XT := xm 938 (by decide +kernel) (by decide +kernel)
theorem qe_yX5_paintings : Cond.selects yX5_paintings.cls yX5_paintings yX5_paintings ∈ XT := xm 939 (by decide +kernel) (by decide +kernel)
theorem cv_yX5_paintings : CV yX5_paintings cX5_paintings 4 (some .int) 3 := ⟨qc_yX5_paintings, qi_yX5_paintings, qe_yX5_paintings, qz_SumColoursModel, by decide +kernel, by decide +kernel, by decide +kernel⟩
theorem qc_yX4_image : Cond.code yX4_image cX4_image 1 (some .int) ∈ XT := xm 592 (by decide +kernel) (by decide +kernel)
theorem qi_yX4_image : Cond.instanceMethod yX4_image ∈ XT := xm 590 (by decide +kernel) (by decide +kernel)
theorem qe_yX4_image : Cond.selects yX4_image.cls yX4_image yX4_image ∈ XT := xm 591 (by decide +kernel) (by decide +kernel)
theorem cv_yX4_image : CV yX4_image cX4_image 1 (some .int) 0 := ⟨qc_yX4_image, qi_yX4_image, qe_yX4_image, qz_SumColours, by decide +kernel, by decide +kernel, by decide +kernel⟩
theorem qc_yX5_image : Cond.code yX5_image cX5_image 2 (some .int) ∈ XT := xm 956 (by decide +kernel) (by decide +kernel)
theorem qi_yX5_image : Cond.instanceMethod yX5_image ∈ XT := xm 954 (by decide +kernel) (by decide +kernel)
theorem qe_yX5_image : Cond.selects yX5_image.cls yX5_image yX5_image ∈ XT := xm 955 (by decide +kernel) (by decide +kernel)
theorem cv_yX5_image : CV yX5_image cX5_image 2 (some .int) 0 := ⟨qc_yX5_image, qi_yX5_image, qe_yX5_image, qz_SumColoursModel, by decide +kernel, by decide +kernel, by decide +kernel⟩
theorem qc_yX4_restore : Cond.code yX4_restore cX4_restore 1 (some .int) ∈ XT := xm 606 (by decide +kernel) (by decide +kernel)
theorem qi_yX4_restore : Cond.instanceMethod yX4_restore ∈ XT := xm 604 (by decide +kernel) (by decide +kernel)
theorem qe_yX4_restore : Cond.selects yX4_restore.cls yX4_restore yX4_restore ∈ XT := xm 605 (by decide +kernel) (by decide +kernel)
theorem cv_yX4_restore : CV yX4_restore cX4_restore 1 (some .int) 0 := ⟨qc_yX4_restore, qi_yX4_restore, qe_yX4_restore, qz_SumColours, by decide +kernel, by decide +kernel, by decide +kernel⟩
theorem qc_yX5_restore : Cond.code yX5_restore cX5_restore 2 (some .int) ∈ XT := xm 960 (by decide +kernel) (by decide +kernel)
theorem qi_yX5_restore : Cond.instanceMethod yX5_restore ∈ XT := xm 958 (by decide +kernel) (by decide +kernel)
theorem qe_yX5_restore : Cond.selects yX5_restore.cls yX5_restore yX5_restore ∈ XT := xm 959 (by decide +kernel) (by decide +kernel)
theorem cv_yX5_restore : CV yX5_restore cX5_restore 2 (some .int) 0 := ⟨qc_yX5_restore, qi_yX5_restore, qe_yX5_restore, qz_SumColoursModel, by decide +kernel, by decide +kernel, by decide +kernel⟩
theorem qc_yX5_count : Cond.code yX5_count cX5_count 2 (some .int) ∈ XT := xm 964 (by decide +kernel) (by decide +kernel)
theorem qi_yX5_count : Cond.instanceMethod yX5_count ∈ XT := xm 962 (by decide +kernel) (by decide +kernel)
theorem qe_yX5_count : Cond.selects yX5_count.cls yX5_count yX5_count ∈ XT := xm 963 (by decide +kernel) (by decide +kernel)
theorem cv_yX5_count : CV yX5_count cX5_count 2 (some .int) 1 := ⟨qc_yX5_count, qi_yX5_count, qe_yX5_count, qz_SumColoursModel, by decide +kernel, by decide +kernel, by decide +kernel⟩
theorem qc_yX4_digest : Cond.code yX4_digest cX4_digest 5 (some .long) ∈ XT := xm 623 (by decide +kernel) (by decide +kernel)
theorem qi_yX4_digest : Cond.instanceMethod yX4_digest ∈ XT := xm 621 (by decide +kernel) (by decide +kernel)
theorem qe_yX4_digest : Cond.selects yX4_digest.cls yX4_digest yX4_digest ∈ XT := xm 622 (by decide +kernel) (by decide +kernel)
theorem cv_yX4_digest : CV yX4_digest cX4_digest 5 (some .long) 0 := ⟨qc_yX4_digest, qi_yX4_digest, qe_yX4_digest, qz_SumColours, by decide +kernel, by decide +kernel, by decide +kernel⟩
theorem qc_yX5_digest : Cond.code yX5_digest cX5_digest 3 (some .long) ∈ XT := xm 980 (by decide +kernel) (by decide +kernel)
theorem qi_yX5_digest : Cond.instanceMethod yX5_digest ∈ XT := xm 978 (by decide +kernel) (by decide +kernel)
theorem qe_yX5_digest : Cond.selects yX5_digest.cls yX5_digest yX5_digest ∈ XT := xm 979 (by decide +kernel) (by decide +kernel)
theorem cv_yX5_digest : CV yX5_digest cX5_digest 3 (some .long) 0 := ⟨qc_yX5_digest, qi_yX5_digest, qe_yX5_digest, qz_SumColoursModel, by decide +kernel, by decide +kernel, by decide +kernel⟩
theorem qm_L_9 : Cond.methodLink RL 9 yX4_init ∈ XT := xm 95 (by decide +kernel) (by decide +kernel)
theorem qm_L_13 : Cond.methodLink RL 13 yX4_letter ∈ XT := xm 226 (by decide +kernel) (by decide +kernel)
theorem qm_L_18 : Cond.methodLink RL 18 yX4_blank ∈ XT := xm 237 (by decide +kernel) (by decide +kernel)
theorem qm_L_23 : Cond.methodLink RL 23 yX4_fault ∈ XT := xm 241 (by decide +kernel) (by decide +kernel)
theorem qm_L_27 : Cond.methodLink RL 27 yX4_board ∈ XT := xm 364 (by decide +kernel) (by decide +kernel)
theorem qm_L_31 : Cond.methodLink RL 31 yX4_number ∈ XT := xm 385 (by decide +kernel) (by decide +kernel)
theorem qm_L_36 : Cond.methodLink RL 36 yX4_as ∈ XT := xm 464 (by decide +kernel) (by decide +kernel)
theorem qm_L_40 : Cond.methodLink RL 40 yX4_way ∈ XT := xm 471 (by decide +kernel) (by decide +kernel)
theorem qm_L_44 : Cond.methodLink RL 44 yX4_paint ∈ XT := xm 483 (by decide +kernel) (by decide +kernel)
theorem qm_L_48 : Cond.methodLink RL 48 yX4_wipe ∈ XT := xm 500 (by decide +kernel) (by decide +kernel)
theorem qm_L_52 : Cond.methodLink RL 52 yX4_be ∈ XT := xm 504 (by decide +kernel) (by decide +kernel)
theorem qm_L_56 : Cond.methodLink RL 56 yX4_ways ∈ XT := xm 508 (by decide +kernel) (by decide +kernel)
theorem qm_L_60 : Cond.methodLink RL 60 yX4_mend ∈ XT := xm 524 (by decide +kernel) (by decide +kernel)
theorem qm_L_64 : Cond.methodLink RL 64 yX4_wins ∈ XT := xm 536 (by decide +kernel) (by decide +kernel)
theorem qm_L_68 : Cond.methodLink RL 68 yX4_odds ∈ XT := xm 557 (by decide +kernel) (by decide +kernel)
theorem qm_L_73 : Cond.methodLink RL 73 yX4_see ∈ XT := xm 565 (by decide +kernel) (by decide +kernel)
theorem qm_L_78 : Cond.methodLink RL 78 yX4_forget ∈ XT := xm 574 (by decide +kernel) (by decide +kernel)
theorem qm_L_82 : Cond.methodLink RL 82 yX4_paintings ∈ XT := xm 578 (by decide +kernel) (by decide +kernel)
theorem qm_L_86 : Cond.methodLink RL 86 yX4_image ∈ XT := xm 589 (by decide +kernel) (by decide +kernel)
theorem qm_L_90 : Cond.methodLink RL 90 yX4_restore ∈ XT := xm 603 (by decide +kernel) (by decide +kernel)
theorem qm_L_94 : Cond.methodLink RL 94 yX4_count ∈ XT := xm 607 (by decide +kernel) (by decide +kernel)
theorem qm_L_98 : Cond.methodLink RL 98 yX4_digest ∈ XT := xm 620 (by decide +kernel) (by decide +kernel)
theorem qm_L_12 : Cond.methodLink RL 12 yX5_init ∈ XT := xm 635 (by decide +kernel) (by decide +kernel)
theorem qm_L_17 : Cond.methodLink RL 17 yX5_letter ∈ XT := xm 739 (by decide +kernel) (by decide +kernel)
theorem qm_L_22 : Cond.methodLink RL 22 yX5_blank ∈ XT := xm 746 (by decide +kernel) (by decide +kernel)
theorem qm_L_26 : Cond.methodLink RL 26 yX5_fault ∈ XT := xm 750 (by decide +kernel) (by decide +kernel)
theorem qm_L_30 : Cond.methodLink RL 30 yX5_board ∈ XT := xm 773 (by decide +kernel) (by decide +kernel)
theorem qm_L_35 : Cond.methodLink RL 35 yX5_number ∈ XT := xm 777 (by decide +kernel) (by decide +kernel)
theorem qm_L_39 : Cond.methodLink RL 39 yX5_as ∈ XT := xm 846 (by decide +kernel) (by decide +kernel)
theorem qm_L_59 : Cond.methodLink RL 59 yX5_ways ∈ XT := xm 850 (by decide +kernel) (by decide +kernel)
theorem qm_L_43 : Cond.methodLink RL 43 yX5_way ∈ XT := xm 866 (by decide +kernel) (by decide +kernel)
theorem qm_L_47 : Cond.methodLink RL 47 yX5_paint ∈ XT := xm 870 (by decide +kernel) (by decide +kernel)
theorem qm_L_51 : Cond.methodLink RL 51 yX5_wipe ∈ XT := xm 886 (by decide +kernel) (by decide +kernel)
theorem qm_L_55 : Cond.methodLink RL 55 yX5_be ∈ XT := xm 890 (by decide +kernel) (by decide +kernel)
theorem qm_L_63 : Cond.methodLink RL 63 yX5_mend ∈ XT := xm 894 (by decide +kernel) (by decide +kernel)
theorem qm_L_67 : Cond.methodLink RL 67 yX5_wins ∈ XT := xm 902 (by decide +kernel) (by decide +kernel)
theorem qm_L_72 : Cond.methodLink RL 72 yX5_odds ∈ XT := xm 918 (by decide +kernel) (by decide +kernel)
theorem qm_L_77 : Cond.methodLink RL 77 yX5_see ∈ XT := xm 929 (by decide +kernel) (by decide +kernel)
theorem qm_L_81 : Cond.methodLink RL 81 yX5_forget ∈ XT := xm 933 (by decide +kernel) (by decide +kernel)
theorem qm_L_85 : Cond.methodLink RL 85 yX5_paintings ∈ XT := xm 937 (by decide +kernel) (by decide +kernel)
theorem qm_L_89 : Cond.methodLink RL 89 yX5_image ∈ XT := xm 953 (by decide +kernel) (by decide +kernel)
theorem qm_L_93 : Cond.methodLink RL 93 yX5_restore ∈ XT := xm 957 (by decide +kernel) (by decide +kernel)
theorem qm_L_97 : Cond.methodLink RL 97 yX5_count ∈ XT := xm 961 (by decide +kernel) (by decide +kernel)
theorem qm_L_102 : Cond.methodLink RL 102 yX5_digest ∈ XT := xm 977 (by decide +kernel) (by decide +kernel)
theorem l_good {c2 : Cond} (h : c2 ∈ XT) : GoodIn lw_tbl (c2 :: XT) := by
  intro w hw
  have h2 : w ∈ XT := by
    rcases List.mem_cons.mp hw with h3 | h3
    · rw [h3]; exact h
    · exact h3
  exact ⟨XT_tbl h2, good_of_word (List.mem_filter.mp h2).2⟩
section LAWC
variable {p : Program} {l : Launch} {e : Env} {R : Room} {s : State} {m : MethodId} {args : Array Value} {below : List Frame} {meth : Method} {c : Code} {H : Heap} {locs : List Loc} {Q : State → Prop} {cells slots : Nat}
variable {y : MethodName} {bytes cc : ByteArray} {maxL nL n index k : Nat} {ret : Option FieldType} {Qc : Array Value → State → Outcome → State → Prop} {A : Nat → Prop} {own : String} {b : Addr} {As rest st0 : List Value} {pc : Nat} {ls : Array Slot}
variable {I : SS → State → Heap → Prop} {N : State → Prop} {u v : SS} {D : va_G} {ad ad2 : Nat → Nat} {cI cB : ClassId} {a : Array Value}
theorem l_runV (S : CallFix p m c cc nL s args lw_tbl own) (hg : IG I N A) (hI : I u s H) (hN : N s) (hk : ∀ q : Nat, q < s.heap.size → ¬ A q → H[q]? = s.heap[q]?) (hM : Met l y (Cond.code y bytes maxL ret :: XT) (Rm k) (va_Pc (.ref b :: As) (Pr I N u)) Qc 0 0 A) (cv : CV y bytes maxL ret n) (hl : Cond.methodLink own index y ∈ XT)
    (hrecv : ∃ cell : Cell, H[b]? = some cell ∧ cell.vm.isStatics = false ∧ s.vm.findClass y.cls = some cell.cls) (hR : k + 1 ≤ R.frames ∧ 8 + (maxL + 11) + 40 * k ≤ R.locals) (hn : As.length = n) (hls : ls.size = nL) (hst : st0 = As.reverse ++ .ref b :: rest) (hW : (rest.map fun v => v.category).sum ≤ 8) (hdg : decode cc pc = .ok (.invokevirtual index, 3)) (hf : cells + 0 ≤ R.cells ∧ slots + 0 ≤ R.slots) :
    va_Run p l e R s m args below meth c H locs cells slots 0 0 (F0 m pc ls st0) rest (Qc (Value.ref b :: As).toArray) A := by
  have ok : ∀ {w : Cond}, w ∈ XT → w.before args s = true := fun h => S.2.2.2.2 _ (XT_tbl h)
  exact va_runV (As := As) (rest := rest) (C := y.cls) S hM ⟨callB_of n S.2.2.2.2 (l_good cv.1) rfl rfl rfl (ok cv.2.2.2.1) (ok hl) cv.2.2.2.2 hR, ok cv.2.1, ok cv.2.2.1⟩ ⟨g_blind hg, hrecv, fun U hU hW => ⟨rfl, by show I u U U.heap; rw [hU]; exact hg.1 u s U H hW.alike hI, hg.2.1 s U hW (fun q h1 h2 => by rw [hU]; exact hk q h1 h2) hN⟩⟩ rfl hn hls hst (lv_room hW) hdg hf
theorem mI_kept (h : mI D ad2 cI cB v s H) {H1 : Heap} (hd : ∀ q, mA ad2 q → ¬ xA ad q) (hk : ∀ q : Nat, q < H.size → ¬ xA ad q → H1[q]? = H[q]?) : mI D ad2 cI cB v s H1 :=
  ⟨h.1.kept (fun k q hq => hk q.1 (h.1 k q hq).lt (hd _ (h.2.2.2 k q hq))), h.2.1, h.2.2⟩
theorem xI_kept (h : xI D ad cI u s H) {H1 : Heap} (hd : ∀ q, mA ad2 q → ¬ xA ad q) (hk : ∀ q : Nat, q < H.size → ¬ mA ad2 q → H1[q]? = H[q]?) : xI D ad cI u s H1 :=
  ⟨h.1.kept (fun k q hq => hk q.1 (h.1 k q hq).lt (fun z => hd _ z (h.2.2.2 k q hq))), h.2.1, h.2.2⟩
theorem l_xi {post : Int32 → SS → Prop} (hr : va_Run p l e R s m args below meth c H locs cells slots 0 0 (F0 m pc ls st0) rest (va_Qi post (Po (xI D ad cI)) (xA ad) a) (xA ad)) (hS : va_S (fun q => s.heap.size ≤ q) s.heap H locs) (hxA : ∀ q, xA ad q → s.heap.size ≤ q) (hM : mI D ad2 cI cB v s H) (hd : ∀ q, mA ad2 q → ¬ xA ad q)
    (kk : ∀ (r : Int32) (u1 : SS) (H1 : Heap) (locs1 : List Loc), xI D ad cI u1 s H1 → mI D ad2 cI cB v s H1 → va_S (fun q => s.heap.size ≤ q) s.heap H1 locs1 → post r u1 → W p l e R s m args below meth c H1 locs1 cells slots Q (F0 m (pc + 3) ls (.int r :: rest))) : W p l e R s m args below meth c H locs cells slots Q (F0 m pc ls st0) :=
  va_calli hr hS (fun q _ h => hxA q h) (fun q h => hxA q h) (fun r u1 t H1 locs1 ht hvm hp hB _ hk1 hS1 => kk r u1 H1 locs1 (by have := (xG (rk := 0) (ks := 0) (kv := 0)).1 u1 t s H1 hvm.symm (by rw [← ht]; exact hB); exact this) (mI_kept hM hd hk1) hS1 hp)
theorem l_mi {post : Int32 → SS → Prop} (hr : va_Run p l e R s m args below meth c H locs cells slots 0 0 (F0 m pc ls st0) rest (va_Qi post (Po (mI D ad2 cI cB)) (mA ad2) a) (mA ad2)) (hS : va_S (fun q => s.heap.size ≤ q) s.heap H locs) (hmA : ∀ q, mA ad2 q → s.heap.size ≤ q) (hX : xI D ad cI u s H) (hd : ∀ q, mA ad2 q → ¬ xA ad q)
    (kk : ∀ (r : Int32) (v1 : SS) (H1 : Heap) (locs1 : List Loc), xI D ad cI u s H1 → mI D ad2 cI cB v1 s H1 → va_S (fun q => s.heap.size ≤ q) s.heap H1 locs1 → post r v1 → W p l e R s m args below meth c H1 locs1 cells slots Q (F0 m (pc + 3) ls (.int r :: rest))) : W p l e R s m args below meth c H locs cells slots Q (F0 m pc ls st0) :=
  va_calli hr hS (fun q _ h => hmA q h) (fun q h => hmA q h) (fun r v1 t H1 locs1 ht hvm hp hB _ hk1 hS1 => kk r v1 H1 locs1 (xI_kept hX hd hk1) (mG.1 v1 t s H1 hvm.symm (by rw [← ht]; exact hB)) hS1 hp)
theorem l_xl {post : Int64 → SS → Prop} (hr : va_Run p l e R s m args below meth c H locs cells slots 0 0 (F0 m pc ls st0) rest (va_Ql post (Po (xI D ad cI)) (xA ad) a) (xA ad)) (hS : va_S (fun q => s.heap.size ≤ q) s.heap H locs) (hxA : ∀ q, xA ad q → s.heap.size ≤ q) (hM : mI D ad2 cI cB v s H) (hd : ∀ q, mA ad2 q → ¬ xA ad q)
    (kk : ∀ (r : Int64) (u1 : SS) (H1 : Heap) (locs1 : List Loc), xI D ad cI u1 s H1 → mI D ad2 cI cB v s H1 → va_S (fun q => s.heap.size ≤ q) s.heap H1 locs1 → post r u1 → W p l e R s m args below meth c H1 locs1 cells slots Q (F0 m (pc + 3) ls (.long r :: rest))) : W p l e R s m args below meth c H locs cells slots Q (F0 m pc ls st0) :=
  va_calll hr hS (fun q _ h => hxA q h) (fun q h => hxA q h) (fun r u1 t H1 locs1 ht hvm hp hB _ hk1 hS1 => kk r u1 H1 locs1 (by have := (xG (rk := 0) (ks := 0) (kv := 0)).1 u1 t s H1 hvm.symm (by rw [← ht]; exact hB); exact this) (mI_kept hM hd hk1) hS1 hp)
theorem l_ml {post : Int64 → SS → Prop} (hr : va_Run p l e R s m args below meth c H locs cells slots 0 0 (F0 m pc ls st0) rest (va_Ql post (Po (mI D ad2 cI cB)) (mA ad2) a) (mA ad2)) (hS : va_S (fun q => s.heap.size ≤ q) s.heap H locs) (hmA : ∀ q, mA ad2 q → s.heap.size ≤ q) (hX : xI D ad cI u s H) (hd : ∀ q, mA ad2 q → ¬ xA ad q)
    (kk : ∀ (r : Int64) (v1 : SS) (H1 : Heap) (locs1 : List Loc), xI D ad cI u s H1 → mI D ad2 cI cB v1 s H1 → va_S (fun q => s.heap.size ≤ q) s.heap H1 locs1 → post r v1 → W p l e R s m args below meth c H1 locs1 cells slots Q (F0 m (pc + 3) ls (.long r :: rest))) : W p l e R s m args below meth c H locs cells slots Q (F0 m pc ls st0) :=
  va_calll hr hS (fun q _ h => hmA q h) (fun q h => hmA q h) (fun r v1 t H1 locs1 ht hvm hp hB _ hk1 hS1 => kk r v1 H1 locs1 (xI_kept hX hd hk1) (mG.1 v1 t s H1 hvm.symm (by rw [← ht]; exact hB)) hS1 hp)
end LAWC

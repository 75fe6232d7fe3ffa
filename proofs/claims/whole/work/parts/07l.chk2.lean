theorem te_0 : Cond.code (ts_mt 0).2.1 (ts_mt 0).2.2.1 (ts_mt 0).2.2.2.1 (ts_mt 0).2.2.2.2 ∈ ts_G := List.mem_filter.mpr ⟨List.mem_of_getElem? (i := 87) (by decide +kernel), rfl⟩
theorem te_1 : Cond.code (ts_mt 1).2.1 (ts_mt 1).2.2.1 (ts_mt 1).2.2.2.1 (ts_mt 1).2.2.2.2 ∈ ts_G := List.mem_filter.mpr ⟨List.mem_of_getElem? (i := 315) (by decide +kernel), rfl⟩
theorem te_2 : Cond.code (ts_mt 2).2.1 (ts_mt 2).2.2.1 (ts_mt 2).2.2.2.1 (ts_mt 2).2.2.2.2 ∈ ts_G := List.mem_filter.mpr ⟨List.mem_of_getElem? (i := 380) (by decide +kernel), rfl⟩
theorem te_3 : Cond.code (ts_mt 3).2.1 (ts_mt 3).2.2.1 (ts_mt 3).2.2.2.1 (ts_mt 3).2.2.2.2 ∈ ts_G := List.mem_filter.mpr ⟨List.mem_of_getElem? (i := 337) (by decide +kernel), rfl⟩
theorem te_4 : Cond.code (ts_mt 4).2.1 (ts_mt 4).2.2.1 (ts_mt 4).2.2.2.1 (ts_mt 4).2.2.2.2 ∈ ts_G := List.mem_filter.mpr ⟨List.mem_of_getElem? (i := 511) (by decide +kernel), rfl⟩
theorem te_5 : Cond.code (ts_mt 5).2.1 (ts_mt 5).2.2.1 (ts_mt 5).2.2.2.1 (ts_mt 5).2.2.2.2 ∈ ts_G := List.mem_filter.mpr ⟨List.mem_of_getElem? (i := 524) (by decide +kernel), rfl⟩
theorem te_6 : Cond.code (ts_mt 6).2.1 (ts_mt 6).2.2.1 (ts_mt 6).2.2.2.1 (ts_mt 6).2.2.2.2 ∈ ts_G := List.mem_filter.mpr ⟨List.mem_of_getElem? (i := 537) (by decide +kernel), rfl⟩
theorem te_7 : Cond.code (ts_mt 7).2.1 (ts_mt 7).2.2.1 (ts_mt 7).2.2.2.1 (ts_mt 7).2.2.2.2 ∈ ts_G := List.mem_filter.mpr ⟨List.mem_of_getElem? (i := 533) (by decide +kernel), rfl⟩
theorem te_8 : Cond.code (ts_mt 8).2.1 (ts_mt 8).2.2.1 (ts_mt 8).2.2.2.1 (ts_mt 8).2.2.2.2 ∈ ts_G := List.mem_filter.mpr ⟨List.mem_of_getElem? (i := 349) (by decide +kernel), rfl⟩
theorem te_9 : Cond.code (ts_mt 9).2.1 (ts_mt 9).2.2.1 (ts_mt 9).2.2.2.1 (ts_mt 9).2.2.2.2 ∈ ts_G := List.mem_filter.mpr ⟨List.mem_of_getElem? (i := 357) (by decide +kernel), rfl⟩
theorem te_10 : Cond.code (ts_mt 10).2.1 (ts_mt 10).2.2.1 (ts_mt 10).2.2.2.1 (ts_mt 10).2.2.2.2 ∈ ts_G := List.mem_filter.mpr ⟨List.mem_of_getElem? (i := 371) (by decide +kernel), rfl⟩
theorem te_11 : Cond.code (ts_mt 11).2.1 (ts_mt 11).2.2.1 (ts_mt 11).2.2.2.1 (ts_mt 11).2.2.2.2 ∈ ts_G := List.mem_filter.mpr ⟨List.mem_of_getElem? (i := 353) (by decide +kernel), rfl⟩
theorem te_12 : Cond.code (ts_mt 12).2.1 (ts_mt 12).2.2.1 (ts_mt 12).2.2.2.1 (ts_mt 12).2.2.2.2 ∈ ts_G := List.mem_filter.mpr ⟨List.mem_of_getElem? (i := 400) (by decide +kernel), rfl⟩
theorem te_13 : Cond.code (ts_mt 13).2.1 (ts_mt 13).2.2.1 (ts_mt 13).2.2.2.1 (ts_mt 13).2.2.2.2 ∈ ts_G := List.mem_filter.mpr ⟨List.mem_of_getElem? (i := 215) (by decide +kernel), rfl⟩
theorem te_14 : Cond.code (ts_mt 14).2.1 (ts_mt 14).2.2.1 (ts_mt 14).2.2.2.1 (ts_mt 14).2.2.2.2 ∈ ts_G := List.mem_filter.mpr ⟨List.mem_of_getElem? (i := 711) (by decide +kernel), rfl⟩
theorem te_15 : Cond.code (ts_mt 15).2.1 (ts_mt 15).2.2.1 (ts_mt 15).2.2.2.1 (ts_mt 15).2.2.2.2 ∈ ts_G := List.mem_filter.mpr ⟨List.mem_of_getElem? (i := 717) (by decide +kernel), rfl⟩
theorem te_16 : Cond.code (ts_mt 16).2.1 (ts_mt 16).2.2.1 (ts_mt 16).2.2.2.1 (ts_mt 16).2.2.2.2 ∈ ts_G := List.mem_filter.mpr ⟨List.mem_of_getElem? (i := 724) (by decide +kernel), rfl⟩
theorem te_17 : Cond.code (ts_mt 17).2.1 (ts_mt 17).2.2.1 (ts_mt 17).2.2.2.1 (ts_mt 17).2.2.2.2 ∈ ts_G := List.mem_filter.mpr ⟨List.mem_of_getElem? (i := 732) (by decide +kernel), rfl⟩
theorem te_18 : Cond.code (ts_mt 18).2.1 (ts_mt 18).2.2.1 (ts_mt 18).2.2.2.1 (ts_mt 18).2.2.2.2 ∈ ts_G := List.mem_filter.mpr ⟨List.mem_of_getElem? (i := 736) (by decide +kernel), rfl⟩
theorem te_19 : Cond.code (ts_mt 19).2.1 (ts_mt 19).2.2.1 (ts_mt 19).2.2.2.1 (ts_mt 19).2.2.2.2 ∈ ts_G := List.mem_filter.mpr ⟨List.mem_of_getElem? (i := 728) (by decide +kernel), rfl⟩
theorem te_20 : Cond.code (ts_mt 20).2.1 (ts_mt 20).2.2.1 (ts_mt 20).2.2.2.1 (ts_mt 20).2.2.2.2 ∈ ts_G := List.mem_filter.mpr ⟨List.mem_of_getElem? (i := 740) (by decide +kernel), rfl⟩
theorem te_21 : Cond.code (ts_mt 21).2.1 (ts_mt 21).2.2.1 (ts_mt 21).2.2.2.1 (ts_mt 21).2.2.2.2 ∈ ts_G := List.mem_filter.mpr ⟨List.mem_of_getElem? (i := 748) (by decide +kernel), rfl⟩
theorem te_22 : Cond.code (ts_mt 22).2.1 (ts_mt 22).2.2.1 (ts_mt 22).2.2.2.1 (ts_mt 22).2.2.2.2 ∈ ts_G := List.mem_filter.mpr ⟨List.mem_of_getElem? (i := 189) (by decide +kernel), rfl⟩
theorem te_23 : Cond.code (ts_mt 23).2.1 (ts_mt 23).2.2.1 (ts_mt 23).2.2.2.1 (ts_mt 23).2.2.2.2 ∈ ts_G := List.mem_filter.mpr ⟨List.mem_of_getElem? (i := 596) (by decide +kernel), rfl⟩
theorem te_24 : Cond.code (ts_mt 24).2.1 (ts_mt 24).2.2.1 (ts_mt 24).2.2.2.1 (ts_mt 24).2.2.2.2 ∈ ts_G := List.mem_filter.mpr ⟨List.mem_of_getElem? (i := 607) (by decide +kernel), rfl⟩
theorem te_25 : Cond.code (ts_mt 25).2.1 (ts_mt 25).2.2.1 (ts_mt 25).2.2.2.1 (ts_mt 25).2.2.2.2 ∈ ts_G := List.mem_filter.mpr ⟨List.mem_of_getElem? (i := 604) (by decide +kernel), rfl⟩
theorem te_26 : Cond.code (ts_mt 26).2.1 (ts_mt 26).2.2.1 (ts_mt 26).2.2.2.1 (ts_mt 26).2.2.2.2 ∈ ts_G := List.mem_filter.mpr ⟨List.mem_of_getElem? (i := 610) (by decide +kernel), rfl⟩
theorem te_27 : Cond.code (ts_mt 27).2.1 (ts_mt 27).2.2.1 (ts_mt 27).2.2.2.1 (ts_mt 27).2.2.2.2 ∈ ts_G := List.mem_filter.mpr ⟨List.mem_of_getElem? (i := 619) (by decide +kernel), rfl⟩
theorem te_28 : Cond.code (ts_mt 28).2.1 (ts_mt 28).2.2.1 (ts_mt 28).2.2.2.1 (ts_mt 28).2.2.2.2 ∈ ts_G := List.mem_filter.mpr ⟨List.mem_of_getElem? (i := 627) (by decide +kernel), rfl⟩
theorem te_29 : Cond.code (ts_mt 29).2.1 (ts_mt 29).2.2.1 (ts_mt 29).2.2.2.1 (ts_mt 29).2.2.2.2 ∈ ts_G := List.mem_filter.mpr ⟨List.mem_of_getElem? (i := 640) (by decide +kernel), rfl⟩
theorem te_30 : Cond.code (ts_mt 30).2.1 (ts_mt 30).2.2.1 (ts_mt 30).2.2.2.1 (ts_mt 30).2.2.2.2 ∈ ts_G := List.mem_filter.mpr ⟨List.mem_of_getElem? (i := 652) (by decide +kernel), rfl⟩
theorem te_31 : Cond.code (ts_mt 31).2.1 (ts_mt 31).2.2.1 (ts_mt 31).2.2.2.1 (ts_mt 31).2.2.2.2 ∈ ts_G := List.mem_filter.mpr ⟨List.mem_of_getElem? (i := 644) (by decide +kernel), rfl⟩
theorem te_32 : Cond.code (ts_mt 32).2.1 (ts_mt 32).2.2.1 (ts_mt 32).2.2.2.1 (ts_mt 32).2.2.2.2 ∈ ts_G := List.mem_filter.mpr ⟨List.mem_of_getElem? (i := 660) (by decide +kernel), rfl⟩
theorem te_33 : Cond.code (ts_mt 33).2.1 (ts_mt 33).2.2.1 (ts_mt 33).2.2.2.1 (ts_mt 33).2.2.2.2 ∈ ts_G := List.mem_filter.mpr ⟨List.mem_of_getElem? (i := 686) (by decide +kernel), rfl⟩
theorem te_34 : Cond.code (ts_mt 34).2.1 (ts_mt 34).2.2.1 (ts_mt 34).2.2.2.1 (ts_mt 34).2.2.2.2 ∈ ts_G := List.mem_filter.mpr ⟨List.mem_of_getElem? (i := 163) (by decide +kernel), rfl⟩
theorem te_35 : Cond.code (ts_mt 35).2.1 (ts_mt 35).2.2.1 (ts_mt 35).2.2.2.1 (ts_mt 35).2.2.2.2 ∈ ts_G := List.mem_filter.mpr ⟨List.mem_of_getElem? (i := 466) (by decide +kernel), rfl⟩
theorem te_36 : Cond.code (ts_mt 36).2.1 (ts_mt 36).2.2.1 (ts_mt 36).2.2.2.1 (ts_mt 36).2.2.2.2 ∈ ts_G := List.mem_filter.mpr ⟨List.mem_of_getElem? (i := 463) (by decide +kernel), rfl⟩
theorem te_37 : Cond.code (ts_mt 37).2.1 (ts_mt 37).2.2.1 (ts_mt 37).2.2.2.1 (ts_mt 37).2.2.2.2 ∈ ts_G := List.mem_filter.mpr ⟨List.mem_of_getElem? (i := 549) (by decide +kernel), rfl⟩
theorem te_38 : Cond.code (ts_mt 38).2.1 (ts_mt 38).2.2.1 (ts_mt 38).2.2.2.1 (ts_mt 38).2.2.2.2 ∈ ts_G := List.mem_filter.mpr ⟨List.mem_of_getElem? (i := 760) (by decide +kernel), rfl⟩
theorem te_39 : Cond.code (ts_mt 39).2.1 (ts_mt 39).2.2.1 (ts_mt 39).2.2.2.1 (ts_mt 39).2.2.2.2 ∈ ts_G := List.mem_filter.mpr ⟨List.mem_of_getElem? (i := 147) (by decide +kernel), rfl⟩
theorem te_40 : Cond.code (ts_mt 40).2.1 (ts_mt 40).2.2.1 (ts_mt 40).2.2.2.1 (ts_mt 40).2.2.2.2 ∈ ts_G := List.mem_filter.mpr ⟨List.mem_of_getElem? (i := 490) (by decide +kernel), rfl⟩
theorem te_41 : Cond.code (ts_mt 41).2.1 (ts_mt 41).2.2.1 (ts_mt 41).2.2.2.1 (ts_mt 41).2.2.2.2 ∈ ts_G := List.mem_filter.mpr ⟨List.mem_of_getElem? (i := 495) (by decide +kernel), rfl⟩
theorem te_42 : Cond.code (ts_mt 42).2.1 (ts_mt 42).2.2.1 (ts_mt 42).2.2.2.1 (ts_mt 42).2.2.2.2 ∈ ts_G := List.mem_filter.mpr ⟨List.mem_of_getElem? (i := 590) (by decide +kernel), rfl⟩
theorem te_43 : Cond.code (ts_mt 43).2.1 (ts_mt 43).2.2.1 (ts_mt 43).2.2.2.1 (ts_mt 43).2.2.2.2 ∈ ts_G := List.mem_filter.mpr ⟨List.mem_of_getElem? (i := 507) (by decide +kernel), rfl⟩
theorem te_44 : Cond.code (ts_mt 44).2.1 (ts_mt 44).2.2.1 (ts_mt 44).2.2.2.1 (ts_mt 44).2.2.2.2 ∈ ts_G := List.mem_filter.mpr ⟨List.mem_of_getElem? (i := 503) (by decide +kernel), rfl⟩
theorem te_45 : Cond.code (ts_mt 45).2.1 (ts_mt 45).2.2.1 (ts_mt 45).2.2.2.1 (ts_mt 45).2.2.2.2 ∈ ts_G := List.mem_filter.mpr ⟨List.mem_of_getElem? (i := 520) (by decide +kernel), rfl⟩
theorem te_46 : Cond.code (ts_mt 46).2.1 (ts_mt 46).2.2.1 (ts_mt 46).2.2.2.1 (ts_mt 46).2.2.2.2 ∈ ts_G := List.mem_filter.mpr ⟨List.mem_of_getElem? (i := 698) (by decide +kernel), rfl⟩
theorem te_47 : Cond.code (ts_mt 47).2.1 (ts_mt 47).2.2.1 (ts_mt 47).2.2.2.1 (ts_mt 47).2.2.2.2 ∈ ts_G := List.mem_filter.mpr ⟨List.mem_of_getElem? (i := 569) (by decide +kernel), rfl⟩
theorem te_48 : Cond.code (ts_mt 48).2.1 (ts_mt 48).2.2.1 (ts_mt 48).2.2.2.1 (ts_mt 48).2.2.2.2 ∈ ts_G := List.mem_filter.mpr ⟨List.mem_of_getElem? (i := 121) (by decide +kernel), rfl⟩
theorem te_49 : Cond.code (ts_mt 49).2.1 (ts_mt 49).2.2.1 (ts_mt 49).2.2.2.1 (ts_mt 49).2.2.2.2 ∈ ts_G := List.mem_filter.mpr ⟨List.mem_of_getElem? (i := 388) (by decide +kernel), rfl⟩
theorem te_50 : Cond.code (ts_mt 50).2.1 (ts_mt 50).2.2.1 (ts_mt 50).2.2.2.1 (ts_mt 50).2.2.2.2 ∈ ts_G := List.mem_filter.mpr ⟨List.mem_of_getElem? (i := 756) (by decide +kernel), rfl⟩
theorem te_51 : Cond.code (ts_mt 51).2.1 (ts_mt 51).2.2.1 (ts_mt 51).2.2.2.1 (ts_mt 51).2.2.2.2 ∈ ts_G := List.mem_filter.mpr ⟨List.mem_of_getElem? (i := 442) (by decide +kernel), rfl⟩
theorem te_52 : Cond.code (ts_mt 52).2.1 (ts_mt 52).2.2.1 (ts_mt 52).2.2.2.1 (ts_mt 52).2.2.2.2 ∈ ts_G := List.mem_filter.mpr ⟨List.mem_of_getElem? (i := 438) (by decide +kernel), rfl⟩
theorem te_53 : Cond.code (ts_mt 53).2.1 (ts_mt 53).2.2.1 (ts_mt 53).2.2.2.1 (ts_mt 53).2.2.2.2 ∈ ts_G := List.mem_filter.mpr ⟨List.mem_of_getElem? (i := 392) (by decide +kernel), rfl⟩
theorem te_54 : Cond.code (ts_mt 54).2.1 (ts_mt 54).2.2.1 (ts_mt 54).2.2.2.1 (ts_mt 54).2.2.2.2 ∈ ts_G := List.mem_filter.mpr ⟨List.mem_of_getElem? (i := 446) (by decide +kernel), rfl⟩
theorem te_55 : Cond.code (ts_mt 55).2.1 (ts_mt 55).2.2.1 (ts_mt 55).2.2.2.1 (ts_mt 55).2.2.2.2 ∈ ts_G := List.mem_filter.mpr ⟨List.mem_of_getElem? (i := 454) (by decide +kernel), rfl⟩
theorem te_56 : Cond.code (ts_mt 56).2.1 (ts_mt 56).2.2.1 (ts_mt 56).2.2.2.1 (ts_mt 56).2.2.2.2 ∈ ts_G := List.mem_filter.mpr ⟨List.mem_of_getElem? (i := 396) (by decide +kernel), rfl⟩
theorem te_57 : Cond.code (ts_mt 57).2.1 (ts_mt 57).2.2.1 (ts_mt 57).2.2.2.1 (ts_mt 57).2.2.2.2 ∈ ts_G := List.mem_filter.mpr ⟨List.mem_of_getElem? (i := 430) (by decide +kernel), rfl⟩
theorem te_58 : Cond.code (ts_mt 58).2.1 (ts_mt 58).2.2.1 (ts_mt 58).2.2.2.1 (ts_mt 58).2.2.2.2 ∈ ts_G := List.mem_filter.mpr ⟨List.mem_of_getElem? (i := 486) (by decide +kernel), rfl⟩
theorem te_59 : Cond.code (ts_mt 59).2.1 (ts_mt 59).2.2.1 (ts_mt 59).2.2.2.1 (ts_mt 59).2.2.2.2 ∈ ts_G := List.mem_filter.mpr ⟨List.mem_of_getElem? (i := 175) (by decide +kernel), rfl⟩
theorem te_60 : Cond.code (ts_mt 60).2.1 (ts_mt 60).2.2.1 (ts_mt 60).2.2.2.1 (ts_mt 60).2.2.2.2 ∈ ts_G := List.mem_filter.mpr ⟨List.mem_of_getElem? (i := 586) (by decide +kernel), rfl⟩
theorem te_61 : Cond.code (ts_mt 61).2.1 (ts_mt 61).2.2.1 (ts_mt 61).2.2.2.1 (ts_mt 61).2.2.2.2 ∈ ts_G := List.mem_filter.mpr ⟨List.mem_of_getElem? (i := 614) (by decide +kernel), rfl⟩
theorem te_62 : Cond.code (ts_mt 62).2.1 (ts_mt 62).2.2.1 (ts_mt 62).2.2.2.1 (ts_mt 62).2.2.2.2 ∈ ts_G := List.mem_filter.mpr ⟨List.mem_of_getElem? (i := 623) (by decide +kernel), rfl⟩
theorem te_63 : Cond.code (ts_mt 63).2.1 (ts_mt 63).2.2.1 (ts_mt 63).2.2.2.1 (ts_mt 63).2.2.2.2 ∈ ts_G := List.mem_filter.mpr ⟨List.mem_of_getElem? (i := 544) (by decide +kernel), rfl⟩
theorem te_64 : Cond.code (ts_mt 64).2.1 (ts_mt 64).2.2.1 (ts_mt 64).2.2.2.1 (ts_mt 64).2.2.2.2 ∈ ts_G := List.mem_filter.mpr ⟨List.mem_of_getElem? (i := 552) (by decide +kernel), rfl⟩
theorem te_65 : Cond.code (ts_mt 65).2.1 (ts_mt 65).2.2.1 (ts_mt 65).2.2.2.1 (ts_mt 65).2.2.2.2 ∈ ts_G := List.mem_filter.mpr ⟨List.mem_of_getElem? (i := 557) (by decide +kernel), rfl⟩
theorem te_66 : Cond.code (ts_mt 66).2.1 (ts_mt 66).2.2.1 (ts_mt 66).2.2.2.1 (ts_mt 66).2.2.2.2 ∈ ts_G := List.mem_filter.mpr ⟨List.mem_of_getElem? (i := 573) (by decide +kernel), rfl⟩
theorem te_67 : Cond.code (ts_mt 67).2.1 (ts_mt 67).2.2.1 (ts_mt 67).2.2.2.1 (ts_mt 67).2.2.2.2 ∈ ts_G := List.mem_filter.mpr ⟨List.mem_of_getElem? (i := 563) (by decide +kernel), rfl⟩
theorem te_68 : Cond.code (ts_mt 68).2.1 (ts_mt 68).2.2.1 (ts_mt 68).2.2.2.1 (ts_mt 68).2.2.2.2 ∈ ts_G := List.mem_filter.mpr ⟨List.mem_of_getElem? (i := 81) (by decide +kernel), rfl⟩
theorem te_69 : Cond.code (ts_mt 69).2.1 (ts_mt 69).2.2.1 (ts_mt 69).2.2.2.1 (ts_mt 69).2.2.2.2 ∈ ts_G := List.mem_filter.mpr ⟨List.mem_of_getElem? (i := 287) (by decide +kernel), rfl⟩
theorem te_70 : Cond.code (ts_mt 70).2.1 (ts_mt 70).2.2.1 (ts_mt 70).2.2.2.1 (ts_mt 70).2.2.2.2 ∈ ts_G := List.mem_filter.mpr ⟨List.mem_of_getElem? (i := 284) (by decide +kernel), rfl⟩
theorem te_71 : Cond.code (ts_mt 71).2.1 (ts_mt 71).2.2.1 (ts_mt 71).2.2.2.1 (ts_mt 71).2.2.2.2 ∈ ts_G := List.mem_filter.mpr ⟨List.mem_of_getElem? (i := 291) (by decide +kernel), rfl⟩
theorem te_72 : Cond.code (ts_mt 72).2.1 (ts_mt 72).2.2.1 (ts_mt 72).2.2.2.1 (ts_mt 72).2.2.2.2 ∈ ts_G := List.mem_filter.mpr ⟨List.mem_of_getElem? (i := 295) (by decide +kernel), rfl⟩
theorem te_73 : Cond.code (ts_mt 73).2.1 (ts_mt 73).2.2.1 (ts_mt 73).2.2.2.1 (ts_mt 73).2.2.2.2 ∈ ts_G := List.mem_filter.mpr ⟨List.mem_of_getElem? (i := 303) (by decide +kernel), rfl⟩
theorem te_74 : Cond.code (ts_mt 74).2.1 (ts_mt 74).2.2.1 (ts_mt 74).2.2.2.1 (ts_mt 74).2.2.2.2 ∈ ts_G := List.mem_filter.mpr ⟨List.mem_of_getElem? (i := 311) (by decide +kernel), rfl⟩
theorem te_75 : Cond.code (ts_mt 75).2.1 (ts_mt 75).2.2.1 (ts_mt 75).2.2.2.1 (ts_mt 75).2.2.2.2 ∈ ts_G := List.mem_filter.mpr ⟨List.mem_of_getElem? (i := 323) (by decide +kernel), rfl⟩
theorem te_76 : Cond.code (ts_mt 76).2.1 (ts_mt 76).2.2.1 (ts_mt 76).2.2.2.1 (ts_mt 76).2.2.2.2 ∈ ts_G := List.mem_filter.mpr ⟨List.mem_of_getElem? (i := 319) (by decide +kernel), rfl⟩
theorem te_77 : Cond.code (ts_mt 77).2.1 (ts_mt 77).2.2.1 (ts_mt 77).2.2.2.1 (ts_mt 77).2.2.2.2 ∈ ts_G := List.mem_filter.mpr ⟨List.mem_of_getElem? (i := 327) (by decide +kernel), rfl⟩
theorem te_78 : Cond.code (ts_mt 78).2.1 (ts_mt 78).2.2.1 (ts_mt 78).2.2.2.1 (ts_mt 78).2.2.2.2 ∈ ts_G := List.mem_filter.mpr ⟨List.mem_of_getElem? (i := 331) (by decide +kernel), rfl⟩
theorem te_79 : Cond.code (ts_mt 79).2.1 (ts_mt 79).2.2.1 (ts_mt 79).2.2.2.1 (ts_mt 79).2.2.2.2 ∈ ts_G := List.mem_filter.mpr ⟨List.mem_of_getElem? (i := 375) (by decide +kernel), rfl⟩
theorem te_80 : Cond.code (ts_mt 80).2.1 (ts_mt 80).2.2.1 (ts_mt 80).2.2.2.1 (ts_mt 80).2.2.2.2 ∈ ts_G := List.mem_filter.mpr ⟨List.mem_of_getElem? (i := 361) (by decide +kernel), rfl⟩
theorem te_81 : Cond.code (ts_mt 81).2.1 (ts_mt 81).2.2.1 (ts_mt 81).2.2.2.1 (ts_mt 81).2.2.2.2 ∈ ts_G := List.mem_filter.mpr ⟨List.mem_of_getElem? (i := 365) (by decide +kernel), rfl⟩
theorem te_82 : Cond.code (ts_mt 82).2.1 (ts_mt 82).2.2.1 (ts_mt 82).2.2.2.1 (ts_mt 82).2.2.2.2 ∈ ts_G := List.mem_filter.mpr ⟨List.mem_of_getElem? (i := 341) (by decide +kernel), rfl⟩
theorem te_83 : Cond.code (ts_mt 83).2.1 (ts_mt 83).2.2.1 (ts_mt 83).2.2.2.1 (ts_mt 83).2.2.2.2 ∈ ts_G := List.mem_filter.mpr ⟨List.mem_of_getElem? (i := 345) (by decide +kernel), rfl⟩
theorem te_84 : Cond.code (ts_mt 84).2.1 (ts_mt 84).2.2.1 (ts_mt 84).2.2.2.1 (ts_mt 84).2.2.2.2 ∈ ts_G := List.mem_filter.mpr ⟨List.mem_of_getElem? (i := 408) (by decide +kernel), rfl⟩
theorem te_85 : Cond.code (ts_mt 85).2.1 (ts_mt 85).2.2.1 (ts_mt 85).2.2.2.1 (ts_mt 85).2.2.2.2 ∈ ts_G := List.mem_filter.mpr ⟨List.mem_of_getElem? (i := 73) (by decide +kernel), rfl⟩
theorem te_86 : Cond.code (ts_mt 86).2.1 (ts_mt 86).2.2.1 (ts_mt 86).2.2.2.1 (ts_mt 86).2.2.2.2 ∈ ts_G := List.mem_filter.mpr ⟨List.mem_of_getElem? (i := 277) (by decide +kernel), rfl⟩
theorem te_87 : Cond.code (ts_mt 87).2.1 (ts_mt 87).2.2.1 (ts_mt 87).2.2.2.1 (ts_mt 87).2.2.2.2 ∈ ts_G := List.mem_filter.mpr ⟨List.mem_of_getElem? (i := 281) (by decide +kernel), rfl⟩
theorem te_88 : Cond.code (ts_mt 88).2.1 (ts_mt 88).2.2.1 (ts_mt 88).2.2.2.1 (ts_mt 88).2.2.2.2 ∈ ts_G := List.mem_filter.mpr ⟨List.mem_of_getElem? (i := 299) (by decide +kernel), rfl⟩
theorem te_89 : Cond.code (ts_mt 89).2.1 (ts_mt 89).2.2.1 (ts_mt 89).2.2.2.1 (ts_mt 89).2.2.2.2 ∈ ts_G := List.mem_filter.mpr ⟨List.mem_of_getElem? (i := 307) (by decide +kernel), rfl⟩
theorem te_90 : Cond.code (ts_mt 90).2.1 (ts_mt 90).2.2.1 (ts_mt 90).2.2.2.1 (ts_mt 90).2.2.2.2 ∈ ts_G := List.mem_filter.mpr ⟨List.mem_of_getElem? (i := 384) (by decide +kernel), rfl⟩
theorem te_91 : Cond.code (ts_mt 91).2.1 (ts_mt 91).2.2.1 (ts_mt 91).2.2.2.1 (ts_mt 91).2.2.2.2 ∈ ts_G := List.mem_filter.mpr ⟨List.mem_of_getElem? (i := 434) (by decide +kernel), rfl⟩
theorem te_92 : Cond.code (ts_mt 92).2.1 (ts_mt 92).2.2.1 (ts_mt 92).2.2.2.1 (ts_mt 92).2.2.2.2 ∈ ts_G := List.mem_filter.mpr ⟨List.mem_of_getElem? (i := 450) (by decide +kernel), rfl⟩
theorem te_93 : Cond.code (ts_mt 93).2.1 (ts_mt 93).2.2.1 (ts_mt 93).2.2.2.1 (ts_mt 93).2.2.2.2 ∈ ts_G := List.mem_filter.mpr ⟨List.mem_of_getElem? (i := 458) (by decide +kernel), rfl⟩
theorem te_94 : Cond.code (ts_mt 94).2.1 (ts_mt 94).2.2.1 (ts_mt 94).2.2.2.1 (ts_mt 94).2.2.2.2 ∈ ts_G := List.mem_filter.mpr ⟨List.mem_of_getElem? (i := 470) (by decide +kernel), rfl⟩
theorem te_95 : Cond.code (ts_mt 95).2.1 (ts_mt 95).2.2.1 (ts_mt 95).2.2.2.1 (ts_mt 95).2.2.2.2 ∈ ts_G := List.mem_filter.mpr ⟨List.mem_of_getElem? (i := 474) (by decide +kernel), rfl⟩
theorem te_96 : Cond.code (ts_mt 96).2.1 (ts_mt 96).2.2.1 (ts_mt 96).2.2.2.1 (ts_mt 96).2.2.2.2 ∈ ts_G := List.mem_filter.mpr ⟨List.mem_of_getElem? (i := 478) (by decide +kernel), rfl⟩
theorem te_97 : Cond.code (ts_mt 97).2.1 (ts_mt 97).2.2.1 (ts_mt 97).2.2.2.1 (ts_mt 97).2.2.2.2 ∈ ts_G := List.mem_filter.mpr ⟨List.mem_of_getElem? (i := 516) (by decide +kernel), rfl⟩
theorem te_98 : Cond.code (ts_mt 98).2.1 (ts_mt 98).2.2.1 (ts_mt 98).2.2.2.1 (ts_mt 98).2.2.2.2 ∈ ts_G := List.mem_filter.mpr ⟨List.mem_of_getElem? (i := 528) (by decide +kernel), rfl⟩
theorem te_99 : Cond.code (ts_mt 99).2.1 (ts_mt 99).2.2.1 (ts_mt 99).2.2.2.1 (ts_mt 99).2.2.2.2 ∈ ts_G := List.mem_filter.mpr ⟨List.mem_of_getElem? (i := 541) (by decide +kernel), rfl⟩
theorem te_100 : Cond.code (ts_mt 100).2.1 (ts_mt 100).2.2.1 (ts_mt 100).2.2.2.1 (ts_mt 100).2.2.2.2 ∈ ts_G := List.mem_filter.mpr ⟨List.mem_of_getElem? (i := 578) (by decide +kernel), rfl⟩
theorem te_101 : Cond.code (ts_mt 101).2.1 (ts_mt 101).2.2.1 (ts_mt 101).2.2.2.1 (ts_mt 101).2.2.2.2 ∈ ts_G := List.mem_filter.mpr ⟨List.mem_of_getElem? (i := 648) (by decide +kernel), rfl⟩
theorem te_102 : Cond.code (ts_mt 102).2.1 (ts_mt 102).2.2.1 (ts_mt 102).2.2.2.1 (ts_mt 102).2.2.2.2 ∈ ts_G := List.mem_filter.mpr ⟨List.mem_of_getElem? (i := 656) (by decide +kernel), rfl⟩
theorem te_103 : Cond.code (ts_mt 103).2.1 (ts_mt 103).2.2.1 (ts_mt 103).2.2.2.1 (ts_mt 103).2.2.2.2 ∈ ts_G := List.mem_filter.mpr ⟨List.mem_of_getElem? (i := 665) (by decide +kernel), rfl⟩
theorem te_104 : Cond.code (ts_mt 104).2.1 (ts_mt 104).2.2.1 (ts_mt 104).2.2.2.1 (ts_mt 104).2.2.2.2 ∈ ts_G := List.mem_filter.mpr ⟨List.mem_of_getElem? (i := 690) (by decide +kernel), rfl⟩
theorem te_105 : Cond.code (ts_mt 105).2.1 (ts_mt 105).2.2.1 (ts_mt 105).2.2.2.1 (ts_mt 105).2.2.2.2 ∈ ts_G := List.mem_filter.mpr ⟨List.mem_of_getElem? (i := 694) (by decide +kernel), rfl⟩
theorem te_106 : Cond.code (ts_mt 106).2.1 (ts_mt 106).2.2.1 (ts_mt 106).2.2.2.1 (ts_mt 106).2.2.2.2 ∈ ts_G := List.mem_filter.mpr ⟨List.mem_of_getElem? (i := 703) (by decide +kernel), rfl⟩
theorem te_107 : Cond.code (ts_mt 107).2.1 (ts_mt 107).2.2.1 (ts_mt 107).2.2.2.1 (ts_mt 107).2.2.2.2 ∈ ts_G := List.mem_filter.mpr ⟨List.mem_of_getElem? (i := 744) (by decide +kernel), rfl⟩
theorem te_108 : Cond.code (ts_mt 108).2.1 (ts_mt 108).2.2.1 (ts_mt 108).2.2.2.1 (ts_mt 108).2.2.2.2 ∈ ts_G := List.mem_filter.mpr ⟨List.mem_of_getElem? (i := 752) (by decide +kernel), rfl⟩
theorem te_109 : Cond.code (ts_mt 109).2.1 (ts_mt 109).2.2.1 (ts_mt 109).2.2.2.1 (ts_mt 109).2.2.2.2 ∈ ts_G := List.mem_filter.mpr ⟨List.mem_of_getElem? (i := 482) (by decide +kernel), rfl⟩
theorem te_110 : Cond.code (ts_mt 110).2.1 (ts_mt 110).2.2.1 (ts_mt 110).2.2.2.1 (ts_mt 110).2.2.2.2 ∈ ts_G := List.mem_filter.mpr ⟨List.mem_of_getElem? (i := 582) (by decide +kernel), rfl⟩
theorem te_111 : Cond.code (ts_mt 111).2.1 (ts_mt 111).2.2.1 (ts_mt 111).2.2.2.1 (ts_mt 111).2.2.2.2 ∈ ts_G := List.mem_filter.mpr ⟨List.mem_of_getElem? (i := 707) (by decide +kernel), rfl⟩
theorem te_112 : Cond.code (ts_mt 112).2.1 (ts_mt 112).2.2.1 (ts_mt 112).2.2.2.1 (ts_mt 112).2.2.2.2 ∈ ts_G := List.mem_filter.mpr ⟨List.mem_of_getElem? (i := 669) (by decide +kernel), rfl⟩
theorem te_113 : Cond.code (ts_mt 113).2.1 (ts_mt 113).2.2.1 (ts_mt 113).2.2.2.1 (ts_mt 113).2.2.2.2 ∈ ts_G := List.mem_filter.mpr ⟨List.mem_of_getElem? (i := 677) (by decide +kernel), rfl⟩
theorem te_114 : Cond.code (ts_mt 114).2.1 (ts_mt 114).2.2.1 (ts_mt 114).2.2.2.1 (ts_mt 114).2.2.2.2 ∈ ts_G := List.mem_filter.mpr ⟨List.mem_of_getElem? (i := 682) (by decide +kernel), rfl⟩
theorem te_115 : Cond.code (ts_mt 115).2.1 (ts_mt 115).2.2.1 (ts_mt 115).2.2.2.1 (ts_mt 115).2.2.2.2 ∈ ts_G := List.mem_filter.mpr ⟨List.mem_of_getElem? (i := 673) (by decide +kernel), rfl⟩
theorem te_116 : Cond.code (ts_mt 116).2.1 (ts_mt 116).2.2.1 (ts_mt 116).2.2.2.1 (ts_mt 116).2.2.2.2 ∈ ts_G := List.mem_filter.mpr ⟨List.mem_of_getElem? (i := 765) (by decide +kernel), rfl⟩
theorem te_117 : Cond.code (ts_mt 117).2.1 (ts_mt 117).2.2.1 (ts_mt 117).2.2.2.1 (ts_mt 117).2.2.2.2 ∈ ts_G := List.mem_filter.mpr ⟨List.mem_of_getElem? (i := 891) (by decide +kernel), rfl⟩
theorem te_118 : Cond.code (ts_mt 118).2.1 (ts_mt 118).2.2.1 (ts_mt 118).2.2.2.1 (ts_mt 118).2.2.2.2 ∈ ts_G := List.mem_filter.mpr ⟨List.mem_of_getElem? (i := 888) (by decide +kernel), rfl⟩
theorem te_119 : Cond.code (ts_mt 119).2.1 (ts_mt 119).2.2.1 (ts_mt 119).2.2.2.1 (ts_mt 119).2.2.2.2 ∈ ts_G := List.mem_filter.mpr ⟨List.mem_of_getElem? (i := 898) (by decide +kernel), rfl⟩
theorem te_120 : Cond.code (ts_mt 120).2.1 (ts_mt 120).2.2.1 (ts_mt 120).2.2.2.1 (ts_mt 120).2.2.2.2 ∈ ts_G := List.mem_filter.mpr ⟨List.mem_of_getElem? (i := 895) (by decide +kernel), rfl⟩
theorem te_121 : Cond.code (ts_mt 121).2.1 (ts_mt 121).2.2.1 (ts_mt 121).2.2.2.1 (ts_mt 121).2.2.2.2 ∈ ts_G := List.mem_filter.mpr ⟨List.mem_of_getElem? (i := 902) (by decide +kernel), rfl⟩
theorem te_122 : Cond.code (ts_mt 122).2.1 (ts_mt 122).2.2.1 (ts_mt 122).2.2.2.1 (ts_mt 122).2.2.2.2 ∈ ts_G := List.mem_filter.mpr ⟨List.mem_of_getElem? (i := 914) (by decide +kernel), rfl⟩
theorem te_123 : Cond.code (ts_mt 123).2.1 (ts_mt 123).2.2.1 (ts_mt 123).2.2.2.1 (ts_mt 123).2.2.2.2 ∈ ts_G := List.mem_filter.mpr ⟨List.mem_of_getElem? (i := 936) (by decide +kernel), rfl⟩
theorem te_124 : Cond.code (ts_mt 124).2.1 (ts_mt 124).2.2.1 (ts_mt 124).2.2.2.1 (ts_mt 124).2.2.2.2 ∈ ts_G := List.mem_filter.mpr ⟨List.mem_of_getElem? (i := 925) (by decide +kernel), rfl⟩
theorem te_125 : Cond.code (ts_mt 125).2.1 (ts_mt 125).2.2.1 (ts_mt 125).2.2.2.1 (ts_mt 125).2.2.2.2 ∈ ts_G := List.mem_filter.mpr ⟨List.mem_of_getElem? (i := 933) (by decide +kernel), rfl⟩
theorem te_126 : Cond.code (ts_mt 126).2.1 (ts_mt 126).2.2.1 (ts_mt 126).2.2.2.1 (ts_mt 126).2.2.2.2 ∈ ts_G := List.mem_filter.mpr ⟨List.mem_of_getElem? (i := 939) (by decide +kernel), rfl⟩
theorem te_127 : Cond.code (ts_mt 127).2.1 (ts_mt 127).2.2.1 (ts_mt 127).2.2.2.1 (ts_mt 127).2.2.2.2 ∈ ts_G := List.mem_filter.mpr ⟨List.mem_of_getElem? (i := 918) (by decide +kernel), rfl⟩
theorem te_128 : Cond.code (ts_mt 128).2.1 (ts_mt 128).2.2.1 (ts_mt 128).2.2.2.1 (ts_mt 128).2.2.2.2 ∈ ts_G := List.mem_filter.mpr ⟨List.mem_of_getElem? (i := 929) (by decide +kernel), rfl⟩
theorem te_129 : Cond.code (ts_mt 129).2.1 (ts_mt 129).2.2.1 (ts_mt 129).2.2.2.1 (ts_mt 129).2.2.2.2 ∈ ts_G := List.mem_filter.mpr ⟨List.mem_of_getElem? (i := 922) (by decide +kernel), rfl⟩
theorem te_130 : Cond.code (ts_mt 130).2.1 (ts_mt 130).2.2.1 (ts_mt 130).2.2.2.1 (ts_mt 130).2.2.2.2 ∈ ts_G := List.mem_filter.mpr ⟨List.mem_of_getElem? (i := 910) (by decide +kernel), rfl⟩
theorem te_131 : Cond.code (ts_mt 131).2.1 (ts_mt 131).2.2.1 (ts_mt 131).2.2.2.1 (ts_mt 131).2.2.2.2 ∈ ts_G := List.mem_filter.mpr ⟨List.mem_of_getElem? (i := 906) (by decide +kernel), rfl⟩
theorem te_132 : Cond.code (ts_mt 132).2.1 (ts_mt 132).2.2.1 (ts_mt 132).2.2.2.1 (ts_mt 132).2.2.2.2 ∈ ts_G := List.mem_filter.mpr ⟨List.mem_of_getElem? (i := 948) (by decide +kernel), rfl⟩
theorem te_133 : Cond.code (ts_mt 133).2.1 (ts_mt 133).2.2.1 (ts_mt 133).2.2.2.1 (ts_mt 133).2.2.2.2 ∈ ts_G := List.mem_filter.mpr ⟨List.mem_of_getElem? (i := 943) (by decide +kernel), rfl⟩
theorem te_134 : Cond.code (ts_mt 134).2.1 (ts_mt 134).2.2.1 (ts_mt 134).2.2.2.1 (ts_mt 134).2.2.2.2 ∈ ts_G := List.mem_filter.mpr ⟨List.mem_of_getElem? (i := 956) (by decide +kernel), rfl⟩
theorem te_135 : Cond.code (ts_mt 135).2.1 (ts_mt 135).2.2.1 (ts_mt 135).2.2.2.1 (ts_mt 135).2.2.2.2 ∈ ts_G := List.mem_filter.mpr ⟨List.mem_of_getElem? (i := 952) (by decide +kernel), rfl⟩
theorem te_136 : Cond.code (ts_mt 136).2.1 (ts_mt 136).2.2.1 (ts_mt 136).2.2.2.1 (ts_mt 136).2.2.2.2 ∈ ts_G := List.mem_filter.mpr ⟨List.mem_of_getElem? (i := 960) (by decide +kernel), rfl⟩
theorem te_137 : Cond.code (ts_mt 137).2.1 (ts_mt 137).2.2.1 (ts_mt 137).2.2.2.1 (ts_mt 137).2.2.2.2 ∈ ts_G := List.mem_filter.mpr ⟨List.mem_of_getElem? (i := 972) (by decide +kernel), rfl⟩
theorem te_138 : Cond.code (ts_mt 138).2.1 (ts_mt 138).2.2.1 (ts_mt 138).2.2.2.1 (ts_mt 138).2.2.2.2 ∈ ts_G := List.mem_filter.mpr ⟨List.mem_of_getElem? (i := 968) (by decide +kernel), rfl⟩
theorem te_139 : Cond.code (ts_mt 139).2.1 (ts_mt 139).2.2.1 (ts_mt 139).2.2.2.1 (ts_mt 139).2.2.2.2 ∈ ts_G := List.mem_filter.mpr ⟨List.mem_of_getElem? (i := 1000) (by decide +kernel), rfl⟩
theorem te_140 : Cond.code (ts_mt 140).2.1 (ts_mt 140).2.2.1 (ts_mt 140).2.2.2.1 (ts_mt 140).2.2.2.2 ∈ ts_G := List.mem_filter.mpr ⟨List.mem_of_getElem? (i := 1008) (by decide +kernel), rfl⟩
theorem te_141 : Cond.code (ts_mt 141).2.1 (ts_mt 141).2.2.1 (ts_mt 141).2.2.2.1 (ts_mt 141).2.2.2.2 ∈ ts_G := List.mem_filter.mpr ⟨List.mem_of_getElem? (i := 1012) (by decide +kernel), rfl⟩
theorem te_142 : Cond.code (ts_mt 142).2.1 (ts_mt 142).2.2.1 (ts_mt 142).2.2.2.1 (ts_mt 142).2.2.2.2 ∈ ts_G := List.mem_filter.mpr ⟨List.mem_of_getElem? (i := 1017) (by decide +kernel), rfl⟩
theorem te_143 : Cond.code (ts_mt 143).2.1 (ts_mt 143).2.2.1 (ts_mt 143).2.2.2.1 (ts_mt 143).2.2.2.2 ∈ ts_G := List.mem_filter.mpr ⟨List.mem_of_getElem? (i := 964) (by decide +kernel), rfl⟩
theorem te_144 : Cond.code (ts_mt 144).2.1 (ts_mt 144).2.2.1 (ts_mt 144).2.2.2.1 (ts_mt 144).2.2.2.2 ∈ ts_G := List.mem_filter.mpr ⟨List.mem_of_getElem? (i := 976) (by decide +kernel), rfl⟩
theorem te_145 : Cond.code (ts_mt 145).2.1 (ts_mt 145).2.2.1 (ts_mt 145).2.2.2.1 (ts_mt 145).2.2.2.2 ∈ ts_G := List.mem_filter.mpr ⟨List.mem_of_getElem? (i := 980) (by decide +kernel), rfl⟩
theorem te_146 : Cond.code (ts_mt 146).2.1 (ts_mt 146).2.2.1 (ts_mt 146).2.2.2.1 (ts_mt 146).2.2.2.2 ∈ ts_G := List.mem_filter.mpr ⟨List.mem_of_getElem? (i := 984) (by decide +kernel), rfl⟩
theorem te_147 : Cond.code (ts_mt 147).2.1 (ts_mt 147).2.2.1 (ts_mt 147).2.2.2.1 (ts_mt 147).2.2.2.2 ∈ ts_G := List.mem_filter.mpr ⟨List.mem_of_getElem? (i := 988) (by decide +kernel), rfl⟩
theorem te_148 : Cond.code (ts_mt 148).2.1 (ts_mt 148).2.2.1 (ts_mt 148).2.2.2.1 (ts_mt 148).2.2.2.2 ∈ ts_G := List.mem_filter.mpr ⟨List.mem_of_getElem? (i := 992) (by decide +kernel), rfl⟩
theorem te_149 : Cond.code (ts_mt 149).2.1 (ts_mt 149).2.2.1 (ts_mt 149).2.2.2.1 (ts_mt 149).2.2.2.2 ∈ ts_G := List.mem_filter.mpr ⟨List.mem_of_getElem? (i := 1029) (by decide +kernel), rfl⟩
theorem te_150 : Cond.code (ts_mt 150).2.1 (ts_mt 150).2.2.1 (ts_mt 150).2.2.2.1 (ts_mt 150).2.2.2.2 ∈ ts_G := List.mem_filter.mpr ⟨List.mem_of_getElem? (i := 1025) (by decide +kernel), rfl⟩
theorem te_151 : Cond.code (ts_mt 151).2.1 (ts_mt 151).2.2.1 (ts_mt 151).2.2.2.1 (ts_mt 151).2.2.2.2 ∈ ts_G := List.mem_filter.mpr ⟨List.mem_of_getElem? (i := 1021) (by decide +kernel), rfl⟩
theorem te_152 : Cond.code (ts_mt 152).2.1 (ts_mt 152).2.2.1 (ts_mt 152).2.2.2.1 (ts_mt 152).2.2.2.2 ∈ ts_G := List.mem_filter.mpr ⟨List.mem_of_getElem? (i := 1004) (by decide +kernel), rfl⟩
theorem te_153 : Cond.code (ts_mt 153).2.1 (ts_mt 153).2.2.1 (ts_mt 153).2.2.2.1 (ts_mt 153).2.2.2.2 ∈ ts_G := List.mem_filter.mpr ⟨List.mem_of_getElem? (i := 996) (by decide +kernel), rfl⟩
theorem te_154 : Cond.code (ts_mt 154).2.1 (ts_mt 154).2.2.1 (ts_mt 154).2.2.2.1 (ts_mt 154).2.2.2.2 ∈ ts_G := List.mem_filter.mpr ⟨List.mem_of_getElem? (i := 1045) (by decide +kernel), rfl⟩
theorem te_155 : Cond.code (ts_mt 155).2.1 (ts_mt 155).2.2.1 (ts_mt 155).2.2.2.1 (ts_mt 155).2.2.2.2 ∈ ts_G := List.mem_filter.mpr ⟨List.mem_of_getElem? (i := 1041) (by decide +kernel), rfl⟩
theorem te_156 : Cond.code (ts_mt 156).2.1 (ts_mt 156).2.2.1 (ts_mt 156).2.2.2.1 (ts_mt 156).2.2.2.2 ∈ ts_G := List.mem_filter.mpr ⟨List.mem_of_getElem? (i := 1037) (by decide +kernel), rfl⟩
theorem te_157 : Cond.code (ts_mt 157).2.1 (ts_mt 157).2.2.1 (ts_mt 157).2.2.2.1 (ts_mt 157).2.2.2.2 ∈ ts_G := List.mem_filter.mpr ⟨List.mem_of_getElem? (i := 1050) (by decide +kernel), rfl⟩
theorem te_158 : Cond.code (ts_mt 158).2.1 (ts_mt 158).2.2.1 (ts_mt 158).2.2.2.1 (ts_mt 158).2.2.2.2 ∈ ts_G := List.mem_filter.mpr ⟨List.mem_of_getElem? (i := 1033) (by decide +kernel), rfl⟩
theorem te_159 : Cond.code (ts_mt 159).2.1 (ts_mt 159).2.2.1 (ts_mt 159).2.2.2.1 (ts_mt 159).2.2.2.2 ∈ ts_G := List.mem_filter.mpr ⟨List.mem_of_getElem? (i := 1054) (by decide +kernel), rfl⟩
theorem te_160 : Cond.code (ts_mt 160).2.1 (ts_mt 160).2.2.1 (ts_mt 160).2.2.2.1 (ts_mt 160).2.2.2.2 ∈ ts_G := List.mem_filter.mpr ⟨List.mem_of_getElem? (i := 1058) (by decide +kernel), rfl⟩
theorem te_161 : Cond.code (ts_mt 161).2.1 (ts_mt 161).2.2.1 (ts_mt 161).2.2.2.1 (ts_mt 161).2.2.2.2 ∈ ts_G := List.mem_filter.mpr ⟨List.mem_of_getElem? (i := 1072) (by decide +kernel), rfl⟩
theorem te_162 : Cond.code (ts_mt 162).2.1 (ts_mt 162).2.2.1 (ts_mt 162).2.2.2.1 (ts_mt 162).2.2.2.2 ∈ ts_G := List.mem_filter.mpr ⟨List.mem_of_getElem? (i := 1066) (by decide +kernel), rfl⟩
theorem te_163 : Cond.code (ts_mt 163).2.1 (ts_mt 163).2.2.1 (ts_mt 163).2.2.2.1 (ts_mt 163).2.2.2.2 ∈ ts_G := List.mem_filter.mpr ⟨List.mem_of_getElem? (i := 1062) (by decide +kernel), rfl⟩
theorem te_164 : Cond.code (ts_mt 164).2.1 (ts_mt 164).2.2.1 (ts_mt 164).2.2.2.1 (ts_mt 164).2.2.2.2 ∈ ts_G := List.mem_filter.mpr ⟨List.mem_of_getElem? (i := 1076) (by decide +kernel), rfl⟩
theorem te_165 : Cond.code (ts_mt 165).2.1 (ts_mt 165).2.2.1 (ts_mt 165).2.2.2.1 (ts_mt 165).2.2.2.2 ∈ ts_G := List.mem_filter.mpr ⟨List.mem_of_getElem? (i := 1084) (by decide +kernel), rfl⟩
theorem te_166 : Cond.code (ts_mt 166).2.1 (ts_mt 166).2.2.1 (ts_mt 166).2.2.2.1 (ts_mt 166).2.2.2.2 ∈ ts_G := List.mem_filter.mpr ⟨List.mem_of_getElem? (i := 1080) (by decide +kernel), rfl⟩
theorem te_167 : Cond.code (ts_mt 167).2.1 (ts_mt 167).2.2.1 (ts_mt 167).2.2.2.1 (ts_mt 167).2.2.2.2 ∈ ts_G := List.mem_filter.mpr ⟨List.mem_of_getElem? (i := 1103) (by decide +kernel), rfl⟩
theorem te_168 : Cond.code (ts_mt 168).2.1 (ts_mt 168).2.2.1 (ts_mt 168).2.2.2.1 (ts_mt 168).2.2.2.2 ∈ ts_G := List.mem_filter.mpr ⟨List.mem_of_getElem? (i := 1100) (by decide +kernel), rfl⟩
theorem te_169 : Cond.code (ts_mt 169).2.1 (ts_mt 169).2.2.1 (ts_mt 169).2.2.2.1 (ts_mt 169).2.2.2.2 ∈ ts_G := List.mem_filter.mpr ⟨List.mem_of_getElem? (i := 1096) (by decide +kernel), rfl⟩
theorem te_170 : Cond.code (ts_mt 170).2.1 (ts_mt 170).2.2.1 (ts_mt 170).2.2.2.1 (ts_mt 170).2.2.2.2 ∈ ts_G := List.mem_filter.mpr ⟨List.mem_of_getElem? (i := 1092) (by decide +kernel), rfl⟩
theorem te_171 : Cond.code (ts_mt 171).2.1 (ts_mt 171).2.2.1 (ts_mt 171).2.2.2.1 (ts_mt 171).2.2.2.2 ∈ ts_G := List.mem_filter.mpr ⟨List.mem_of_getElem? (i := 1088) (by decide +kernel), rfl⟩
theorem te_172 : Cond.code (ts_mt 172).2.1 (ts_mt 172).2.2.1 (ts_mt 172).2.2.2.1 (ts_mt 172).2.2.2.2 ∈ ts_G := List.mem_filter.mpr ⟨List.mem_of_getElem? (i := 1108) (by decide +kernel), rfl⟩
theorem te_173 : Cond.code (ts_mt 173).2.1 (ts_mt 173).2.2.1 (ts_mt 173).2.2.2.1 (ts_mt 173).2.2.2.2 ∈ ts_G := List.mem_filter.mpr ⟨List.mem_of_getElem? (i := 1112) (by decide +kernel), rfl⟩
theorem te_174 : Cond.code (ts_mt 174).2.1 (ts_mt 174).2.2.1 (ts_mt 174).2.2.2.1 (ts_mt 174).2.2.2.2 ∈ ts_G := List.mem_filter.mpr ⟨List.mem_of_getElem? (i := 630) (by decide +kernel), rfl⟩
theorem tk_0 : ∀ j, j < 0 → ts_jok j := lt_0
theorem tk_1 : ∀ j, j < 1 → ts_jok j := lt_s tk_0 tj_0
theorem tk_2 : ∀ j, j < 2 → ts_jok j := lt_s tk_1 tj_1
theorem tk_3 : ∀ j, j < 3 → ts_jok j := lt_s tk_2 tj_2
theorem tk_4 : ∀ j, j < 4 → ts_jok j := lt_s tk_3 tj_3
theorem tk_5 : ∀ j, j < 5 → ts_jok j := lt_s tk_4 tj_4
theorem tk_6 : ∀ j, j < 6 → ts_jok j := lt_s tk_5 tj_5
theorem tk_7 : ∀ j, j < 7 → ts_jok j := lt_s tk_6 tj_6
theorem tk_8 : ∀ j, j < 8 → ts_jok j := lt_s tk_7 tj_7
theorem tk_9 : ∀ j, j < 9 → ts_jok j := lt_s tk_8 tj_8
theorem tk_10 : ∀ j, j < 10 → ts_jok j := lt_s tk_9 tj_9
theorem tk_11 : ∀ j, j < 11 → ts_jok j := lt_s tk_10 tj_10
theorem tk_12 : ∀ j, j < 12 → ts_jok j := lt_s tk_11 tj_11
theorem tk_13 : ∀ j, j < 13 → ts_jok j := lt_s tk_12 tj_12
theorem tk_14 : ∀ j, j < 14 → ts_jok j := lt_s tk_13 tj_13
theorem tk_15 : ∀ j, j < 15 → ts_jok j := lt_s tk_14 tj_14
theorem tk_16 : ∀ j, j < 16 → ts_jok j := lt_s tk_15 tj_15
theorem tk_17 : ∀ j, j < 17 → ts_jok j := lt_s tk_16 tj_16
theorem tk_18 : ∀ j, j < 18 → ts_jok j := lt_s tk_17 tj_17
theorem tk_19 : ∀ j, j < 19 → ts_jok j := lt_s tk_18 tj_18
theorem tk_20 : ∀ j, j < 20 → ts_jok j := lt_s tk_19 tj_19
theorem tk_21 : ∀ j, j < 21 → ts_jok j := lt_s tk_20 tj_20
theorem tk_22 : ∀ j, j < 22 → ts_jok j := lt_s tk_21 tj_21
theorem tk_23 : ∀ j, j < 23 → ts_jok j := lt_s tk_22 tj_22
theorem tk_24 : ∀ j, j < 24 → ts_jok j := lt_s tk_23 tj_23
theorem tk_25 : ∀ j, j < 25 → ts_jok j := lt_s tk_24 tj_24
theorem tk_26 : ∀ j, j < 26 → ts_jok j := lt_s tk_25 tj_25
theorem tk_27 : ∀ j, j < 27 → ts_jok j := lt_s tk_26 tj_26
theorem tk_28 : ∀ j, j < 28 → ts_jok j := lt_s tk_27 tj_27
theorem tk_29 : ∀ j, j < 29 → ts_jok j := lt_s tk_28 tj_28
theorem tk_30 : ∀ j, j < 30 → ts_jok j := lt_s tk_29 tj_29
theorem tk_31 : ∀ j, j < 31 → ts_jok j := lt_s tk_30 tj_30
theorem tk_32 : ∀ j, j < 32 → ts_jok j := lt_s tk_31 tj_31
theorem tk_33 : ∀ j, j < 33 → ts_jok j := lt_s tk_32 tj_32
theorem tk_34 : ∀ j, j < 34 → ts_jok j := lt_s tk_33 tj_33
theorem tk_35 : ∀ j, j < 35 → ts_jok j := lt_s tk_34 tj_34
theorem tk_36 : ∀ j, j < 36 → ts_jok j := lt_s tk_35 tj_35
theorem tk_37 : ∀ j, j < 37 → ts_jok j := lt_s tk_36 tj_36
theorem tk_38 : ∀ j, j < 38 → ts_jok j := lt_s tk_37 tj_37
theorem tk_39 : ∀ j, j < 39 → ts_jok j := lt_s tk_38 tj_38
theorem tk_40 : ∀ j, j < 40 → ts_jok j := lt_s tk_39 tj_39
theorem tk_41 : ∀ j, j < 41 → ts_jok j := lt_s tk_40 tj_40
theorem tk_42 : ∀ j, j < 42 → ts_jok j := lt_s tk_41 tj_41
theorem tk_43 : ∀ j, j < 43 → ts_jok j := lt_s tk_42 tj_42
theorem tk_44 : ∀ j, j < 44 → ts_jok j := lt_s tk_43 tj_43
theorem tk_45 : ∀ j, j < 45 → ts_jok j := lt_s tk_44 tj_44
theorem tk_46 : ∀ j, j < 46 → ts_jok j := lt_s tk_45 tj_45
theorem tk_47 : ∀ j, j < 47 → ts_jok j := lt_s tk_46 tj_46
theorem tk_48 : ∀ j, j < 48 → ts_jok j := lt_s tk_47 tj_47
theorem tk_49 : ∀ j, j < 49 → ts_jok j := lt_s tk_48 tj_48
theorem tk_50 : ∀ j, j < 50 → ts_jok j := lt_s tk_49 tj_49
theorem tk_51 : ∀ j, j < 51 → ts_jok j := lt_s tk_50 tj_50
theorem tk_52 : ∀ j, j < 52 → ts_jok j := lt_s tk_51 tj_51
theorem tk_53 : ∀ j, j < 53 → ts_jok j := lt_s tk_52 tj_52
theorem tk_54 : ∀ j, j < 54 → ts_jok j := lt_s tk_53 tj_53
theorem tk_55 : ∀ j, j < 55 → ts_jok j := lt_s tk_54 tj_54
theorem tk_56 : ∀ j, j < 56 → ts_jok j := lt_s tk_55 tj_55
theorem tk_57 : ∀ j, j < 57 → ts_jok j := lt_s tk_56 tj_56
theorem tk_58 : ∀ j, j < 58 → ts_jok j := lt_s tk_57 tj_57
theorem tk_59 : ∀ j, j < 59 → ts_jok j := lt_s tk_58 tj_58
theorem tk_60 : ∀ j, j < 60 → ts_jok j := lt_s tk_59 tj_59
theorem tk_61 : ∀ j, j < 61 → ts_jok j := lt_s tk_60 tj_60
theorem tk_62 : ∀ j, j < 62 → ts_jok j := lt_s tk_61 tj_61
theorem tk_63 : ∀ j, j < 63 → ts_jok j := lt_s tk_62 tj_62
theorem tk_64 : ∀ j, j < 64 → ts_jok j := lt_s tk_63 tj_63
theorem tk_65 : ∀ j, j < 65 → ts_jok j := lt_s tk_64 tj_64
theorem tk_66 : ∀ j, j < 66 → ts_jok j := lt_s tk_65 tj_65
theorem tk_67 : ∀ j, j < 67 → ts_jok j := lt_s tk_66 tj_66
theorem tk_68 : ∀ j, j < 68 → ts_jok j := lt_s tk_67 tj_67
theorem tk_69 : ∀ j, j < 69 → ts_jok j := lt_s tk_68 tj_68
theorem tk_70 : ∀ j, j < 70 → ts_jok j := lt_s tk_69 tj_69
theorem tk_71 : ∀ j, j < 71 → ts_jok j := lt_s tk_70 tj_70
theorem tk_72 : ∀ j, j < 72 → ts_jok j := lt_s tk_71 tj_71
theorem tk_73 : ∀ j, j < 73 → ts_jok j := lt_s tk_72 tj_72
theorem tk_74 : ∀ j, j < 74 → ts_jok j := lt_s tk_73 tj_73
theorem tk_75 : ∀ j, j < 75 → ts_jok j := lt_s tk_74 tj_74
theorem tk_76 : ∀ j, j < 76 → ts_jok j := lt_s tk_75 tj_75
theorem tk_77 : ∀ j, j < 77 → ts_jok j := lt_s tk_76 tj_76
theorem tk_78 : ∀ j, j < 78 → ts_jok j := lt_s tk_77 tj_77
theorem tk_79 : ∀ j, j < 79 → ts_jok j := lt_s tk_78 tj_78
theorem tk_80 : ∀ j, j < 80 → ts_jok j := lt_s tk_79 tj_79
theorem tk_81 : ∀ j, j < 81 → ts_jok j := lt_s tk_80 tj_80
theorem tk_82 : ∀ j, j < 82 → ts_jok j := lt_s tk_81 tj_81
theorem tk_83 : ∀ j, j < 83 → ts_jok j := lt_s tk_82 tj_82
theorem tk_84 : ∀ j, j < 84 → ts_jok j := lt_s tk_83 tj_83
theorem tk_85 : ∀ j, j < 85 → ts_jok j := lt_s tk_84 tj_84
theorem tk_86 : ∀ j, j < 86 → ts_jok j := lt_s tk_85 tj_85
theorem tk_87 : ∀ j, j < 87 → ts_jok j := lt_s tk_86 tj_86
theorem tk_88 : ∀ j, j < 88 → ts_jok j := lt_s tk_87 tj_87
theorem tk_89 : ∀ j, j < 89 → ts_jok j := lt_s tk_88 tj_88
theorem tk_90 : ∀ j, j < 90 → ts_jok j := lt_s tk_89 tj_89
theorem tk_91 : ∀ j, j < 91 → ts_jok j := lt_s tk_90 tj_90
theorem tk_92 : ∀ j, j < 92 → ts_jok j := lt_s tk_91 tj_91
theorem tk_93 : ∀ j, j < 93 → ts_jok j := lt_s tk_92 tj_92
theorem tk_94 : ∀ j, j < 94 → ts_jok j := lt_s tk_93 tj_93
theorem tk_95 : ∀ j, j < 95 → ts_jok j := lt_s tk_94 tj_94
theorem tk_96 : ∀ j, j < 96 → ts_jok j := lt_s tk_95 tj_95
theorem tk_97 : ∀ j, j < 97 → ts_jok j := lt_s tk_96 tj_96
theorem tk_98 : ∀ j, j < 98 → ts_jok j := lt_s tk_97 tj_97
theorem tk_99 : ∀ j, j < 99 → ts_jok j := lt_s tk_98 tj_98
theorem tk_100 : ∀ j, j < 100 → ts_jok j := lt_s tk_99 tj_99
theorem tk_101 : ∀ j, j < 101 → ts_jok j := lt_s tk_100 tj_100
theorem tk_102 : ∀ j, j < 102 → ts_jok j := lt_s tk_101 tj_101
theorem tk_103 : ∀ j, j < 103 → ts_jok j := lt_s tk_102 tj_102
theorem tk_104 : ∀ j, j < 104 → ts_jok j := lt_s tk_103 tj_103
theorem tk_105 : ∀ j, j < 105 → ts_jok j := lt_s tk_104 tj_104
theorem tk_106 : ∀ j, j < 106 → ts_jok j := lt_s tk_105 tj_105
theorem tk_107 : ∀ j, j < 107 → ts_jok j := lt_s tk_106 tj_106
theorem tk_108 : ∀ j, j < 108 → ts_jok j := lt_s tk_107 tj_107
theorem tk_109 : ∀ j, j < 109 → ts_jok j := lt_s tk_108 tj_108
theorem tk_110 : ∀ j, j < 110 → ts_jok j := lt_s tk_109 tj_109
theorem tk_111 : ∀ j, j < 111 → ts_jok j := lt_s tk_110 tj_110
theorem tk_112 : ∀ j, j < 112 → ts_jok j := lt_s tk_111 tj_111
theorem tk_113 : ∀ j, j < 113 → ts_jok j := lt_s tk_112 tj_112
theorem tk_114 : ∀ j, j < 114 → ts_jok j := lt_s tk_113 tj_113
theorem tk_115 : ∀ j, j < 115 → ts_jok j := lt_s tk_114 tj_114
theorem tk_116 : ∀ j, j < 116 → ts_jok j := lt_s tk_115 tj_115
theorem tk_117 : ∀ j, j < 117 → ts_jok j := lt_s tk_116 tj_116
theorem tk_118 : ∀ j, j < 118 → ts_jok j := lt_s tk_117 tj_117
theorem tk_119 : ∀ j, j < 119 → ts_jok j := lt_s tk_118 tj_118
theorem tk_120 : ∀ j, j < 120 → ts_jok j := lt_s tk_119 tj_119
theorem tk_121 : ∀ j, j < 121 → ts_jok j := lt_s tk_120 tj_120
theorem tk_122 : ∀ j, j < 122 → ts_jok j := lt_s tk_121 tj_121
theorem tk_123 : ∀ j, j < 123 → ts_jok j := lt_s tk_122 tj_122
theorem tk_124 : ∀ j, j < 124 → ts_jok j := lt_s tk_123 tj_123
theorem tk_125 : ∀ j, j < 125 → ts_jok j := lt_s tk_124 tj_124
theorem tk_126 : ∀ j, j < 126 → ts_jok j := lt_s tk_125 tj_125
theorem tk_127 : ∀ j, j < 127 → ts_jok j := lt_s tk_126 tj_126
theorem tk_128 : ∀ j, j < 128 → ts_jok j := lt_s tk_127 tj_127
theorem tk_129 : ∀ j, j < 129 → ts_jok j := lt_s tk_128 tj_128
theorem tk_130 : ∀ j, j < 130 → ts_jok j := lt_s tk_129 tj_129
theorem tk_131 : ∀ j, j < 131 → ts_jok j := lt_s tk_130 tj_130
theorem tk_132 : ∀ j, j < 132 → ts_jok j := lt_s tk_131 tj_131
theorem tk_133 : ∀ j, j < 133 → ts_jok j := lt_s tk_132 tj_132
theorem tk_134 : ∀ j, j < 134 → ts_jok j := lt_s tk_133 tj_133
theorem tk_135 : ∀ j, j < 135 → ts_jok j := lt_s tk_134 tj_134
theorem tk_136 : ∀ j, j < 136 → ts_jok j := lt_s tk_135 tj_135
theorem tk_137 : ∀ j, j < 137 → ts_jok j := lt_s tk_136 tj_136
theorem tk_138 : ∀ j, j < 138 → ts_jok j := lt_s tk_137 tj_137
theorem tk_139 : ∀ j, j < 139 → ts_jok j := lt_s tk_138 tj_138
theorem tk_140 : ∀ j, j < 140 → ts_jok j := lt_s tk_139 tj_139
theorem tk_141 : ∀ j, j < 141 → ts_jok j := lt_s tk_140 tj_140
theorem tk_142 : ∀ j, j < 142 → ts_jok j := lt_s tk_141 tj_141
theorem tk_143 : ∀ j, j < 143 → ts_jok j := lt_s tk_142 tj_142
theorem tk_144 : ∀ j, j < 144 → ts_jok j := lt_s tk_143 tj_143
theorem tk_145 : ∀ j, j < 145 → ts_jok j := lt_s tk_144 tj_144
theorem tk_146 : ∀ j, j < 146 → ts_jok j := lt_s tk_145 tj_145
theorem tk_147 : ∀ j, j < 147 → ts_jok j := lt_s tk_146 tj_146
theorem tk_148 : ∀ j, j < 148 → ts_jok j := lt_s tk_147 tj_147
theorem tk_149 : ∀ j, j < 149 → ts_jok j := lt_s tk_148 tj_148
theorem tk_150 : ∀ j, j < 150 → ts_jok j := lt_s tk_149 tj_149
theorem tk_151 : ∀ j, j < 151 → ts_jok j := lt_s tk_150 tj_150
theorem tk_152 : ∀ j, j < 152 → ts_jok j := lt_s tk_151 tj_151
theorem tk_153 : ∀ j, j < 153 → ts_jok j := lt_s tk_152 tj_152
theorem tk_154 : ∀ j, j < 154 → ts_jok j := lt_s tk_153 tj_153
theorem tk_155 : ∀ j, j < 155 → ts_jok j := lt_s tk_154 tj_154
theorem tk_156 : ∀ j, j < 156 → ts_jok j := lt_s tk_155 tj_155
theorem tk_157 : ∀ j, j < 157 → ts_jok j := lt_s tk_156 tj_156
theorem tk_158 : ∀ j, j < 158 → ts_jok j := lt_s tk_157 tj_157
theorem tk_159 : ∀ j, j < 159 → ts_jok j := lt_s tk_158 tj_158
theorem tk_160 : ∀ j, j < 160 → ts_jok j := lt_s tk_159 tj_159
theorem tk_161 : ∀ j, j < 161 → ts_jok j := lt_s tk_160 tj_160
theorem tk_162 : ∀ j, j < 162 → ts_jok j := lt_s tk_161 tj_161
theorem tk_163 : ∀ j, j < 163 → ts_jok j := lt_s tk_162 tj_162
theorem tk_164 : ∀ j, j < 164 → ts_jok j := lt_s tk_163 tj_163
theorem tk_165 : ∀ j, j < 165 → ts_jok j := lt_s tk_164 tj_164
theorem tk_166 : ∀ j, j < 166 → ts_jok j := lt_s tk_165 tj_165
theorem tk_167 : ∀ j, j < 167 → ts_jok j := lt_s tk_166 tj_166
theorem tk_168 : ∀ j, j < 168 → ts_jok j := lt_s tk_167 tj_167
theorem tk_169 : ∀ j, j < 169 → ts_jok j := lt_s tk_168 tj_168
theorem tk_170 : ∀ j, j < 170 → ts_jok j := lt_s tk_169 tj_169
theorem tk_171 : ∀ j, j < 171 → ts_jok j := lt_s tk_170 tj_170
theorem tk_172 : ∀ j, j < 172 → ts_jok j := lt_s tk_171 tj_171
theorem tk_173 : ∀ j, j < 173 → ts_jok j := lt_s tk_172 tj_172
theorem tk_174 : ∀ j, j < 174 → ts_jok j := lt_s tk_173 tj_173
theorem tk_175 : ∀ j, j < 175 → ts_jok j := lt_s tk_174 tj_174
theorem tk_176 : ∀ j, j < 176 → ts_jok j := lt_s tk_175 tj_175
theorem ts_all_ok : ∀ j, j < 176 → ts_jok j := tk_176
def ts_cin (j : Nat) : Prop := Cond.code (ts_mt j).2.1 (ts_mt j).2.2.1 (ts_mt j).2.2.2.1 (ts_mt j).2.2.2.2 ∈ ts_G
theorem tl_0 : ∀ j, j < 0 → ts_cin j := lt_0
theorem tl_1 : ∀ j, j < 1 → ts_cin j := lt_s tl_0 te_0
theorem tl_2 : ∀ j, j < 2 → ts_cin j := lt_s tl_1 te_1
theorem tl_3 : ∀ j, j < 3 → ts_cin j := lt_s tl_2 te_2
theorem tl_4 : ∀ j, j < 4 → ts_cin j := lt_s tl_3 te_3
theorem tl_5 : ∀ j, j < 5 → ts_cin j := lt_s tl_4 te_4
theorem tl_6 : ∀ j, j < 6 → ts_cin j := lt_s tl_5 te_5
theorem tl_7 : ∀ j, j < 7 → ts_cin j := lt_s tl_6 te_6
theorem tl_8 : ∀ j, j < 8 → ts_cin j := lt_s tl_7 te_7
theorem tl_9 : ∀ j, j < 9 → ts_cin j := lt_s tl_8 te_8
theorem tl_10 : ∀ j, j < 10 → ts_cin j := lt_s tl_9 te_9
theorem tl_11 : ∀ j, j < 11 → ts_cin j := lt_s tl_10 te_10
theorem tl_12 : ∀ j, j < 12 → ts_cin j := lt_s tl_11 te_11
theorem tl_13 : ∀ j, j < 13 → ts_cin j := lt_s tl_12 te_12
theorem tl_14 : ∀ j, j < 14 → ts_cin j := lt_s tl_13 te_13
theorem tl_15 : ∀ j, j < 15 → ts_cin j := lt_s tl_14 te_14
theorem tl_16 : ∀ j, j < 16 → ts_cin j := lt_s tl_15 te_15
theorem tl_17 : ∀ j, j < 17 → ts_cin j := lt_s tl_16 te_16
theorem tl_18 : ∀ j, j < 18 → ts_cin j := lt_s tl_17 te_17
theorem tl_19 : ∀ j, j < 19 → ts_cin j := lt_s tl_18 te_18
theorem tl_20 : ∀ j, j < 20 → ts_cin j := lt_s tl_19 te_19
theorem tl_21 : ∀ j, j < 21 → ts_cin j := lt_s tl_20 te_20
theorem tl_22 : ∀ j, j < 22 → ts_cin j := lt_s tl_21 te_21
theorem tl_23 : ∀ j, j < 23 → ts_cin j := lt_s tl_22 te_22
theorem tl_24 : ∀ j, j < 24 → ts_cin j := lt_s tl_23 te_23
theorem tl_25 : ∀ j, j < 25 → ts_cin j := lt_s tl_24 te_24
theorem tl_26 : ∀ j, j < 26 → ts_cin j := lt_s tl_25 te_25
theorem tl_27 : ∀ j, j < 27 → ts_cin j := lt_s tl_26 te_26
theorem tl_28 : ∀ j, j < 28 → ts_cin j := lt_s tl_27 te_27
theorem tl_29 : ∀ j, j < 29 → ts_cin j := lt_s tl_28 te_28
theorem tl_30 : ∀ j, j < 30 → ts_cin j := lt_s tl_29 te_29
theorem tl_31 : ∀ j, j < 31 → ts_cin j := lt_s tl_30 te_30
theorem tl_32 : ∀ j, j < 32 → ts_cin j := lt_s tl_31 te_31
theorem tl_33 : ∀ j, j < 33 → ts_cin j := lt_s tl_32 te_32
theorem tl_34 : ∀ j, j < 34 → ts_cin j := lt_s tl_33 te_33
theorem tl_35 : ∀ j, j < 35 → ts_cin j := lt_s tl_34 te_34
theorem tl_36 : ∀ j, j < 36 → ts_cin j := lt_s tl_35 te_35
theorem tl_37 : ∀ j, j < 37 → ts_cin j := lt_s tl_36 te_36
theorem tl_38 : ∀ j, j < 38 → ts_cin j := lt_s tl_37 te_37
theorem tl_39 : ∀ j, j < 39 → ts_cin j := lt_s tl_38 te_38
theorem tl_40 : ∀ j, j < 40 → ts_cin j := lt_s tl_39 te_39
theorem tl_41 : ∀ j, j < 41 → ts_cin j := lt_s tl_40 te_40
theorem tl_42 : ∀ j, j < 42 → ts_cin j := lt_s tl_41 te_41
theorem tl_43 : ∀ j, j < 43 → ts_cin j := lt_s tl_42 te_42
theorem tl_44 : ∀ j, j < 44 → ts_cin j := lt_s tl_43 te_43
theorem tl_45 : ∀ j, j < 45 → ts_cin j := lt_s tl_44 te_44
theorem tl_46 : ∀ j, j < 46 → ts_cin j := lt_s tl_45 te_45
theorem tl_47 : ∀ j, j < 47 → ts_cin j := lt_s tl_46 te_46
theorem tl_48 : ∀ j, j < 48 → ts_cin j := lt_s tl_47 te_47
theorem tl_49 : ∀ j, j < 49 → ts_cin j := lt_s tl_48 te_48
theorem tl_50 : ∀ j, j < 50 → ts_cin j := lt_s tl_49 te_49
theorem tl_51 : ∀ j, j < 51 → ts_cin j := lt_s tl_50 te_50
theorem tl_52 : ∀ j, j < 52 → ts_cin j := lt_s tl_51 te_51
theorem tl_53 : ∀ j, j < 53 → ts_cin j := lt_s tl_52 te_52
theorem tl_54 : ∀ j, j < 54 → ts_cin j := lt_s tl_53 te_53
theorem tl_55 : ∀ j, j < 55 → ts_cin j := lt_s tl_54 te_54
theorem tl_56 : ∀ j, j < 56 → ts_cin j := lt_s tl_55 te_55
theorem tl_57 : ∀ j, j < 57 → ts_cin j := lt_s tl_56 te_56
theorem tl_58 : ∀ j, j < 58 → ts_cin j := lt_s tl_57 te_57
theorem tl_59 : ∀ j, j < 59 → ts_cin j := lt_s tl_58 te_58
theorem tl_60 : ∀ j, j < 60 → ts_cin j := lt_s tl_59 te_59
theorem tl_61 : ∀ j, j < 61 → ts_cin j := lt_s tl_60 te_60
theorem tl_62 : ∀ j, j < 62 → ts_cin j := lt_s tl_61 te_61
theorem tl_63 : ∀ j, j < 63 → ts_cin j := lt_s tl_62 te_62
theorem tl_64 : ∀ j, j < 64 → ts_cin j := lt_s tl_63 te_63
theorem tl_65 : ∀ j, j < 65 → ts_cin j := lt_s tl_64 te_64
theorem tl_66 : ∀ j, j < 66 → ts_cin j := lt_s tl_65 te_65
theorem tl_67 : ∀ j, j < 67 → ts_cin j := lt_s tl_66 te_66
theorem tl_68 : ∀ j, j < 68 → ts_cin j := lt_s tl_67 te_67
theorem tl_69 : ∀ j, j < 69 → ts_cin j := lt_s tl_68 te_68
theorem tl_70 : ∀ j, j < 70 → ts_cin j := lt_s tl_69 te_69
theorem tl_71 : ∀ j, j < 71 → ts_cin j := lt_s tl_70 te_70
theorem tl_72 : ∀ j, j < 72 → ts_cin j := lt_s tl_71 te_71
theorem tl_73 : ∀ j, j < 73 → ts_cin j := lt_s tl_72 te_72
theorem tl_74 : ∀ j, j < 74 → ts_cin j := lt_s tl_73 te_73
theorem tl_75 : ∀ j, j < 75 → ts_cin j := lt_s tl_74 te_74
theorem tl_76 : ∀ j, j < 76 → ts_cin j := lt_s tl_75 te_75
theorem tl_77 : ∀ j, j < 77 → ts_cin j := lt_s tl_76 te_76
theorem tl_78 : ∀ j, j < 78 → ts_cin j := lt_s tl_77 te_77
theorem tl_79 : ∀ j, j < 79 → ts_cin j := lt_s tl_78 te_78
theorem tl_80 : ∀ j, j < 80 → ts_cin j := lt_s tl_79 te_79
theorem tl_81 : ∀ j, j < 81 → ts_cin j := lt_s tl_80 te_80
theorem tl_82 : ∀ j, j < 82 → ts_cin j := lt_s tl_81 te_81
theorem tl_83 : ∀ j, j < 83 → ts_cin j := lt_s tl_82 te_82
theorem tl_84 : ∀ j, j < 84 → ts_cin j := lt_s tl_83 te_83
theorem tl_85 : ∀ j, j < 85 → ts_cin j := lt_s tl_84 te_84
theorem tl_86 : ∀ j, j < 86 → ts_cin j := lt_s tl_85 te_85
theorem tl_87 : ∀ j, j < 87 → ts_cin j := lt_s tl_86 te_86
theorem tl_88 : ∀ j, j < 88 → ts_cin j := lt_s tl_87 te_87
theorem tl_89 : ∀ j, j < 89 → ts_cin j := lt_s tl_88 te_88
theorem tl_90 : ∀ j, j < 90 → ts_cin j := lt_s tl_89 te_89
theorem tl_91 : ∀ j, j < 91 → ts_cin j := lt_s tl_90 te_90
theorem tl_92 : ∀ j, j < 92 → ts_cin j := lt_s tl_91 te_91
theorem tl_93 : ∀ j, j < 93 → ts_cin j := lt_s tl_92 te_92
theorem tl_94 : ∀ j, j < 94 → ts_cin j := lt_s tl_93 te_93
theorem tl_95 : ∀ j, j < 95 → ts_cin j := lt_s tl_94 te_94
theorem tl_96 : ∀ j, j < 96 → ts_cin j := lt_s tl_95 te_95
theorem tl_97 : ∀ j, j < 97 → ts_cin j := lt_s tl_96 te_96
theorem tl_98 : ∀ j, j < 98 → ts_cin j := lt_s tl_97 te_97
theorem tl_99 : ∀ j, j < 99 → ts_cin j := lt_s tl_98 te_98
theorem tl_100 : ∀ j, j < 100 → ts_cin j := lt_s tl_99 te_99
theorem tl_101 : ∀ j, j < 101 → ts_cin j := lt_s tl_100 te_100
theorem tl_102 : ∀ j, j < 102 → ts_cin j := lt_s tl_101 te_101
theorem tl_103 : ∀ j, j < 103 → ts_cin j := lt_s tl_102 te_102
theorem tl_104 : ∀ j, j < 104 → ts_cin j := lt_s tl_103 te_103
theorem tl_105 : ∀ j, j < 105 → ts_cin j := lt_s tl_104 te_104
theorem tl_106 : ∀ j, j < 106 → ts_cin j := lt_s tl_105 te_105
theorem tl_107 : ∀ j, j < 107 → ts_cin j := lt_s tl_106 te_106
theorem tl_108 : ∀ j, j < 108 → ts_cin j := lt_s tl_107 te_107
theorem tl_109 : ∀ j, j < 109 → ts_cin j := lt_s tl_108 te_108
theorem tl_110 : ∀ j, j < 110 → ts_cin j := lt_s tl_109 te_109
theorem tl_111 : ∀ j, j < 111 → ts_cin j := lt_s tl_110 te_110
theorem tl_112 : ∀ j, j < 112 → ts_cin j := lt_s tl_111 te_111
theorem tl_113 : ∀ j, j < 113 → ts_cin j := lt_s tl_112 te_112
theorem tl_114 : ∀ j, j < 114 → ts_cin j := lt_s tl_113 te_113
theorem tl_115 : ∀ j, j < 115 → ts_cin j := lt_s tl_114 te_114
theorem tl_116 : ∀ j, j < 116 → ts_cin j := lt_s tl_115 te_115
theorem tl_117 : ∀ j, j < 117 → ts_cin j := lt_s tl_116 te_116
theorem tl_118 : ∀ j, j < 118 → ts_cin j := lt_s tl_117 te_117
theorem tl_119 : ∀ j, j < 119 → ts_cin j := lt_s tl_118 te_118
theorem tl_120 : ∀ j, j < 120 → ts_cin j := lt_s tl_119 te_119
theorem tl_121 : ∀ j, j < 121 → ts_cin j := lt_s tl_120 te_120
theorem tl_122 : ∀ j, j < 122 → ts_cin j := lt_s tl_121 te_121
theorem tl_123 : ∀ j, j < 123 → ts_cin j := lt_s tl_122 te_122
theorem tl_124 : ∀ j, j < 124 → ts_cin j := lt_s tl_123 te_123
theorem tl_125 : ∀ j, j < 125 → ts_cin j := lt_s tl_124 te_124
theorem tl_126 : ∀ j, j < 126 → ts_cin j := lt_s tl_125 te_125
theorem tl_127 : ∀ j, j < 127 → ts_cin j := lt_s tl_126 te_126
theorem tl_128 : ∀ j, j < 128 → ts_cin j := lt_s tl_127 te_127
theorem tl_129 : ∀ j, j < 129 → ts_cin j := lt_s tl_128 te_128
theorem tl_130 : ∀ j, j < 130 → ts_cin j := lt_s tl_129 te_129
theorem tl_131 : ∀ j, j < 131 → ts_cin j := lt_s tl_130 te_130
theorem tl_132 : ∀ j, j < 132 → ts_cin j := lt_s tl_131 te_131
theorem tl_133 : ∀ j, j < 133 → ts_cin j := lt_s tl_132 te_132
theorem tl_134 : ∀ j, j < 134 → ts_cin j := lt_s tl_133 te_133
theorem tl_135 : ∀ j, j < 135 → ts_cin j := lt_s tl_134 te_134
theorem tl_136 : ∀ j, j < 136 → ts_cin j := lt_s tl_135 te_135
theorem tl_137 : ∀ j, j < 137 → ts_cin j := lt_s tl_136 te_136
theorem tl_138 : ∀ j, j < 138 → ts_cin j := lt_s tl_137 te_137
theorem tl_139 : ∀ j, j < 139 → ts_cin j := lt_s tl_138 te_138
theorem tl_140 : ∀ j, j < 140 → ts_cin j := lt_s tl_139 te_139
theorem tl_141 : ∀ j, j < 141 → ts_cin j := lt_s tl_140 te_140
theorem tl_142 : ∀ j, j < 142 → ts_cin j := lt_s tl_141 te_141
theorem tl_143 : ∀ j, j < 143 → ts_cin j := lt_s tl_142 te_142
theorem tl_144 : ∀ j, j < 144 → ts_cin j := lt_s tl_143 te_143
theorem tl_145 : ∀ j, j < 145 → ts_cin j := lt_s tl_144 te_144
theorem tl_146 : ∀ j, j < 146 → ts_cin j := lt_s tl_145 te_145
theorem tl_147 : ∀ j, j < 147 → ts_cin j := lt_s tl_146 te_146
theorem tl_148 : ∀ j, j < 148 → ts_cin j := lt_s tl_147 te_147
theorem tl_149 : ∀ j, j < 149 → ts_cin j := lt_s tl_148 te_148
theorem tl_150 : ∀ j, j < 150 → ts_cin j := lt_s tl_149 te_149
theorem tl_151 : ∀ j, j < 151 → ts_cin j := lt_s tl_150 te_150
theorem tl_152 : ∀ j, j < 152 → ts_cin j := lt_s tl_151 te_151
theorem tl_153 : ∀ j, j < 153 → ts_cin j := lt_s tl_152 te_152
theorem tl_154 : ∀ j, j < 154 → ts_cin j := lt_s tl_153 te_153
theorem tl_155 : ∀ j, j < 155 → ts_cin j := lt_s tl_154 te_154
theorem tl_156 : ∀ j, j < 156 → ts_cin j := lt_s tl_155 te_155
theorem tl_157 : ∀ j, j < 157 → ts_cin j := lt_s tl_156 te_156
theorem tl_158 : ∀ j, j < 158 → ts_cin j := lt_s tl_157 te_157
theorem tl_159 : ∀ j, j < 159 → ts_cin j := lt_s tl_158 te_158
theorem tl_160 : ∀ j, j < 160 → ts_cin j := lt_s tl_159 te_159
theorem tl_161 : ∀ j, j < 161 → ts_cin j := lt_s tl_160 te_160
theorem tl_162 : ∀ j, j < 162 → ts_cin j := lt_s tl_161 te_161
theorem tl_163 : ∀ j, j < 163 → ts_cin j := lt_s tl_162 te_162
theorem tl_164 : ∀ j, j < 164 → ts_cin j := lt_s tl_163 te_163
theorem tl_165 : ∀ j, j < 165 → ts_cin j := lt_s tl_164 te_164
theorem tl_166 : ∀ j, j < 166 → ts_cin j := lt_s tl_165 te_165
theorem tl_167 : ∀ j, j < 167 → ts_cin j := lt_s tl_166 te_166
theorem tl_168 : ∀ j, j < 168 → ts_cin j := lt_s tl_167 te_167
theorem tl_169 : ∀ j, j < 169 → ts_cin j := lt_s tl_168 te_168
theorem tl_170 : ∀ j, j < 170 → ts_cin j := lt_s tl_169 te_169
theorem tl_171 : ∀ j, j < 171 → ts_cin j := lt_s tl_170 te_170
theorem tl_172 : ∀ j, j < 172 → ts_cin j := lt_s tl_171 te_171
theorem tl_173 : ∀ j, j < 173 → ts_cin j := lt_s tl_172 te_172
theorem tl_174 : ∀ j, j < 174 → ts_cin j := lt_s tl_173 te_173
theorem tl_175 : ∀ j, j < 175 → ts_cin j := lt_s tl_174 te_174
theorem ts_code_ok : ∀ j, j < 175 → Cond.code (ts_mt j).2.1 (ts_mt j).2.2.1 (ts_mt j).2.2.2.1 (ts_mt j).2.2.2.2 ∈ ts_G := tl_175

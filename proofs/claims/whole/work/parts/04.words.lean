/-- the words that every method takes along: the good ones among the tables' -/
def wsL_law : List Cond := lw_tbl.filter goodWord
theorem wb_good : GoodIn lw_tbl wsL_law := fun w h => ⟨(List.mem_filter.mp h).1, good_of_word (List.mem_filter.mp h).2⟩
theorem wb_t1 {w : Cond} (i : Nat) (hi : tables_1_1[i]? = some w) (hg : goodWord w = true) : w ∈ wsL_law := List.mem_filter.mpr ⟨List.mem_append_right _ (show w ∈ tables_1_1 ++ (tables_1_2 ++ (tables_1_3 ++ (tables_1_4 ++ tables_1_5))) from have h := List.mem_of_getElem? hi; List.mem_append_left _ h), hg⟩
theorem wb_t2 {w : Cond} (i : Nat) (hi : tables_1_2[i]? = some w) (hg : goodWord w = true) : w ∈ wsL_law := List.mem_filter.mpr ⟨List.mem_append_right _ (show w ∈ tables_1_1 ++ (tables_1_2 ++ (tables_1_3 ++ (tables_1_4 ++ tables_1_5))) from have h := List.mem_of_getElem? hi; List.mem_append_right _ (List.mem_append_left _ h)), hg⟩
theorem wb_t3 {w : Cond} (i : Nat) (hi : tables_1_3[i]? = some w) (hg : goodWord w = true) : w ∈ wsL_law := List.mem_filter.mpr ⟨List.mem_append_right _ (show w ∈ tables_1_1 ++ (tables_1_2 ++ (tables_1_3 ++ (tables_1_4 ++ tables_1_5))) from have h := List.mem_of_getElem? hi; List.mem_append_right _ (List.mem_append_right _ (List.mem_append_left _ h))), hg⟩
theorem wb_t4 {w : Cond} (i : Nat) (hi : tables_1_4[i]? = some w) (hg : goodWord w = true) : w ∈ wsL_law := List.mem_filter.mpr ⟨List.mem_append_right _ (show w ∈ tables_1_1 ++ (tables_1_2 ++ (tables_1_3 ++ (tables_1_4 ++ tables_1_5))) from have h := List.mem_of_getElem? hi; List.mem_append_right _ (List.mem_append_right _ (List.mem_append_right _ (List.mem_append_left _ h)))), hg⟩
theorem wb_t5 {w : Cond} (i : Nat) (hi : tables_1_5[i]? = some w) (hg : goodWord w = true) : w ∈ wsL_law := List.mem_filter.mpr ⟨List.mem_append_right _ (show w ∈ tables_1_1 ++ (tables_1_2 ++ (tables_1_3 ++ (tables_1_4 ++ tables_1_5))) from have h := List.mem_of_getElem? hi; List.mem_append_right _ (List.mem_append_right _ (List.mem_append_right _ (List.mem_append_right _ (h))))), hg⟩
theorem wb_p1 {w : Cond} {q : MethodName × Nat} (i : Nat) (hi : lw_privs_1[i]? = some q) (hw : Cond.selects q.1.cls q.1 q.1 = w) (hg : goodWord w = true) : w ∈ wsL_law := List.mem_filter.mpr ⟨List.mem_append_left _ (List.mem_map.mpr ⟨q, (show q ∈ lw_privs_1 ++ (lw_privs_2 ++ (lw_privs_3 ++ lw_privs_4)) from have h := List.mem_of_getElem? hi; List.mem_append_left _ h), hw⟩), hg⟩
theorem wb_p2 {w : Cond} {q : MethodName × Nat} (i : Nat) (hi : lw_privs_2[i]? = some q) (hw : Cond.selects q.1.cls q.1 q.1 = w) (hg : goodWord w = true) : w ∈ wsL_law := List.mem_filter.mpr ⟨List.mem_append_left _ (List.mem_map.mpr ⟨q, (show q ∈ lw_privs_1 ++ (lw_privs_2 ++ (lw_privs_3 ++ lw_privs_4)) from have h := List.mem_of_getElem? hi; List.mem_append_right _ (List.mem_append_left _ h)), hw⟩), hg⟩
theorem wb_p3 {w : Cond} {q : MethodName × Nat} (i : Nat) (hi : lw_privs_3[i]? = some q) (hw : Cond.selects q.1.cls q.1 q.1 = w) (hg : goodWord w = true) : w ∈ wsL_law := List.mem_filter.mpr ⟨List.mem_append_left _ (List.mem_map.mpr ⟨q, (show q ∈ lw_privs_1 ++ (lw_privs_2 ++ (lw_privs_3 ++ lw_privs_4)) from have h := List.mem_of_getElem? hi; List.mem_append_right _ (List.mem_append_right _ (List.mem_append_left _ h))), hw⟩), hg⟩
theorem wb_p4 {w : Cond} {q : MethodName × Nat} (i : Nat) (hi : lw_privs_4[i]? = some q) (hw : Cond.selects q.1.cls q.1 q.1 = w) (hg : goodWord w = true) : w ∈ wsL_law := List.mem_filter.mpr ⟨List.mem_append_left _ (List.mem_map.mpr ⟨q, (show q ∈ lw_privs_1 ++ (lw_privs_2 ++ (lw_privs_3 ++ lw_privs_4)) from have h := List.mem_of_getElem? hi; List.mem_append_right _ (List.mem_append_right _ (List.mem_append_right _ (h)))), hw⟩), hg⟩
set_option maxRecDepth 4000 in
theorem q_0 : Cond.classLink RL 7 RX11 ∈ wsL_law := wb_t1 22 rfl rfl
set_option maxRecDepth 4000 in
theorem q_1 : Cond.instantiable RX11 9 ∈ wsL_law := wb_t1 23 rfl rfl
set_option maxRecDepth 4000 in
theorem q_2 : Cond.initialized RX11 ∈ wsL_law := wb_t1 1 rfl rfl
set_option maxRecDepth 4000 in
theorem q_3 : Cond.classLink RL 10 RX12 ∈ wsL_law := wb_t4 83 rfl rfl
set_option maxRecDepth 4000 in
theorem q_4 : Cond.instantiable RX12 25 ∈ wsL_law := wb_t4 84 rfl rfl
set_option maxRecDepth 4000 in
theorem q_5 : Cond.initialized RX12 ∈ wsL_law := wb_t1 14 rfl rfl
set_option maxRecDepth 4000 in
theorem q_6 : Cond.constantLong RL 33 (4294967295) ∈ wsL_law := wb_t5 224 rfl rfl
set_option maxRecDepth 4000 in
theorem q_7 : Cond.methodLink RL 9 yX11_init ∈ wsL_law := wb_t1 24 rfl rfl
set_option maxRecDepth 4000 in
theorem q_8 : Cond.instanceMethod yX11_init ∈ wsL_law := wb_t1 25 rfl rfl
set_option maxRecDepth 4000 in
theorem q_9 : Cond.code yX11_init cX11_init 3 none ∈ wsL_law := wb_t1 26 rfl rfl
set_option maxRecDepth 4000 in
theorem q_10 : Cond.methodLink RX11 1 objectInit ∈ wsL_law := wb_t1 27 rfl rfl
set_option maxRecDepth 4000 in
theorem q_11 : Cond.instanceMethod objectInit ∈ wsL_law := wb_t1 28 rfl rfl
set_option maxRecDepth 4000 in
theorem q_12 : Cond.code objectInit ⟨#[0xb1]⟩ 1 none ∈ wsL_law := wb_t1 29 rfl rfl
set_option maxRecDepth 4000 in
theorem q_13 : Cond.classLink RX11 7 RX3 ∈ wsL_law := wb_t1 30 rfl rfl
set_option maxRecDepth 4000 in
theorem q_14 : Cond.instantiable RX3 0 ∈ wsL_law := wb_t1 32 rfl rfl
set_option maxRecDepth 4000 in
theorem q_15 : Cond.initialized RX3 ∈ wsL_law := wb_t1 2 rfl rfl
set_option maxRecDepth 4000 in
theorem q_16 : Cond.classLink RX11 10 RX10 ∈ wsL_law := wb_t1 38 rfl rfl
set_option maxRecDepth 4000 in
theorem q_17 : Cond.instantiable RX10 0 ∈ wsL_law := wb_t1 39 rfl rfl
set_option maxRecDepth 4000 in
theorem q_18 : Cond.initialized RX10 ∈ wsL_law := wb_t1 3 rfl rfl
set_option maxRecDepth 4000 in
theorem q_19 : Cond.classLink RX11 13 RX1 ∈ wsL_law := wb_t1 45 rfl rfl
set_option maxRecDepth 4000 in
theorem q_20 : Cond.instantiable RX1 0 ∈ wsL_law := wb_t1 46 rfl rfl
set_option maxRecDepth 4000 in
theorem q_21 : Cond.initialized RX1 ∈ wsL_law := wb_t1 4 rfl rfl
set_option maxRecDepth 4000 in
theorem q_22 : Cond.classLink RX11 16 RX8 ∈ wsL_law := wb_t1 52 rfl rfl
set_option maxRecDepth 4000 in
theorem q_23 : Cond.instantiable RX8 0 ∈ wsL_law := wb_t1 53 rfl rfl
set_option maxRecDepth 4000 in
theorem q_24 : Cond.initialized RX8 ∈ wsL_law := wb_t1 5 rfl rfl
set_option maxRecDepth 4000 in
theorem q_25 : Cond.classLink RX11 19 RX6 ∈ wsL_law := wb_t1 59 rfl rfl
set_option maxRecDepth 4000 in
theorem q_26 : Cond.instantiable RX6 0 ∈ wsL_law := wb_t1 60 rfl rfl
set_option maxRecDepth 4000 in
theorem q_27 : Cond.initialized RX6 ∈ wsL_law := wb_t1 6 rfl rfl
set_option maxRecDepth 4000 in
theorem q_28 : Cond.classLink RX11 22 RX7 ∈ wsL_law := wb_t1 66 rfl rfl
set_option maxRecDepth 4000 in
theorem q_29 : Cond.instantiable RX7 4 ∈ wsL_law := wb_t1 67 rfl rfl
set_option maxRecDepth 4000 in
theorem q_30 : Cond.initialized RX7 ∈ wsL_law := wb_t1 7 rfl rfl
set_option maxRecDepth 4000 in
theorem q_31 : Cond.fieldLink RX11 27 "RingShepherds" "now" "LRingShepherds$Story;" ∈ wsL_law := wb_t2 18 rfl rfl
set_option maxRecDepth 4000 in
theorem q_32 : Cond.fieldLink RX11 33 "RingShepherds" "images" "[LRingShepherds$Story;" ∈ wsL_law := wb_t2 19 rfl rfl
set_option maxRecDepth 4000 in
theorem q_33 : Cond.arrayClass .boolean ∈ wsL_law := wb_t1 186 rfl rfl
set_option maxRecDepth 4000 in
theorem q_34 : Cond.fieldLink RX11 37 "RingShepherds" "kept" "[Z" ∈ wsL_law := wb_t2 20 rfl rfl
set_option maxRecDepth 4000 in
theorem q_35 : Cond.classLink RX11 41 RX0 ∈ wsL_law := wb_t1 157 rfl rfl
set_option maxRecDepth 4000 in
theorem q_36 : Cond.instantiable RX0 8 ∈ wsL_law := wb_t1 158 rfl rfl
set_option maxRecDepth 4000 in
theorem q_37 : Cond.initialized RX0 ∈ wsL_law := wb_t1 10 rfl rfl
set_option maxRecDepth 4000 in
theorem q_38 : Cond.fieldLink RX11 43 "RingShepherds$Story" "ring" "LRingShepherds$Ring;" ∈ wsL_law := wb_t1 142 rfl rfl
set_option maxRecDepth 4000 in
theorem q_39 : Cond.classLink RX11 47 RX5 ∈ wsL_law := wb_t1 159 rfl rfl
set_option maxRecDepth 4000 in
theorem q_40 : Cond.instantiable RX5 13 ∈ wsL_law := wb_t1 73 rfl rfl
set_option maxRecDepth 4000 in
theorem q_41 : Cond.initialized RX5 ∈ wsL_law := wb_t1 8 rfl rfl
set_option maxRecDepth 4000 in
theorem q_42 : Cond.fieldLink RX11 53 "RingShepherds" "course" "LRingShepherds$Course;" ∈ wsL_law := wb_t2 21 rfl rfl
set_option maxRecDepth 4000 in
theorem q_43 : Cond.classLink RX11 57 RX9 ∈ wsL_law := wb_t1 212 rfl rfl
set_option maxRecDepth 4000 in
theorem q_44 : Cond.instantiable RX9 5 ∈ wsL_law := wb_t1 213 rfl rfl
set_option maxRecDepth 4000 in
theorem q_45 : Cond.initialized RX9 ∈ wsL_law := wb_t1 12 rfl rfl
set_option maxRecDepth 4000 in
theorem q_46 : Cond.fieldLink RX11 60 "RingShepherds" "text" "LRingShepherds$Text;" ∈ wsL_law := wb_t2 22 rfl rfl
set_option maxRecDepth 4000 in
theorem q_47 : Cond.classLink RX11 64 RX4 ∈ wsL_law := wb_t2 1 rfl rfl
set_option maxRecDepth 4000 in
theorem q_48 : Cond.instantiable RX4 3 ∈ wsL_law := wb_t2 2 rfl rfl
set_option maxRecDepth 4000 in
theorem q_49 : Cond.initialized RX4 ∈ wsL_law := wb_t1 13 rfl rfl
set_option maxRecDepth 4000 in
theorem q_50 : Cond.fieldLink RX11 69 "RingShepherds" "reader" "LRingShepherds$Reader;" ∈ wsL_law := wb_t2 23 rfl rfl
set_option maxRecDepth 4000 in
theorem q_51 : Cond.arrayClass .int ∈ wsL_law := wb_t1 139 rfl rfl
set_option maxRecDepth 4000 in
theorem q_52 : Cond.fieldLink RX11 73 "RingShepherds" "refused" "[I" ∈ wsL_law := wb_t2 24 rfl rfl
set_option maxRecDepth 4000 in
theorem q_53 : Cond.fieldLink RX11 77 "RingShepherds" "above" "J" ∈ wsL_law := wb_t2 25 rfl rfl
set_option maxRecDepth 4000 in
theorem q_54 : Cond.fieldLink RX11 81 "RingShepherds" "below" "J" ∈ wsL_law := wb_t2 26 rfl rfl
set_option maxRecDepth 4000 in
theorem q_55 : Cond.methodLink RX11 9 yX3_init ∈ wsL_law := wb_t1 33 rfl rfl
set_option maxRecDepth 4000 in
theorem q_56 : Cond.instanceMethod yX3_init ∈ wsL_law := wb_t1 34 rfl rfl
set_option maxRecDepth 4000 in
theorem q_57 : Cond.code yX3_init cX3_init 1 none ∈ wsL_law := wb_t1 35 rfl rfl
set_option maxRecDepth 4000 in
theorem q_58 : Cond.methodLink RX3 1 objectInit ∈ wsL_law := wb_t1 36 rfl rfl
set_option maxRecDepth 4000 in
theorem q_59 : Cond.methodLink RX11 12 yX10_init ∈ wsL_law := wb_t1 40 rfl rfl
set_option maxRecDepth 4000 in
theorem q_60 : Cond.instanceMethod yX10_init ∈ wsL_law := wb_t1 41 rfl rfl
set_option maxRecDepth 4000 in
theorem q_61 : Cond.code yX10_init cX10_init 1 none ∈ wsL_law := wb_t1 42 rfl rfl
set_option maxRecDepth 4000 in
theorem q_62 : Cond.methodLink RX10 1 yX3_init ∈ wsL_law := wb_t1 43 rfl rfl
set_option maxRecDepth 4000 in
theorem q_63 : Cond.methodLink RX11 15 yX1_init ∈ wsL_law := wb_t1 47 rfl rfl
set_option maxRecDepth 4000 in
theorem q_64 : Cond.instanceMethod yX1_init ∈ wsL_law := wb_t1 48 rfl rfl
set_option maxRecDepth 4000 in
theorem q_65 : Cond.code yX1_init cX1_init 1 none ∈ wsL_law := wb_t1 49 rfl rfl
set_option maxRecDepth 4000 in
theorem q_66 : Cond.methodLink RX1 1 yX3_init ∈ wsL_law := wb_t1 50 rfl rfl
set_option maxRecDepth 4000 in
theorem q_67 : Cond.methodLink RX11 18 yX8_init ∈ wsL_law := wb_t1 54 rfl rfl
set_option maxRecDepth 4000 in
theorem q_68 : Cond.instanceMethod yX8_init ∈ wsL_law := wb_t1 55 rfl rfl
set_option maxRecDepth 4000 in
theorem q_69 : Cond.code yX8_init cX8_init 1 none ∈ wsL_law := wb_t1 56 rfl rfl
set_option maxRecDepth 4000 in
theorem q_70 : Cond.methodLink RX8 1 yX10_init ∈ wsL_law := wb_t1 57 rfl rfl
set_option maxRecDepth 4000 in
theorem q_71 : Cond.methodLink RX11 21 yX6_init ∈ wsL_law := wb_t1 61 rfl rfl
set_option maxRecDepth 4000 in
theorem q_72 : Cond.instanceMethod yX6_init ∈ wsL_law := wb_t1 62 rfl rfl
set_option maxRecDepth 4000 in
theorem q_73 : Cond.code yX6_init cX6_init 1 none ∈ wsL_law := wb_t1 63 rfl rfl
set_option maxRecDepth 4000 in
theorem q_74 : Cond.methodLink RX6 1 yX3_init ∈ wsL_law := wb_t1 64 rfl rfl
set_option maxRecDepth 4000 in
theorem q_75 : Cond.methodLink RX11 24 yX7_init ∈ wsL_law := wb_t1 68 rfl rfl
set_option maxRecDepth 4000 in
theorem q_76 : Cond.instanceMethod yX7_init ∈ wsL_law := wb_t1 69 rfl rfl
set_option maxRecDepth 4000 in
theorem q_77 : Cond.code yX7_init cX7_init 3 none ∈ wsL_law := wb_t1 70 rfl rfl
set_option maxRecDepth 4000 in
theorem q_78 : Cond.methodLink RX7 3 objectInit ∈ wsL_law := wb_t1 71 rfl rfl
set_option maxRecDepth 4000 in
theorem q_79 : Cond.classLink RX7 9 RX5 ∈ wsL_law := wb_t1 72 rfl rfl
set_option maxRecDepth 4000 in
theorem q_80 : Cond.fieldLink RX7 14 "RingShepherds$Story" "ring" "LRingShepherds$Ring;" ∈ wsL_law := wb_t1 141 rfl rfl
set_option maxRecDepth 4000 in
theorem q_81 : Cond.fieldLink RX7 20 "RingShepherds$Story" "pasts" "[LRingShepherds$Ring;" ∈ wsL_law := wb_t1 143 rfl rfl
set_option maxRecDepth 4000 in
theorem q_82 : Cond.fieldLink RX7 24 "RingShepherds$Story" "newest" "I" ∈ wsL_law := wb_t1 144 rfl rfl
set_option maxRecDepth 4000 in
theorem q_83 : Cond.fieldLink RX7 28 "RingShepherds$Story" "undoable" "I" ∈ wsL_law := wb_t1 145 rfl rfl
set_option maxRecDepth 4000 in
theorem q_84 : Cond.methodLink RX7 11 yX5_init ∈ wsL_law := wb_t1 74 rfl rfl
set_option maxRecDepth 4000 in
theorem q_85 : Cond.instanceMethod yX5_init ∈ wsL_law := wb_t1 75 rfl rfl
set_option maxRecDepth 4000 in
theorem q_86 : Cond.code yX5_init cX5_init 2 none ∈ wsL_law := wb_t1 76 rfl rfl
set_option maxRecDepth 4000 in
theorem q_87 : Cond.methodLink RX5 3 objectInit ∈ wsL_law := wb_t1 77 rfl rfl
set_option maxRecDepth 4000 in
theorem q_88 : Cond.fieldLink RX5 9 "RingShepherds$Ring" "kinds" "[LRingShepherds$Plain;" ∈ wsL_law := wb_t1 85 rfl rfl
set_option maxRecDepth 4000 in
theorem q_89 : Cond.fieldLink RX5 15 "RingShepherds$Ring" "steps" "[I" ∈ wsL_law := wb_t1 86 rfl rfl
set_option maxRecDepth 4000 in
theorem q_90 : Cond.fieldLink RX5 19 "RingShepherds$Ring" "counts" "[I" ∈ wsL_law := wb_t1 90 rfl rfl
set_option maxRecDepth 4000 in
theorem q_91 : Cond.fieldLink RX5 22 "RingShepherds$Ring" "seats" "[I" ∈ wsL_law := wb_t1 93 rfl rfl
set_option maxRecDepth 4000 in
theorem q_92 : Cond.fieldLink RX5 25 "RingShepherds$Ring" "turned" "[I" ∈ wsL_law := wb_t1 94 rfl rfl
set_option maxRecDepth 4000 in
theorem q_93 : Cond.fieldLink RX5 28 "RingShepherds$Ring" "kindOf" "[I" ∈ wsL_law := wb_t1 95 rfl rfl
set_option maxRecDepth 4000 in
theorem q_94 : Cond.fieldLink RX5 31 "RingShepherds$Ring" "edgeOf" "[I" ∈ wsL_law := wb_t1 96 rfl rfl
set_option maxRecDepth 4000 in
theorem q_95 : Cond.fieldLink RX5 34 "RingShepherds$Ring" "placeOf" "[I" ∈ wsL_law := wb_t1 97 rfl rfl
set_option maxRecDepth 4000 in
theorem q_96 : Cond.fieldLink RX5 37 "RingShepherds$Ring" "stepOf" "[I" ∈ wsL_law := wb_t1 98 rfl rfl
set_option maxRecDepth 4000 in
theorem q_97 : Cond.methodLink RX5 40 yX5_begin ∈ wsL_law := wb_t1 78 rfl rfl
set_option maxRecDepth 4000 in
theorem q_98 : Cond.instanceMethod yX5_begin ∈ wsL_law := wb_t1 79 rfl rfl
set_option maxRecDepth 4000 in
theorem q_99 : Cond.selects RX5 yX5_begin yX5_begin ∈ wsL_law := wb_t1 80 rfl rfl
set_option maxRecDepth 4000 in
theorem q_100 : Cond.code yX5_begin cX5_begin 3 none ∈ wsL_law := wb_t1 81 rfl rfl
set_option maxRecDepth 4000 in
theorem q_101 : Cond.fieldLink RX5 44 "RingShepherds$Ring" "places" "I" ∈ wsL_law := wb_t1 99 rfl rfl
set_option maxRecDepth 4000 in
theorem q_102 : Cond.fieldLink RX5 48 "RingShepherds$Ring" "moons" "I" ∈ wsL_law := wb_t1 103 rfl rfl
set_option maxRecDepth 4000 in
theorem q_103 : Cond.fieldLink RX5 51 "RingShepherds$Ring" "rounds" "I" ∈ wsL_law := wb_t1 108 rfl rfl
set_option maxRecDepth 4000 in
theorem q_104 : Cond.fieldLink RX5 54 "RingShepherds$Ring" "strays" "I" ∈ wsL_law := wb_t1 110 rfl rfl
set_option maxRecDepth 4000 in
theorem q_105 : Cond.methodLink RX5 57 yJ7_fill_53178 ∈ wsL_law := wb_t1 82 rfl rfl
set_option maxRecDepth 4000 in
theorem q_106 : Cond.static yJ7_fill_53178 ∈ wsL_law := wb_t1 83 rfl rfl
set_option maxRecDepth 4000 in
theorem q_107 : Cond.initialized RJ7 ∈ wsL_law := wb_t1 9 rfl rfl
set_option maxRecDepth 4000 in
theorem q_108 : Cond.code yJ7_fill_53178 cJ7_fill_53178 4 none ∈ wsL_law := wb_t1 84 rfl rfl
set_option maxRecDepth 4000 in
theorem q_109 : Cond.methodLink RX11 49 yX5_init ∈ wsL_law := wb_t1 160 rfl rfl
set_option maxRecDepth 4000 in
theorem q_110 : Cond.methodLink RX11 50 yX0_init ∈ wsL_law := wb_t1 161 rfl rfl
set_option maxRecDepth 4000 in
theorem q_111 : Cond.instanceMethod yX0_init ∈ wsL_law := wb_t1 162 rfl rfl
set_option maxRecDepth 4000 in
theorem q_112 : Cond.code yX0_init cX0_init 3 none ∈ wsL_law := wb_t1 163 rfl rfl
set_option maxRecDepth 4000 in
theorem q_113 : Cond.methodLink RX0 3 objectInit ∈ wsL_law := wb_t1 164 rfl rfl
set_option maxRecDepth 4000 in
theorem q_114 : Cond.fieldLink RX0 9 "RingShepherds$Course" "ring" "LRingShepherds$Ring;" ∈ wsL_law := wb_t1 187 rfl rfl
set_option maxRecDepth 4000 in
theorem q_115 : Cond.fieldLink RX0 15 "RingShepherds$Course" "trial" "LRingShepherds$Ring;" ∈ wsL_law := wb_t1 188 rfl rfl
set_option maxRecDepth 4000 in
theorem q_116 : Cond.classLink RX0 18 RX2 ∈ wsL_law := wb_t1 165 rfl rfl
set_option maxRecDepth 4000 in
theorem q_117 : Cond.instantiable RX2 3 ∈ wsL_law := wb_t1 166 rfl rfl
set_option maxRecDepth 4000 in
theorem q_118 : Cond.initialized RX2 ∈ wsL_law := wb_t1 11 rfl rfl
set_option maxRecDepth 4000 in
theorem q_119 : Cond.fieldLink RX0 21 "RingShepherds$Course" "lump" "LRingShepherds$Lump;" ∈ wsL_law := wb_t1 189 rfl rfl
set_option maxRecDepth 4000 in
theorem q_120 : Cond.fieldLink RX0 25 "RingShepherds$Course" "sums" "[I" ∈ wsL_law := wb_t1 190 rfl rfl
set_option maxRecDepth 4000 in
theorem q_121 : Cond.fieldLink RX0 29 "RingShepherds$Course" "cost" "[I" ∈ wsL_law := wb_t1 191 rfl rfl
set_option maxRecDepth 4000 in
theorem q_122 : Cond.fieldLink RX0 32 "RingShepherds$Course" "costLeft" "[I" ∈ wsL_law := wb_t1 192 rfl rfl
set_option maxRecDepth 4000 in
theorem q_123 : Cond.fieldLink RX0 35 "RingShepherds$Course" "takenFrom" "[I" ∈ wsL_law := wb_t1 193 rfl rfl
set_option maxRecDepth 4000 in
theorem q_124 : Cond.fieldLink RX0 38 "RingShepherds$Course" "lossOf" "[I" ∈ wsL_law := wb_t1 194 rfl rfl
set_option maxRecDepth 4000 in
theorem q_125 : Cond.methodLink RX0 20 yX2_init ∈ wsL_law := wb_t1 167 rfl rfl
set_option maxRecDepth 4000 in
theorem q_126 : Cond.instanceMethod yX2_init ∈ wsL_law := wb_t1 168 rfl rfl
set_option maxRecDepth 4000 in
theorem q_127 : Cond.code yX2_init cX2_init 1 none ∈ wsL_law := wb_t1 169 rfl rfl
set_option maxRecDepth 4000 in
theorem q_128 : Cond.methodLink RX2 1 objectInit ∈ wsL_law := wb_t1 170 rfl rfl
set_option maxRecDepth 4000 in
theorem q_129 : Cond.methodLink RX11 59 yX9_init ∈ wsL_law := wb_t1 214 rfl rfl
set_option maxRecDepth 4000 in
theorem q_130 : Cond.instanceMethod yX9_init ∈ wsL_law := wb_t1 215 rfl rfl
set_option maxRecDepth 4000 in
theorem q_131 : Cond.code yX9_init cX9_init 1 none ∈ wsL_law := wb_t1 216 rfl rfl
set_option maxRecDepth 4000 in
theorem q_132 : Cond.methodLink RX9 3 objectInit ∈ wsL_law := wb_t1 217 rfl rfl
set_option maxRecDepth 4000 in
theorem q_133 : Cond.fieldLink RX9 9 "RingShepherds$Text" "bytes" "[I" ∈ wsL_law := wb_t1 222 rfl rfl
set_option maxRecDepth 4000 in
theorem q_134 : Cond.fieldLink RX9 15 "RingShepherds$Text" "size" "I" ∈ wsL_law := wb_t1 223 rfl rfl
set_option maxRecDepth 4000 in
theorem q_135 : Cond.methodLink RX9 19 yX9_rewind ∈ wsL_law := wb_t1 218 rfl rfl
set_option maxRecDepth 4000 in
theorem q_136 : Cond.instanceMethod yX9_rewind ∈ wsL_law := wb_t1 219 rfl rfl
set_option maxRecDepth 4000 in
theorem q_137 : Cond.selects RX9 yX9_rewind yX9_rewind ∈ wsL_law := wb_t1 220 rfl rfl
set_option maxRecDepth 4000 in
theorem q_138 : Cond.code yX9_rewind cX9_rewind 1 none ∈ wsL_law := wb_t1 221 rfl rfl
set_option maxRecDepth 4000 in
theorem q_139 : Cond.fieldLink RX9 24 "RingShepherds$Text" "token" "I" ∈ wsL_law := wb_t1 226 rfl rfl
set_option maxRecDepth 4000 in
theorem q_140 : Cond.fieldLink RX9 27 "RingShepherds$Text" "start" "I" ∈ wsL_law := wb_t1 228 rfl rfl
set_option maxRecDepth 4000 in
theorem q_141 : Cond.fieldLink RX9 30 "RingShepherds$Text" "end" "I" ∈ wsL_law := wb_t1 229 rfl rfl
set_option maxRecDepth 4000 in
theorem q_142 : Cond.methodLink RX11 66 yX4_init ∈ wsL_law := wb_t2 3 rfl rfl
set_option maxRecDepth 4000 in
theorem q_143 : Cond.instanceMethod yX4_init ∈ wsL_law := wb_t2 4 rfl rfl
set_option maxRecDepth 4000 in
theorem q_144 : Cond.code yX4_init cX4_init 3 none ∈ wsL_law := wb_t2 5 rfl rfl
set_option maxRecDepth 4000 in
theorem q_145 : Cond.methodLink RX4 3 objectInit ∈ wsL_law := wb_t2 6 rfl rfl
set_option maxRecDepth 4000 in
theorem q_146 : Cond.fieldLink RX4 9 "RingShepherds$Reader" "text" "LRingShepherds$Text;" ∈ wsL_law := wb_t2 7 rfl rfl
set_option maxRecDepth 4000 in
theorem q_147 : Cond.fieldLink RX4 15 "RingShepherds$Reader" "draft" "LRingShepherds$Ring;" ∈ wsL_law := wb_t2 8 rfl rfl
set_option maxRecDepth 4000 in
theorem q_148 : Cond.fieldLink RX4 19 "RingShepherds$Reader" "numbers" "[I" ∈ wsL_law := wb_t2 10 rfl rfl
set_option maxRecDepth 4000 in
theorem q_149 : Cond.methodLink RL 12 yX12_init ∈ wsL_law := wb_t4 85 rfl rfl
set_option maxRecDepth 4000 in
theorem q_150 : Cond.instanceMethod yX12_init ∈ wsL_law := wb_t4 86 rfl rfl
set_option maxRecDepth 4000 in
theorem q_151 : Cond.code yX12_init cX12_init 1 none ∈ wsL_law := wb_t4 87 rfl rfl
set_option maxRecDepth 4000 in
theorem q_152 : Cond.methodLink RX12 1 objectInit ∈ wsL_law := wb_t4 88 rfl rfl
set_option maxRecDepth 4000 in
theorem q_153 : Cond.fieldLink RX12 7 "RingShepherdsModel" "now" "[I" ∈ wsL_law := wb_t4 92 rfl rfl
set_option maxRecDepth 4000 in
theorem q_154 : Cond.fieldLink RX12 13 "RingShepherdsModel" "kept" "[I" ∈ wsL_law := wb_t4 93 rfl rfl
set_option maxRecDepth 4000 in
theorem q_155 : Cond.fieldLink RX12 16 "RingShepherdsModel" "isKept" "[Z" ∈ wsL_law := wb_t4 94 rfl rfl
set_option maxRecDepth 4000 in
theorem q_156 : Cond.fieldLink RX12 20 "RingShepherdsModel" "refused" "[I" ∈ wsL_law := wb_t4 95 rfl rfl
set_option maxRecDepth 4000 in
theorem q_157 : Cond.fieldLink RX12 23 "RingShepherdsModel" "below" "J" ∈ wsL_law := wb_t4 97 rfl rfl
set_option maxRecDepth 4000 in
theorem q_158 : Cond.fieldLink RX12 27 "RingShepherdsModel" "hand" "[I" ∈ wsL_law := wb_t4 98 rfl rfl
set_option maxRecDepth 4000 in
theorem q_159 : Cond.fieldLink RX12 30 "RingShepherdsModel" "then" "[I" ∈ wsL_law := wb_t4 99 rfl rfl
set_option maxRecDepth 4000 in
theorem q_160 : Cond.fieldLink RX12 33 "RingShepherdsModel" "moonAt" "[I" ∈ wsL_law := wb_t4 100 rfl rfl
set_option maxRecDepth 4000 in
theorem q_161 : Cond.fieldLink RX12 36 "RingShepherdsModel" "need" "[I" ∈ wsL_law := wb_t4 106 rfl rfl
set_option maxRecDepth 4000 in
theorem q_162 : Cond.fieldLink RX12 39 "RingShepherdsModel" "lanesThen" "[I" ∈ wsL_law := wb_t4 107 rfl rfl
set_option maxRecDepth 4000 in
theorem q_163 : Cond.fieldLink RX12 42 "RingShepherdsModel" "ahead" "[I" ∈ wsL_law := wb_t4 108 rfl rfl
set_option maxRecDepth 4000 in
theorem q_164 : Cond.fieldLink RX12 45 "RingShepherdsModel" "bytes" "[I" ∈ wsL_law := wb_t4 109 rfl rfl
set_option maxRecDepth 4000 in
theorem q_165 : Cond.fieldLink RX12 48 "RingShepherdsModel" "next" "[I" ∈ wsL_law := wb_t4 115 rfl rfl
set_option maxRecDepth 4000 in
theorem q_166 : Cond.fieldLink RX12 51 "RingShepherdsModel" "values" "[I" ∈ wsL_law := wb_t4 116 rfl rfl
set_option maxRecDepth 4000 in
theorem q_167 : Cond.methodLink RX12 54 yX12_begin ∈ wsL_law := wb_t4 89 rfl rfl
set_option maxRecDepth 4000 in
theorem q_168 : Cond.static yX12_begin ∈ wsL_law := wb_t4 90 rfl rfl
set_option maxRecDepth 4000 in
theorem q_169 : Cond.code yX12_begin cX12_begin 3 none ∈ wsL_law := wb_t4 91 rfl rfl
set_option maxRecDepth 4000 in
theorem q_170 : Cond.methodLink RL 13 yX11_ring ∈ wsL_law := wb_t2 46 rfl rfl
set_option maxRecDepth 4000 in
theorem q_171 : Cond.instanceMethod yX11_ring ∈ wsL_law := wb_t2 47 rfl rfl
set_option maxRecDepth 4000 in
theorem q_172 : Cond.selects RX11 yX11_ring yX11_ring ∈ wsL_law := wb_t2 48 rfl rfl
set_option maxRecDepth 4000 in
theorem q_173 : Cond.code yX11_ring cX11_ring 3 (some .int) ∈ wsL_law := wb_t2 49 rfl rfl
set_option maxRecDepth 4000 in
theorem q_174 : Cond.fieldLink RX11 92 "RingShepherds$Ring" "places" "I" ∈ wsL_law := wb_t1 100 rfl rfl
set_option maxRecDepth 4000 in
theorem q_175 : Cond.methodLink RX11 84 yX11_isWithin ∈ wsL_law := wb_t2 50 rfl rfl
set_option maxRecDepth 4000 in
theorem q_176 : Cond.static yX11_isWithin ∈ wsL_law := wb_t2 51 rfl rfl
set_option maxRecDepth 4000 in
theorem q_177 : Cond.code yX11_isWithin cX11_isWithin 3 (some .boolean) ∈ wsL_law := wb_t2 52 rfl rfl
set_option maxRecDepth 4000 in
theorem q_178 : Cond.methodLink RX11 88 yX11_refuse ∈ wsL_law := wb_t2 53 rfl rfl
set_option maxRecDepth 4000 in
theorem q_179 : Cond.instanceMethod yX11_refuse ∈ wsL_law := wb_t2 55 rfl rfl
theorem q_180 : Cond.selects RX11 yX11_refuse yX11_refuse ∈ wsL_law := wb_p1 (q := (⟨"RingShepherds", "refuse", "(II)I"⟩, 9)) 0 rfl rfl rfl
set_option maxRecDepth 4000 in
theorem q_181 : Cond.code yX11_refuse cX11_refuse 3 (some .int) ∈ wsL_law := wb_t2 56 rfl rfl
set_option maxRecDepth 4000 in
theorem q_182 : Cond.methodLink RX11 96 yX5_begin ∈ wsL_law := wb_t2 57 rfl rfl
set_option maxRecDepth 4000 in
theorem q_183 : Cond.methodLink RX11 100 yX7_forget ∈ wsL_law := wb_t2 58 rfl rfl
set_option maxRecDepth 4000 in
theorem q_184 : Cond.instanceMethod yX7_forget ∈ wsL_law := wb_t2 59 rfl rfl
set_option maxRecDepth 4000 in
theorem q_185 : Cond.selects RX7 yX7_forget yX7_forget ∈ wsL_law := wb_t2 60 rfl rfl
set_option maxRecDepth 4000 in
theorem q_186 : Cond.code yX7_forget cX7_forget 1 none ∈ wsL_law := wb_t2 61 rfl rfl
set_option maxRecDepth 4000 in
theorem q_187 : Cond.methodLink RL 17 yX12_ring ∈ wsL_law := wb_t4 168 rfl rfl
set_option maxRecDepth 4000 in
theorem q_188 : Cond.instanceMethod yX12_ring ∈ wsL_law := wb_t4 169 rfl rfl
set_option maxRecDepth 4000 in
theorem q_189 : Cond.selects RX12 yX12_ring yX12_ring ∈ wsL_law := wb_t4 170 rfl rfl
set_option maxRecDepth 4000 in
theorem q_190 : Cond.code yX12_ring cX12_ring 3 (some .int) ∈ wsL_law := wb_t4 171 rfl rfl
set_option maxRecDepth 4000 in
theorem q_191 : Cond.constantLong RX12 58 (4) ∈ wsL_law := wb_t4 172 rfl rfl
set_option maxRecDepth 4000 in
theorem q_192 : Cond.constantLong RX12 71 (24) ∈ wsL_law := wb_t4 173 rfl rfl
set_option maxRecDepth 4000 in
theorem q_193 : Cond.methodLink RX12 60 yX12_in ∈ wsL_law := wb_t4 174 rfl rfl
set_option maxRecDepth 4000 in
theorem q_194 : Cond.static yX12_in ∈ wsL_law := wb_t4 175 rfl rfl
set_option maxRecDepth 4000 in
theorem q_195 : Cond.code yX12_in cX12_in 6 (some .boolean) ∈ wsL_law := wb_t4 176 rfl rfl
set_option maxRecDepth 4000 in
theorem q_196 : Cond.methodLink RX12 73 yX12_bad ∈ wsL_law := wb_t4 177 rfl rfl
set_option maxRecDepth 4000 in
theorem q_197 : Cond.instanceMethod yX12_bad ∈ wsL_law := wb_t4 179 rfl rfl
theorem q_198 : Cond.selects RX12 yX12_bad yX12_bad ∈ wsL_law := wb_p2 (q := (⟨"RingShepherdsModel", "bad", "(I)I"⟩, 25)) 6 rfl rfl rfl
set_option maxRecDepth 4000 in
theorem q_199 : Cond.code yX12_bad cX12_bad 2 (some .int) ∈ wsL_law := wb_t4 180 rfl rfl
set_option maxRecDepth 4000 in
theorem q_200 : Cond.methodLink RX12 64 yX12_places ∈ wsL_law := wb_t4 181 rfl rfl
set_option maxRecDepth 4000 in
theorem q_201 : Cond.instanceMethod yX12_places ∈ wsL_law := wb_t4 183 rfl rfl
theorem q_202 : Cond.selects RX12 yX12_places yX12_places ∈ wsL_law := wb_p2 (q := (⟨"RingShepherdsModel", "places", "()I"⟩, 25)) 7 rfl rfl rfl
set_option maxRecDepth 4000 in
theorem q_203 : Cond.code yX12_places cX12_places 1 (some .int) ∈ wsL_law := wb_t4 184 rfl rfl
set_option maxRecDepth 4000 in
theorem q_204 : Cond.methodLink RL 18 yX11_step ∈ wsL_law := wb_t2 62 rfl rfl
set_option maxRecDepth 4000 in
theorem q_205 : Cond.instanceMethod yX11_step ∈ wsL_law := wb_t2 63 rfl rfl
set_option maxRecDepth 4000 in
theorem q_206 : Cond.selects RX11 yX11_step yX11_step ∈ wsL_law := wb_t2 64 rfl rfl
set_option maxRecDepth 4000 in
theorem q_207 : Cond.code yX11_step cX11_step 4 (some .int) ∈ wsL_law := wb_t2 65 rfl rfl
set_option maxRecDepth 4000 in
theorem q_208 : Cond.fieldLink RX11 107 "RingShepherds$Ring" "steps" "[I" ∈ wsL_law := wb_t1 87 rfl rfl
set_option maxRecDepth 4000 in
theorem q_209 : Cond.methodLink RX11 103 yX11_isLane ∈ wsL_law := wb_t2 66 rfl rfl
set_option maxRecDepth 4000 in
theorem q_210 : Cond.static yX11_isLane ∈ wsL_law := wb_t2 67 rfl rfl
set_option maxRecDepth 4000 in
theorem q_211 : Cond.code yX11_isLane cX11_isLane 1 (some .boolean) ∈ wsL_law := wb_t2 68 rfl rfl
set_option maxRecDepth 4000 in
theorem q_212 : Cond.methodLink RL 22 yX12_step ∈ wsL_law := wb_t4 185 rfl rfl
set_option maxRecDepth 4000 in
theorem q_213 : Cond.instanceMethod yX12_step ∈ wsL_law := wb_t4 186 rfl rfl
set_option maxRecDepth 4000 in
theorem q_214 : Cond.selects RX12 yX12_step yX12_step ∈ wsL_law := wb_t4 187 rfl rfl
set_option maxRecDepth 4000 in
theorem q_215 : Cond.code yX12_step cX12_step 4 (some .int) ∈ wsL_law := wb_t4 188 rfl rfl
set_option maxRecDepth 4000 in
theorem q_216 : Cond.constantLong RX12 81 (9) ∈ wsL_law := wb_t4 192 rfl rfl
set_option maxRecDepth 4000 in
theorem q_217 : Cond.methodLink RX12 77 yX12_isLane ∈ wsL_law := wb_t4 189 rfl rfl
set_option maxRecDepth 4000 in
theorem q_218 : Cond.static yX12_isLane ∈ wsL_law := wb_t4 190 rfl rfl
set_option maxRecDepth 4000 in
theorem q_219 : Cond.code yX12_isLane cX12_isLane 1 (some .boolean) ∈ wsL_law := wb_t4 191 rfl rfl
set_option maxRecDepth 4000 in
theorem q_220 : Cond.methodLink RL 23 yX11_lumps ∈ wsL_law := wb_t2 69 rfl rfl
set_option maxRecDepth 4000 in
theorem q_221 : Cond.instanceMethod yX11_lumps ∈ wsL_law := wb_t2 70 rfl rfl
set_option maxRecDepth 4000 in
theorem q_222 : Cond.selects RX11 yX11_lumps yX11_lumps ∈ wsL_law := wb_t2 71 rfl rfl
set_option maxRecDepth 4000 in
theorem q_223 : Cond.code yX11_lumps cX11_lumps 5 (some .int) ∈ wsL_law := wb_t2 72 rfl rfl
set_option maxRecDepth 4000 in
theorem q_224 : Cond.methodLink RX11 110 yX11_isPlace ∈ wsL_law := wb_t2 73 rfl rfl
set_option maxRecDepth 4000 in
theorem q_225 : Cond.instanceMethod yX11_isPlace ∈ wsL_law := wb_t2 75 rfl rfl
theorem q_226 : Cond.selects RX11 yX11_isPlace yX11_isPlace ∈ wsL_law := wb_p1 (q := (⟨"RingShepherds", "isPlace", "(I)Z"⟩, 9)) 1 rfl rfl rfl
set_option maxRecDepth 4000 in
theorem q_227 : Cond.code yX11_isPlace cX11_isPlace 2 (some .boolean) ∈ wsL_law := wb_t2 76 rfl rfl
set_option maxRecDepth 4000 in
theorem q_228 : Cond.methodLink RX11 113 yX5_lumpsAt ∈ wsL_law := wb_t2 77 rfl rfl
set_option maxRecDepth 4000 in
theorem q_229 : Cond.instanceMethod yX5_lumpsAt ∈ wsL_law := wb_t2 78 rfl rfl
set_option maxRecDepth 4000 in
theorem q_230 : Cond.selects RX5 yX5_lumpsAt yX5_lumpsAt ∈ wsL_law := wb_t2 79 rfl rfl
set_option maxRecDepth 4000 in
theorem q_231 : Cond.code yX5_lumpsAt cX5_lumpsAt 3 (some .int) ∈ wsL_law := wb_t2 80 rfl rfl
set_option maxRecDepth 4000 in
theorem q_232 : Cond.methodLink RX5 73 yX5_seat ∈ wsL_law := wb_t2 81 rfl rfl
set_option maxRecDepth 4000 in
theorem q_233 : Cond.instanceMethod yX5_seat ∈ wsL_law := wb_t2 83 rfl rfl
theorem q_234 : Cond.selects RX5 yX5_seat yX5_seat ∈ wsL_law := wb_p1 (q := (⟨"RingShepherds$Ring", "seat", "(II)I"⟩, 13)) 2 rfl rfl rfl
set_option maxRecDepth 4000 in
theorem q_235 : Cond.code yX5_seat cX5_seat 4 (some .int) ∈ wsL_law := wb_t2 84 rfl rfl
set_option maxRecDepth 4000 in
theorem q_236 : Cond.methodLink RX11 116 yX5_setLumps ∈ wsL_law := wb_t2 85 rfl rfl
set_option maxRecDepth 4000 in
theorem q_237 : Cond.instanceMethod yX5_setLumps ∈ wsL_law := wb_t2 86 rfl rfl
set_option maxRecDepth 4000 in
theorem q_238 : Cond.selects RX5 yX5_setLumps yX5_setLumps ∈ wsL_law := wb_t2 87 rfl rfl
set_option maxRecDepth 4000 in
theorem q_239 : Cond.code yX5_setLumps cX5_setLumps 4 none ∈ wsL_law := wb_t2 88 rfl rfl
set_option maxRecDepth 4000 in
theorem q_240 : Cond.methodLink RL 27 yX12_lumps ∈ wsL_law := wb_t4 193 rfl rfl
set_option maxRecDepth 4000 in
theorem q_241 : Cond.instanceMethod yX12_lumps ∈ wsL_law := wb_t4 194 rfl rfl
set_option maxRecDepth 4000 in
theorem q_242 : Cond.selects RX12 yX12_lumps yX12_lumps ∈ wsL_law := wb_t4 195 rfl rfl
set_option maxRecDepth 4000 in
theorem q_243 : Cond.code yX12_lumps cX12_lumps 5 (some .int) ∈ wsL_law := wb_t4 196 rfl rfl
set_option maxRecDepth 4000 in
theorem q_244 : Cond.constantLong RX12 86 (999) ∈ wsL_law := wb_t4 201 rfl rfl
set_option maxRecDepth 4000 in
theorem q_245 : Cond.methodLink RX12 83 yX12_isPlace ∈ wsL_law := wb_t4 197 rfl rfl
set_option maxRecDepth 4000 in
theorem q_246 : Cond.instanceMethod yX12_isPlace ∈ wsL_law := wb_t4 199 rfl rfl
theorem q_247 : Cond.selects RX12 yX12_isPlace yX12_isPlace ∈ wsL_law := wb_p2 (q := (⟨"RingShepherdsModel", "isPlace", "(I)Z"⟩, 25)) 8 rfl rfl rfl
set_option maxRecDepth 4000 in
theorem q_248 : Cond.code yX12_isPlace cX12_isPlace 2 (some .boolean) ∈ wsL_law := wb_t4 200 rfl rfl
set_option maxRecDepth 4000 in
theorem q_249 : Cond.methodLink RL 28 yX11_moon ∈ wsL_law := wb_t2 89 rfl rfl
set_option maxRecDepth 4000 in
theorem q_250 : Cond.instanceMethod yX11_moon ∈ wsL_law := wb_t2 90 rfl rfl
set_option maxRecDepth 4000 in
theorem q_251 : Cond.selects RX11 yX11_moon yX11_moon ∈ wsL_law := wb_t2 91 rfl rfl
set_option maxRecDepth 4000 in
theorem q_252 : Cond.code yX11_moon cX11_moon 5 (some .int) ∈ wsL_law := wb_t2 92 rfl rfl
set_option maxRecDepth 4000 in
theorem q_253 : Cond.fieldLink RX11 120 "RingShepherds$Ring" "moons" "I" ∈ wsL_law := wb_t1 106 rfl rfl
set_option maxRecDepth 4000 in
theorem q_254 : Cond.methodLink RX11 123 yX5_addMoon ∈ wsL_law := wb_t2 93 rfl rfl
set_option maxRecDepth 4000 in
theorem q_255 : Cond.instanceMethod yX5_addMoon ∈ wsL_law := wb_t2 94 rfl rfl
set_option maxRecDepth 4000 in
theorem q_256 : Cond.selects RX5 yX5_addMoon yX5_addMoon ∈ wsL_law := wb_t2 95 rfl rfl
set_option maxRecDepth 4000 in
theorem q_257 : Cond.code yX5_addMoon cX5_addMoon 5 (some .int) ∈ wsL_law := wb_t2 96 rfl rfl
set_option maxRecDepth 4000 in
theorem q_258 : Cond.methodLink RL 32 yX12_moon ∈ wsL_law := wb_t4 202 rfl rfl
set_option maxRecDepth 4000 in
theorem q_259 : Cond.instanceMethod yX12_moon ∈ wsL_law := wb_t4 203 rfl rfl
set_option maxRecDepth 4000 in
theorem q_260 : Cond.selects RX12 yX12_moon yX12_moon ∈ wsL_law := wb_t4 204 rfl rfl
set_option maxRecDepth 4000 in
theorem q_261 : Cond.code yX12_moon cX12_moon 5 (some .int) ∈ wsL_law := wb_t4 205 rfl rfl
set_option maxRecDepth 4000 in
theorem q_262 : Cond.constantLong RX12 88 (5) ∈ wsL_law := wb_t4 206 rfl rfl
set_option maxRecDepth 4000 in
theorem q_263 : Cond.methodLink RX12 68 yX12_moons ∈ wsL_law := wb_t4 207 rfl rfl
set_option maxRecDepth 4000 in
theorem q_264 : Cond.instanceMethod yX12_moons ∈ wsL_law := wb_t4 209 rfl rfl
theorem q_265 : Cond.selects RX12 yX12_moons yX12_moons ∈ wsL_law := wb_p2 (q := (⟨"RingShepherdsModel", "moons", "()I"⟩, 25)) 9 rfl rfl rfl
set_option maxRecDepth 4000 in
theorem q_266 : Cond.code yX12_moons cX12_moons 1 (some .int) ∈ wsL_law := wb_t4 210 rfl rfl
set_option maxRecDepth 4000 in
theorem q_267 : Cond.methodLink RX12 90 yX12_full ∈ wsL_law := wb_t4 211 rfl rfl
set_option maxRecDepth 4000 in
theorem q_268 : Cond.instanceMethod yX12_full ∈ wsL_law := wb_t4 213 rfl rfl
theorem q_269 : Cond.selects RX12 yX12_full yX12_full ∈ wsL_law := wb_p2 (q := (⟨"RingShepherdsModel", "full", "()I"⟩, 25)) 10 rfl rfl rfl
set_option maxRecDepth 4000 in
theorem q_270 : Cond.code yX12_full cX12_full 1 (some .int) ∈ wsL_law := wb_t4 214 rfl rfl
set_option maxRecDepth 4000 in
theorem q_271 : Cond.methodLink RX12 93 yX12_layMoon ∈ wsL_law := wb_t4 215 rfl rfl
set_option maxRecDepth 4000 in
theorem q_272 : Cond.static yX12_layMoon ∈ wsL_law := wb_t4 216 rfl rfl
set_option maxRecDepth 4000 in
theorem q_273 : Cond.code yX12_layMoon cX12_layMoon 6 none ∈ wsL_law := wb_t4 217 rfl rfl
set_option maxRecDepth 4000 in
theorem q_274 : Cond.methodLink RL 35 yX11_type ∈ wsL_law := wb_t2 97 rfl rfl
set_option maxRecDepth 4000 in
theorem q_275 : Cond.instanceMethod yX11_type ∈ wsL_law := wb_t2 98 rfl rfl
set_option maxRecDepth 4000 in
theorem q_276 : Cond.selects RX11 yX11_type yX11_type ∈ wsL_law := wb_t2 99 rfl rfl
set_option maxRecDepth 4000 in
theorem q_277 : Cond.code yX11_type cX11_type 4 (some .int) ∈ wsL_law := wb_t2 100 rfl rfl
set_option maxRecDepth 4000 in
theorem q_278 : Cond.fieldLink RX11 127 "RingShepherds$Text" "size" "I" ∈ wsL_law := wb_t1 224 rfl rfl
set_option maxRecDepth 4000 in
theorem q_279 : Cond.methodLink RX11 130 yX9_add ∈ wsL_law := wb_t2 101 rfl rfl
set_option maxRecDepth 4000 in
theorem q_280 : Cond.instanceMethod yX9_add ∈ wsL_law := wb_t2 102 rfl rfl
set_option maxRecDepth 4000 in
theorem q_281 : Cond.selects RX9 yX9_add yX9_add ∈ wsL_law := wb_t2 103 rfl rfl
set_option maxRecDepth 4000 in
theorem q_282 : Cond.code yX9_add cX9_add 5 none ∈ wsL_law := wb_t2 104 rfl rfl
set_option maxRecDepth 4000 in
theorem q_283 : Cond.constantLong RX9 22 (255) ∈ wsL_law := wb_t2 105 rfl rfl
set_option maxRecDepth 4000 in
theorem q_284 : Cond.methodLink RL 39 yX12_type ∈ wsL_law := wb_t5 138 rfl rfl
set_option maxRecDepth 4000 in
theorem q_285 : Cond.instanceMethod yX12_type ∈ wsL_law := wb_t5 139 rfl rfl
set_option maxRecDepth 4000 in
theorem q_286 : Cond.selects RX12 yX12_type yX12_type ∈ wsL_law := wb_t5 140 rfl rfl
set_option maxRecDepth 4000 in
theorem q_287 : Cond.code yX12_type cX12_type 5 (some .int) ∈ wsL_law := wb_t5 141 rfl rfl
set_option maxRecDepth 4000 in
theorem q_288 : Cond.constantLong RX12 212 (8) ∈ wsL_law := wb_t5 142 rfl rfl
set_option maxRecDepth 4000 in
theorem q_289 : Cond.fieldLink RX12 214 "RingShepherdsModel" "bytesLong" "I" ∈ wsL_law := wb_t4 110 rfl rfl
set_option maxRecDepth 4000 in
theorem q_290 : Cond.constantLong RX12 217 (255) ∈ wsL_law := wb_t5 143 rfl rfl
set_option maxRecDepth 4000 in
theorem q_291 : Cond.methodLink RL 40 yX11_clear ∈ wsL_law := wb_t2 106 rfl rfl
set_option maxRecDepth 4000 in
theorem q_292 : Cond.instanceMethod yX11_clear ∈ wsL_law := wb_t2 107 rfl rfl
set_option maxRecDepth 4000 in
theorem q_293 : Cond.selects RX11 yX11_clear yX11_clear ∈ wsL_law := wb_t2 108 rfl rfl
set_option maxRecDepth 4000 in
theorem q_294 : Cond.code yX11_clear cX11_clear 2 (some .int) ∈ wsL_law := wb_t2 109 rfl rfl
set_option maxRecDepth 4000 in
theorem q_295 : Cond.methodLink RL 44 yX12_clear ∈ wsL_law := wb_t5 144 rfl rfl
set_option maxRecDepth 4000 in
theorem q_296 : Cond.instanceMethod yX12_clear ∈ wsL_law := wb_t5 145 rfl rfl
set_option maxRecDepth 4000 in
theorem q_297 : Cond.selects RX12 yX12_clear yX12_clear ∈ wsL_law := wb_t5 146 rfl rfl
set_option maxRecDepth 4000 in
theorem q_298 : Cond.code yX12_clear cX12_clear 2 (some .int) ∈ wsL_law := wb_t5 147 rfl rfl
set_option maxRecDepth 4000 in
theorem q_299 : Cond.methodLink RL 45 yX11_read ∈ wsL_law := wb_t2 110 rfl rfl
set_option maxRecDepth 4000 in
theorem q_300 : Cond.instanceMethod yX11_read ∈ wsL_law := wb_t2 111 rfl rfl
set_option maxRecDepth 4000 in
theorem q_301 : Cond.selects RX11 yX11_read yX11_read ∈ wsL_law := wb_t2 112 rfl rfl
set_option maxRecDepth 4000 in
theorem q_302 : Cond.code yX11_read cX11_read 2 (some .int) ∈ wsL_law := wb_t2 113 rfl rfl
set_option maxRecDepth 4000 in
theorem q_303 : Cond.fieldLink RX11 138 "RingShepherds$Reader" "draft" "LRingShepherds$Ring;" ∈ wsL_law := wb_t2 9 rfl rfl
set_option maxRecDepth 4000 in
theorem q_304 : Cond.methodLink RX11 134 yX4_readAll ∈ wsL_law := wb_t2 114 rfl rfl
set_option maxRecDepth 4000 in
theorem q_305 : Cond.instanceMethod yX4_readAll ∈ wsL_law := wb_t2 115 rfl rfl
set_option maxRecDepth 4000 in
theorem q_306 : Cond.selects RX4 yX4_readAll yX4_readAll ∈ wsL_law := wb_t2 116 rfl rfl
set_option maxRecDepth 4000 in
theorem q_307 : Cond.code yX4_readAll cX4_readAll 2 (some .int) ∈ wsL_law := wb_t2 117 rfl rfl
set_option maxRecDepth 4000 in
theorem q_308 : Cond.fieldLink RX4 35 "RingShepherds$Text" "start" "I" ∈ wsL_law := wb_t1 227 rfl rfl
set_option maxRecDepth 4000 in
theorem q_309 : Cond.fieldLink RX4 39 "RingShepherds$Text" "token" "I" ∈ wsL_law := wb_t1 225 rfl rfl
set_option maxRecDepth 4000 in
theorem q_310 : Cond.methodLink RX4 23 yX9_rewind ∈ wsL_law := wb_t2 118 rfl rfl
set_option maxRecDepth 4000 in
theorem q_311 : Cond.methodLink RX4 28 yX9_nextToken ∈ wsL_law := wb_t2 119 rfl rfl
set_option maxRecDepth 4000 in
theorem q_312 : Cond.instanceMethod yX9_nextToken ∈ wsL_law := wb_t2 120 rfl rfl
set_option maxRecDepth 4000 in
theorem q_313 : Cond.selects RX9 yX9_nextToken yX9_nextToken ∈ wsL_law := wb_t2 121 rfl rfl
set_option maxRecDepth 4000 in
theorem q_314 : Cond.code yX9_nextToken cX9_nextToken 1 none ∈ wsL_law := wb_t2 122 rfl rfl
set_option maxRecDepth 4000 in
theorem q_315 : Cond.methodLink RX9 33 yX9_begunBy ∈ wsL_law := wb_t2 123 rfl rfl
set_option maxRecDepth 4000 in
theorem q_316 : Cond.static yX9_begunBy ∈ wsL_law := wb_t2 124 rfl rfl
set_option maxRecDepth 4000 in
theorem q_317 : Cond.code yX9_begunBy cX9_begunBy 1 (some .int) ∈ wsL_law := wb_t2 125 rfl rfl
set_option maxRecDepth 4000 in
theorem q_318 : Cond.methodLink RX4 31 yX4_readRing ∈ wsL_law := wb_t2 126 rfl rfl
set_option maxRecDepth 4000 in
theorem q_319 : Cond.instanceMethod yX4_readRing ∈ wsL_law := wb_t2 128 rfl rfl
theorem q_320 : Cond.selects RX4 yX4_readRing yX4_readRing ∈ wsL_law := wb_p1 (q := (⟨"RingShepherds$Reader", "readRing", "()Z"⟩, 3)) 3 rfl rfl rfl
set_option maxRecDepth 4000 in
theorem q_321 : Cond.code yX4_readRing cX4_readRing 1 (some .boolean) ∈ wsL_law := wb_t2 129 rfl rfl
set_option maxRecDepth 4000 in
theorem q_322 : Cond.methodLink RX4 47 yX9_isWord ∈ wsL_law := wb_t2 131 rfl rfl
set_option maxRecDepth 4000 in
theorem q_323 : Cond.instanceMethod yX9_isWord ∈ wsL_law := wb_t2 132 rfl rfl
set_option maxRecDepth 4000 in
theorem q_324 : Cond.selects RX9 yX9_isWord yX9_isWord ∈ wsL_law := wb_t2 133 rfl rfl
set_option maxRecDepth 4000 in
theorem q_325 : Cond.code yX9_isWord cX9_isWord 3 (some .boolean) ∈ wsL_law := wb_t2 134 rfl rfl
set_option maxRecDepth 4000 in
theorem q_326 : Cond.methodLink RX9 37 yJ0_length_8abf5 ∈ wsL_law := wb_t2 135 rfl rfl
set_option maxRecDepth 4000 in
theorem q_327 : Cond.instanceMethod yJ0_length_8abf5 ∈ wsL_law := wb_t2 136 rfl rfl
set_option maxRecDepth 4000 in
theorem q_328 : Cond.selects RJ0 yJ0_length_8abf5 yJ0_length_8abf5 ∈ wsL_law := wb_t2 137 rfl rfl
set_option maxRecDepth 4000 in
theorem q_329 : Cond.initialized RJ0 ∈ wsL_law := wb_t1 15 rfl rfl
set_option maxRecDepth 4000 in
theorem q_330 : Cond.code yJ0_length_8abf5 cJ0_length_8abf5 1 (some .int) ∈ wsL_law := wb_t2 138 rfl rfl
set_option maxRecDepth 4000 in
theorem q_331 : Cond.fieldLink RJ0 9 "java/lang/String" "value" "[B" ∈ wsL_law := wb_t5 229 rfl rfl
set_option maxRecDepth 4000 in
theorem q_332 : Cond.methodLink RJ0 335 yJ0_coder_7d493 ∈ wsL_law := wb_t2 139 rfl rfl
set_option maxRecDepth 4000 in
theorem q_333 : Cond.instanceMethod yJ0_coder_7d493 ∈ wsL_law := wb_t2 140 rfl rfl
set_option maxRecDepth 4000 in
theorem q_334 : Cond.selects RJ0 yJ0_coder_7d493 yJ0_coder_7d493 ∈ wsL_law := wb_t2 141 rfl rfl
set_option maxRecDepth 4000 in
theorem q_335 : Cond.code yJ0_coder_7d493 cJ0_coder_7d493 1 (some .byte) ∈ wsL_law := wb_t2 142 rfl rfl
set_option maxRecDepth 4000 in
theorem q_336 : Cond.fieldLink RJ0 38 "java/lang/String" "COMPACT_STRINGS" "Z" ∈ wsL_law := wb_t2 143 rfl rfl
set_option maxRecDepth 4000 in
theorem q_337 : Cond.fieldLink RJ0 15 "java/lang/String" "coder" "B" ∈ wsL_law := wb_t5 230 rfl rfl
set_option maxRecDepth 4000 in
theorem q_338 : Cond.methodLink RX9 43 yJ0_charAt_5068e ∈ wsL_law := wb_t2 145 rfl rfl
set_option maxRecDepth 4000 in
theorem q_339 : Cond.instanceMethod yJ0_charAt_5068e ∈ wsL_law := wb_t2 146 rfl rfl
set_option maxRecDepth 4000 in
theorem q_340 : Cond.selects RJ0 yJ0_charAt_5068e yJ0_charAt_5068e ∈ wsL_law := wb_t2 147 rfl rfl
set_option maxRecDepth 4000 in
theorem q_341 : Cond.code yJ0_charAt_5068e cJ0_charAt_5068e 2 (some .char) ∈ wsL_law := wb_t2 148 rfl rfl
set_option maxRecDepth 4000 in
theorem q_342 : Cond.methodLink RJ0 492 yJ0_isLatin1_aae02 ∈ wsL_law := wb_t2 149 rfl rfl
set_option maxRecDepth 4000 in
theorem q_343 : Cond.instanceMethod yJ0_isLatin1_aae02 ∈ wsL_law := wb_t2 150 rfl rfl
set_option maxRecDepth 4000 in
theorem q_344 : Cond.selects RJ0 yJ0_isLatin1_aae02 yJ0_isLatin1_aae02 ∈ wsL_law := wb_t2 151 rfl rfl
set_option maxRecDepth 4000 in
theorem q_345 : Cond.code yJ0_isLatin1_aae02 cJ0_isLatin1_aae02 1 (some .boolean) ∈ wsL_law := wb_t2 152 rfl rfl
set_option maxRecDepth 4000 in
theorem q_346 : Cond.methodLink RJ0 495 yJ1_charAt_3b067 ∈ wsL_law := wb_t2 153 rfl rfl
set_option maxRecDepth 4000 in
theorem q_347 : Cond.static yJ1_charAt_3b067 ∈ wsL_law := wb_t2 154 rfl rfl
set_option maxRecDepth 4000 in
theorem q_348 : Cond.initialized RJ1 ∈ wsL_law := wb_t1 16 rfl rfl
set_option maxRecDepth 4000 in
theorem q_349 : Cond.code yJ1_charAt_3b067 cJ1_charAt_3b067 2 (some .char) ∈ wsL_law := wb_t2 155 rfl rfl
set_option maxRecDepth 4000 in
theorem q_350 : Cond.methodLink RJ1 9 yJ0_checkIndex_df160 ∈ wsL_law := wb_t2 156 rfl rfl
set_option maxRecDepth 4000 in
theorem q_351 : Cond.static yJ0_checkIndex_df160 ∈ wsL_law := wb_t2 157 rfl rfl
set_option maxRecDepth 4000 in
theorem q_352 : Cond.code yJ0_checkIndex_df160 cJ0_checkIndex_df160 2 none ∈ wsL_law := wb_t2 158 rfl rfl
set_option maxRecDepth 4000 in
theorem q_353 : Cond.fieldLink RJ0 1053 "jdk/internal/util/Preconditions" "SIOOBE_FORMATTER" "Ljava/util/function/BiFunction;" ∈ wsL_law := wb_t2 159 rfl rfl
set_option maxRecDepth 4000 in
theorem q_354 : Cond.methodLink RJ0 1059 yJ3_checkIndex_8e157 ∈ wsL_law := wb_t2 161 rfl rfl
set_option maxRecDepth 4000 in
theorem q_355 : Cond.static yJ3_checkIndex_8e157 ∈ wsL_law := wb_t2 162 rfl rfl
set_option maxRecDepth 4000 in
theorem q_356 : Cond.initialized RJ3 ∈ wsL_law := wb_t1 17 rfl rfl
set_option maxRecDepth 4000 in
theorem q_357 : Cond.code yJ3_checkIndex_8e157 cJ3_checkIndex_8e157 3 (some .int) ∈ wsL_law := wb_t2 163 rfl rfl
set_option maxRecDepth 4000 in
theorem q_358 : Cond.methodLink RJ0 498 yJ2_charAt_3b067 ∈ wsL_law := wb_t2 164 rfl rfl
set_option maxRecDepth 4000 in
theorem q_359 : Cond.static yJ2_charAt_3b067 ∈ wsL_law := wb_t2 165 rfl rfl
set_option maxRecDepth 4000 in
theorem q_360 : Cond.initialized RJ2 ∈ wsL_law := wb_t1 18 rfl rfl
set_option maxRecDepth 4000 in
theorem q_361 : Cond.code yJ2_charAt_3b067 cJ2_charAt_3b067 2 (some .char) ∈ wsL_law := wb_t2 166 rfl rfl
set_option maxRecDepth 4000 in
theorem q_362 : Cond.methodLink RJ2 67 yJ2_checkIndex_2214a ∈ wsL_law := wb_t2 167 rfl rfl
set_option maxRecDepth 4000 in
theorem q_363 : Cond.static yJ2_checkIndex_2214a ∈ wsL_law := wb_t2 168 rfl rfl
set_option maxRecDepth 4000 in
theorem q_364 : Cond.code yJ2_checkIndex_2214a cJ2_checkIndex_2214a 2 none ∈ wsL_law := wb_t2 169 rfl rfl
set_option maxRecDepth 4000 in
theorem q_365 : Cond.methodLink RJ2 48 yJ2_length_9d52b ∈ wsL_law := wb_t2 170 rfl rfl
set_option maxRecDepth 4000 in
theorem q_366 : Cond.static yJ2_length_9d52b ∈ wsL_law := wb_t2 171 rfl rfl
set_option maxRecDepth 4000 in
theorem q_367 : Cond.code yJ2_length_9d52b cJ2_length_9d52b 1 (some .int) ∈ wsL_law := wb_t2 172 rfl rfl
set_option maxRecDepth 4000 in
theorem q_368 : Cond.methodLink RJ2 414 yJ0_checkIndex_df160 ∈ wsL_law := wb_t2 173 rfl rfl
set_option maxRecDepth 4000 in
theorem q_369 : Cond.methodLink RJ2 71 yJ2_getChar_3b067 ∈ wsL_law := wb_t2 174 rfl rfl
set_option maxRecDepth 4000 in
theorem q_370 : Cond.static yJ2_getChar_3b067 ∈ wsL_law := wb_t2 175 rfl rfl
set_option maxRecDepth 4000 in
theorem q_371 : Cond.code yJ2_getChar_3b067 cJ2_getChar_3b067 2 (some .char) ∈ wsL_law := wb_t2 176 rfl rfl
set_option maxRecDepth 4000 in
theorem q_372 : Cond.fieldLink RJ2 44 "java/lang/StringUTF16" "$assertionsDisabled" "Z" ∈ wsL_law := wb_t2 177 rfl rfl
set_option maxRecDepth 4000 in
theorem q_373 : Cond.fieldLink RJ2 59 "java/lang/StringUTF16" "HI_BYTE_SHIFT" "I" ∈ wsL_law := wb_t2 179 rfl rfl
set_option maxRecDepth 4000 in
theorem q_374 : Cond.fieldLink RJ2 63 "java/lang/StringUTF16" "LO_BYTE_SHIFT" "I" ∈ wsL_law := wb_t2 181 rfl rfl
set_option maxRecDepth 4000 in
theorem q_375 : Cond.methodLink RX4 51 yX4_takeNumber ∈ wsL_law := wb_t2 183 rfl rfl
set_option maxRecDepth 4000 in
theorem q_376 : Cond.instanceMethod yX4_takeNumber ∈ wsL_law := wb_t2 185 rfl rfl
theorem q_377 : Cond.selects RX4 yX4_takeNumber yX4_takeNumber ∈ wsL_law := wb_p1 (q := (⟨"RingShepherds$Reader", "takeNumber", "(III)Z"⟩, 3)) 4 rfl rfl rfl
set_option maxRecDepth 4000 in
theorem q_378 : Cond.code yX4_takeNumber cX4_takeNumber 4 (some .boolean) ∈ wsL_law := wb_t2 186 rfl rfl
set_option maxRecDepth 4000 in
theorem q_379 : Cond.methodLink RX4 96 yX9_number ∈ wsL_law := wb_t2 187 rfl rfl
set_option maxRecDepth 4000 in
theorem q_380 : Cond.instanceMethod yX9_number ∈ wsL_law := wb_t2 188 rfl rfl
set_option maxRecDepth 4000 in
theorem q_381 : Cond.selects RX9 yX9_number yX9_number ∈ wsL_law := wb_t2 189 rfl rfl
set_option maxRecDepth 4000 in
theorem q_382 : Cond.code yX9_number cX9_number 3 (some .int) ∈ wsL_law := wb_t2 190 rfl rfl
set_option maxRecDepth 4000 in
theorem q_383 : Cond.methodLink RX4 55 yX4_takeSemicolon ∈ wsL_law := wb_t2 192 rfl rfl
set_option maxRecDepth 4000 in
theorem q_384 : Cond.instanceMethod yX4_takeSemicolon ∈ wsL_law := wb_t2 194 rfl rfl
theorem q_385 : Cond.selects RX4 yX4_takeSemicolon yX4_takeSemicolon ∈ wsL_law := wb_p1 (q := (⟨"RingShepherds$Reader", "takeSemicolon", "()Z"⟩, 3)) 5 rfl rfl rfl
set_option maxRecDepth 4000 in
theorem q_386 : Cond.code yX4_takeSemicolon cX4_takeSemicolon 1 (some .boolean) ∈ wsL_law := wb_t2 195 rfl rfl
set_option maxRecDepth 4000 in
theorem q_387 : Cond.methodLink RX4 58 yX5_begin ∈ wsL_law := wb_t2 196 rfl rfl
set_option maxRecDepth 4000 in
theorem q_388 : Cond.methodLink RX4 42 yX4_readItem ∈ wsL_law := wb_t2 197 rfl rfl
set_option maxRecDepth 4000 in
theorem q_389 : Cond.instanceMethod yX4_readItem ∈ wsL_law := wb_t2 199 rfl rfl
theorem q_390 : Cond.selects RX4 yX4_readItem yX4_readItem ∈ wsL_law := wb_p1 (q := (⟨"RingShepherds$Reader", "readItem", "()Z"⟩, 3)) 6 rfl rfl rfl
set_option maxRecDepth 4000 in
theorem q_391 : Cond.code yX4_readItem cX4_readItem 1 (some .boolean) ∈ wsL_law := wb_t2 200 rfl rfl
set_option maxRecDepth 4000 in
theorem q_392 : Cond.fieldLink RX4 76 "RingShepherds$Ring" "moons" "I" ∈ wsL_law := wb_t1 105 rfl rfl
set_option maxRecDepth 4000 in
theorem q_393 : Cond.methodLink RX4 66 yX4_readStep ∈ wsL_law := wb_t2 202 rfl rfl
set_option maxRecDepth 4000 in
theorem q_394 : Cond.instanceMethod yX4_readStep ∈ wsL_law := wb_t2 204 rfl rfl
theorem q_395 : Cond.selects RX4 yX4_readStep yX4_readStep ∈ wsL_law := wb_p1 (q := (⟨"RingShepherds$Reader", "readStep", "()Z"⟩, 3)) 7 rfl rfl rfl
set_option maxRecDepth 4000 in
theorem q_396 : Cond.code yX4_readStep cX4_readStep 1 (some .boolean) ∈ wsL_law := wb_t2 205 rfl rfl
set_option maxRecDepth 4000 in
theorem q_397 : Cond.fieldLink RX4 82 "RingShepherds$Ring" "steps" "[I" ∈ wsL_law := wb_t1 89 rfl rfl
set_option maxRecDepth 4000 in
theorem q_398 : Cond.methodLink RX4 71 yX4_readLumps ∈ wsL_law := wb_t2 207 rfl rfl
set_option maxRecDepth 4000 in
theorem q_399 : Cond.instanceMethod yX4_readLumps ∈ wsL_law := wb_t2 209 rfl rfl
theorem q_400 : Cond.selects RX4 yX4_readLumps yX4_readLumps ∈ wsL_law := wb_p1 (q := (⟨"RingShepherds$Reader", "readLumps", "()Z"⟩, 3)) 8 rfl rfl rfl
set_option maxRecDepth 4000 in
theorem q_401 : Cond.code yX4_readLumps cX4_readLumps 1 (some .boolean) ∈ wsL_law := wb_t2 210 rfl rfl
set_option maxRecDepth 4000 in
theorem q_402 : Cond.fieldLink RX4 85 "RingShepherds$Ring" "places" "I" ∈ wsL_law := wb_t1 102 rfl rfl
set_option maxRecDepth 4000 in
theorem q_403 : Cond.methodLink RX4 88 yX5_setLumps ∈ wsL_law := wb_t2 211 rfl rfl
set_option maxRecDepth 4000 in
theorem q_404 : Cond.methodLink RX4 79 yX4_readMoon ∈ wsL_law := wb_t2 213 rfl rfl
set_option maxRecDepth 4000 in
theorem q_405 : Cond.instanceMethod yX4_readMoon ∈ wsL_law := wb_t2 215 rfl rfl
theorem q_406 : Cond.selects RX4 yX4_readMoon yX4_readMoon ∈ wsL_law := wb_p1 (q := (⟨"RingShepherds$Reader", "readMoon", "()Z"⟩, 3)) 9 rfl rfl rfl
set_option maxRecDepth 4000 in
theorem q_407 : Cond.code yX4_readMoon cX4_readMoon 1 (some .boolean) ∈ wsL_law := wb_t2 216 rfl rfl
set_option maxRecDepth 4000 in
theorem q_408 : Cond.methodLink RX4 92 yX5_addMoon ∈ wsL_law := wb_t2 217 rfl rfl
set_option maxRecDepth 4000 in
theorem q_409 : Cond.methodLink RX11 141 yX5_copy ∈ wsL_law := wb_t2 218 rfl rfl
set_option maxRecDepth 4000 in
theorem q_410 : Cond.instanceMethod yX5_copy ∈ wsL_law := wb_t2 219 rfl rfl
set_option maxRecDepth 4000 in
theorem q_411 : Cond.selects RX5 yX5_copy yX5_copy ∈ wsL_law := wb_t2 220 rfl rfl
set_option maxRecDepth 4000 in
theorem q_412 : Cond.code yX5_copy cX5_copy 2 none ∈ wsL_law := wb_t2 221 rfl rfl
set_option maxRecDepth 4000 in
theorem q_413 : Cond.methodLink RX5 63 arraycopyName ∈ wsL_law := wb_t2 222 rfl rfl
set_option maxRecDepth 4000 in
theorem q_414 : Cond.native arraycopyName ∈ wsL_law := wb_t2 224 rfl rfl
set_option maxRecDepth 4000 in
theorem q_415 : Cond.static arraycopyName ∈ wsL_law := wb_t2 223 rfl rfl
set_option maxRecDepth 4000 in
theorem q_416 : Cond.initialized "java/lang/System" ∈ wsL_law := wb_t1 19 rfl rfl
set_option maxRecDepth 4000 in
theorem q_417 : Cond.methodLink RX5 69 yX5_goBackTo ∈ wsL_law := wb_t2 225 rfl rfl
set_option maxRecDepth 4000 in
theorem q_418 : Cond.instanceMethod yX5_goBackTo ∈ wsL_law := wb_t2 226 rfl rfl
set_option maxRecDepth 4000 in
theorem q_419 : Cond.selects RX5 yX5_goBackTo yX5_goBackTo ∈ wsL_law := wb_t2 227 rfl rfl
set_option maxRecDepth 4000 in
theorem q_420 : Cond.code yX5_goBackTo cX5_goBackTo 2 none ∈ wsL_law := wb_t2 228 rfl rfl
set_option maxRecDepth 4000 in
theorem q_421 : Cond.methodLink RL 48 yX12_read ∈ wsL_law := wb_t5 148 rfl rfl
set_option maxRecDepth 4000 in
theorem q_422 : Cond.instanceMethod yX12_read ∈ wsL_law := wb_t5 149 rfl rfl
set_option maxRecDepth 4000 in
theorem q_423 : Cond.selects RX12 yX12_read yX12_read ∈ wsL_law := wb_t5 150 rfl rfl
set_option maxRecDepth 4000 in
theorem q_424 : Cond.code yX12_read cX12_read 3 (some .int) ∈ wsL_law := wb_t5 151 rfl rfl
set_option maxRecDepth 4000 in
theorem q_425 : Cond.fieldLink RX12 227 "RingShepherdsModel" "tokenAt" "I" ∈ wsL_law := wb_t4 111 rfl rfl
set_option maxRecDepth 4000 in
theorem q_426 : Cond.fieldLink RX12 233 "RingShepherdsModel" "token" "I" ∈ wsL_law := wb_t4 113 rfl rfl
set_option maxRecDepth 4000 in
theorem q_427 : Cond.methodLink RX12 245 yX12_look ∈ wsL_law := wb_t5 152 rfl rfl
set_option maxRecDepth 4000 in
theorem q_428 : Cond.instanceMethod yX12_look ∈ wsL_law := wb_t5 154 rfl rfl
theorem q_429 : Cond.selects RX12 yX12_look yX12_look ∈ wsL_law := wb_p3 (q := (⟨"RingShepherdsModel", "look", "(I)V"⟩, 25)) 15 rfl rfl rfl
set_option maxRecDepth 4000 in
theorem q_430 : Cond.code yX12_look cX12_look 5 none ∈ wsL_law := wb_t5 155 rfl rfl
set_option maxRecDepth 4000 in
theorem q_431 : Cond.fieldLink RX12 230 "RingShepherdsModel" "tokenLong" "I" ∈ wsL_law := wb_t4 112 rfl rfl
set_option maxRecDepth 4000 in
theorem q_432 : Cond.fieldLink RX12 236 "RingShepherdsModel" "value" "I" ∈ wsL_law := wb_t4 114 rfl rfl
set_option maxRecDepth 4000 in
theorem q_433 : Cond.methodLink RX12 239 yX12_isSmall ∈ wsL_law := wb_t5 156 rfl rfl
set_option maxRecDepth 4000 in
theorem q_434 : Cond.static yX12_isSmall ∈ wsL_law := wb_t5 157 rfl rfl
set_option maxRecDepth 4000 in
theorem q_435 : Cond.code yX12_isSmall cX12_isSmall 1 (some .boolean) ∈ wsL_law := wb_t5 158 rfl rfl
set_option maxRecDepth 4000 in
theorem q_436 : Cond.constantLong RX12 219 (97) ∈ wsL_law := wb_t5 159 rfl rfl
set_option maxRecDepth 4000 in
theorem q_437 : Cond.constantLong RX12 221 (122) ∈ wsL_law := wb_t5 160 rfl rfl
set_option maxRecDepth 4000 in
theorem q_438 : Cond.methodLink RX12 242 yX12_isFigure ∈ wsL_law := wb_t5 161 rfl rfl
set_option maxRecDepth 4000 in
theorem q_439 : Cond.static yX12_isFigure ∈ wsL_law := wb_t5 162 rfl rfl
set_option maxRecDepth 4000 in
theorem q_440 : Cond.code yX12_isFigure cX12_isFigure 1 (some .boolean) ∈ wsL_law := wb_t5 163 rfl rfl
set_option maxRecDepth 4000 in
theorem q_441 : Cond.constantLong RX12 223 (48) ∈ wsL_law := wb_t5 164 rfl rfl
set_option maxRecDepth 4000 in
theorem q_442 : Cond.constantLong RX12 225 (57) ∈ wsL_law := wb_t5 165 rfl rfl
set_option maxRecDepth 4000 in
theorem q_443 : Cond.methodLink RX12 262 yX12_readsFirst ∈ wsL_law := wb_t5 166 rfl rfl
set_option maxRecDepth 4000 in
theorem q_444 : Cond.instanceMethod yX12_readsFirst ∈ wsL_law := wb_t5 168 rfl rfl
theorem q_445 : Cond.selects RX12 yX12_readsFirst yX12_readsFirst ∈ wsL_law := wb_p4 (q := (⟨"RingShepherdsModel", "readsFirst", "()Z"⟩, 25)) 0 rfl rfl rfl
set_option maxRecDepth 4000 in
theorem q_446 : Cond.code yX12_readsFirst cX12_readsFirst 2 (some .boolean) ∈ wsL_law := wb_t5 169 rfl rfl
set_option maxRecDepth 4000 in
theorem q_447 : Cond.methodLink RX12 251 yX12_isWord ∈ wsL_law := wb_t5 170 rfl rfl
set_option maxRecDepth 4000 in
theorem q_448 : Cond.instanceMethod yX12_isWord ∈ wsL_law := wb_t5 172 rfl rfl
theorem q_449 : Cond.selects RX12 yX12_isWord yX12_isWord ∈ wsL_law := wb_p4 (q := (⟨"RingShepherdsModel", "isWord", "(IIIII)Z"⟩, 25)) 1 rfl rfl rfl
set_option maxRecDepth 4000 in
theorem q_450 : Cond.code yX12_isWord cX12_isWord 9 (some .boolean) ∈ wsL_law := wb_t5 173 rfl rfl
set_option maxRecDepth 4000 in
theorem q_451 : Cond.methodLink RX12 248 yX12_goOn ∈ wsL_law := wb_t5 174 rfl rfl
set_option maxRecDepth 4000 in
theorem q_452 : Cond.instanceMethod yX12_goOn ∈ wsL_law := wb_t5 176 rfl rfl
theorem q_453 : Cond.selects RX12 yX12_goOn yX12_goOn ∈ wsL_law := wb_p4 (q := (⟨"RingShepherdsModel", "goOn", "()V"⟩, 25)) 2 rfl rfl rfl
set_option maxRecDepth 4000 in
theorem q_454 : Cond.code yX12_goOn cX12_goOn 1 none ∈ wsL_law := wb_t5 177 rfl rfl
set_option maxRecDepth 4000 in
theorem q_455 : Cond.methodLink RX12 255 yX12_takes ∈ wsL_law := wb_t5 178 rfl rfl
set_option maxRecDepth 4000 in
theorem q_456 : Cond.instanceMethod yX12_takes ∈ wsL_law := wb_t5 180 rfl rfl
theorem q_457 : Cond.selects RX12 yX12_takes yX12_takes ∈ wsL_law := wb_p4 (q := (⟨"RingShepherdsModel", "takes", "(III)Z"⟩, 25)) 3 rfl rfl rfl
set_option maxRecDepth 4000 in
theorem q_458 : Cond.code yX12_takes cX12_takes 4 (some .boolean) ∈ wsL_law := wb_t5 181 rfl rfl
set_option maxRecDepth 4000 in
theorem q_459 : Cond.methodLink RX12 266 yX12_readsItem ∈ wsL_law := wb_t5 182 rfl rfl
set_option maxRecDepth 4000 in
theorem q_460 : Cond.instanceMethod yX12_readsItem ∈ wsL_law := wb_t5 184 rfl rfl
theorem q_461 : Cond.selects RX12 yX12_readsItem yX12_readsItem ∈ wsL_law := wb_p4 (q := (⟨"RingShepherdsModel", "readsItem", "()Z"⟩, 25)) 4 rfl rfl rfl
set_option maxRecDepth 4000 in
theorem q_462 : Cond.code yX12_readsItem cX12_readsItem 2 (some .boolean) ∈ wsL_law := wb_t5 185 rfl rfl
set_option maxRecDepth 4000 in
theorem q_463 : Cond.methodLink RX12 259 yX12_lastPlace ∈ wsL_law := wb_t5 186 rfl rfl
set_option maxRecDepth 4000 in
theorem q_464 : Cond.instanceMethod yX12_lastPlace ∈ wsL_law := wb_t5 188 rfl rfl
theorem q_465 : Cond.selects RX12 yX12_lastPlace yX12_lastPlace ∈ wsL_law := wb_p4 (q := (⟨"RingShepherdsModel", "lastPlace", "()I"⟩, 25)) 5 rfl rfl rfl
set_option maxRecDepth 4000 in
theorem q_466 : Cond.code yX12_lastPlace cX12_lastPlace 1 (some .int) ∈ wsL_law := wb_t5 189 rfl rfl
set_option maxRecDepth 4000 in
theorem q_467 : Cond.methodLink RL 49 yX11_round ∈ wsL_law := wb_t2 230 rfl rfl
set_option maxRecDepth 4000 in
theorem q_468 : Cond.instanceMethod yX11_round ∈ wsL_law := wb_t2 231 rfl rfl
set_option maxRecDepth 4000 in
theorem q_469 : Cond.selects RX11 yX11_round yX11_round ∈ wsL_law := wb_t2 232 rfl rfl
set_option maxRecDepth 4000 in
theorem q_470 : Cond.code yX11_round cX11_round 1 (some .int) ∈ wsL_law := wb_t2 233 rfl rfl
set_option maxRecDepth 4000 in
theorem q_471 : Cond.methodLink RX11 145 yX7_goOn ∈ wsL_law := wb_t2 234 rfl rfl
set_option maxRecDepth 4000 in
theorem q_472 : Cond.instanceMethod yX7_goOn ∈ wsL_law := wb_t2 235 rfl rfl
set_option maxRecDepth 4000 in
theorem q_473 : Cond.selects RX7 yX7_goOn yX7_goOn ∈ wsL_law := wb_t2 236 rfl rfl
set_option maxRecDepth 4000 in
theorem q_474 : Cond.code yX7_goOn cX7_goOn 1 (some .int) ∈ wsL_law := wb_t2 237 rfl rfl
set_option maxRecDepth 4000 in
theorem q_475 : Cond.methodLink RX7 35 Lib.Math.min.name ∈ wsL_law := wb_t2 238 rfl rfl
set_option maxRecDepth 4000 in
theorem q_476 : Cond.static Lib.Math.min.name ∈ wsL_law := wb_t2 239 rfl rfl
set_option maxRecDepth 4000 in
theorem q_477 : Cond.initialized "java/lang/Math" ∈ wsL_law := wb_t1 20 rfl rfl
set_option maxRecDepth 4000 in
theorem q_478 : Cond.code Lib.Math.min.name Lib.Math.min.code 2 (some .int) ∈ wsL_law := wb_t3 0 rfl rfl
set_option maxRecDepth 4000 in
theorem q_479 : Cond.methodLink RX7 31 yX5_copy ∈ wsL_law := wb_t3 1 rfl rfl
set_option maxRecDepth 4000 in
theorem q_480 : Cond.methodLink RX7 41 yX5_goOn ∈ wsL_law := wb_t3 2 rfl rfl
set_option maxRecDepth 4000 in
theorem q_481 : Cond.instanceMethod yX5_goOn ∈ wsL_law := wb_t3 3 rfl rfl
set_option maxRecDepth 4000 in
theorem q_482 : Cond.selects RX5 yX5_goOn yX5_goOn ∈ wsL_law := wb_t3 4 rfl rfl
set_option maxRecDepth 4000 in
theorem q_483 : Cond.code yX5_goOn cX5_goOn 3 (some .int) ∈ wsL_law := wb_t3 5 rfl rfl
set_option maxRecDepth 4000 in
theorem q_484 : Cond.methodLink RX5 84 yX5_around ∈ wsL_law := wb_t3 6 rfl rfl
set_option maxRecDepth 4000 in
theorem q_485 : Cond.instanceMethod yX5_around ∈ wsL_law := wb_t3 7 rfl rfl
set_option maxRecDepth 4000 in
theorem q_486 : Cond.selects RX5 yX5_around yX5_around ∈ wsL_law := wb_t3 8 rfl rfl
set_option maxRecDepth 4000 in
theorem q_487 : Cond.code yX5_around cX5_around 2 (some .int) ∈ wsL_law := wb_t3 9 rfl rfl
set_option maxRecDepth 4000 in
theorem q_488 : Cond.methodLink RX5 91 yX5_moveMoon ∈ wsL_law := wb_t3 10 rfl rfl
set_option maxRecDepth 4000 in
theorem q_489 : Cond.instanceMethod yX5_moveMoon ∈ wsL_law := wb_t3 11 rfl rfl
set_option maxRecDepth 4000 in
theorem q_490 : Cond.selects RX5 yX5_moveMoon yX5_moveMoon ∈ wsL_law := wb_t3 12 rfl rfl
set_option maxRecDepth 4000 in
theorem q_491 : Cond.code yX5_moveMoon cX5_moveMoon 3 none ∈ wsL_law := wb_t3 13 rfl rfl
set_option maxRecDepth 4000 in
theorem q_492 : Cond.methodLink RX5 95 yX5_passBy ∈ wsL_law := wb_t3 14 rfl rfl
set_option maxRecDepth 4000 in
theorem q_493 : Cond.instanceMethod yX5_passBy ∈ wsL_law := wb_t3 16 rfl rfl
theorem q_494 : Cond.selects RX5 yX5_passBy yX5_passBy ∈ wsL_law := wb_p1 (q := (⟨"RingShepherds$Ring", "passBy", "(I)I"⟩, 13)) 10 rfl rfl rfl
set_option maxRecDepth 4000 in
theorem q_495 : Cond.code yX5_passBy cX5_passBy 11 (some .int) ∈ wsL_law := wb_t3 17 rfl rfl
set_option maxRecDepth 4000 in
theorem q_496 : Cond.methodLink RX5 102 ⟨"RingShepherds$Plain", "isAwake", "(I)Z"⟩ ∈ wsL_law := wb_t3 18 rfl rfl
set_option maxRecDepth 4000 in
theorem q_497 : Cond.sameMethod "RingShepherds$Plain" "RingShepherds$Plain" "isAwake" "(I)Z" ∈ wsL_law := wb_t3 21 rfl rfl
set_option maxRecDepth 4000 in
theorem q_498 : Cond.selects RX1 ⟨"RingShepherds$Plain", "isAwake", "(I)Z"⟩ yX3_isAwake ∈ wsL_law := wb_t3 22 rfl rfl
set_option maxRecDepth 4000 in
theorem q_499 : Cond.instanceMethod yX3_isAwake ∈ wsL_law := wb_t3 19 rfl rfl
set_option maxRecDepth 4000 in
theorem q_500 : Cond.code yX3_isAwake cX3_isAwake 2 (some .boolean) ∈ wsL_law := wb_t3 28 rfl rfl
set_option maxRecDepth 4000 in
theorem q_501 : Cond.selects RX3 yX3_isAwake yX3_isAwake ∈ wsL_law := wb_t3 20 rfl rfl
set_option maxRecDepth 4000 in
theorem q_502 : Cond.selects RX6 ⟨"RingShepherds$Plain", "isAwake", "(I)Z"⟩ yX6_isAwake ∈ wsL_law := wb_t3 23 rfl rfl
set_option maxRecDepth 4000 in
theorem q_503 : Cond.instanceMethod yX6_isAwake ∈ wsL_law := wb_t3 24 rfl rfl
set_option maxRecDepth 4000 in
theorem q_504 : Cond.code yX6_isAwake cX6_isAwake 2 (some .boolean) ∈ wsL_law := wb_t3 25 rfl rfl
set_option maxRecDepth 4000 in
theorem q_505 : Cond.selects RX8 ⟨"RingShepherds$Plain", "isAwake", "(I)Z"⟩ yX3_isAwake ∈ wsL_law := wb_t3 26 rfl rfl
set_option maxRecDepth 4000 in
theorem q_506 : Cond.selects RX10 ⟨"RingShepherds$Plain", "isAwake", "(I)Z"⟩ yX3_isAwake ∈ wsL_law := wb_t3 27 rfl rfl
set_option maxRecDepth 4000 in
theorem q_507 : Cond.methodLink RX5 108 ⟨"RingShepherds$Plain", "force", "()I"⟩ ∈ wsL_law := wb_t3 29 rfl rfl
set_option maxRecDepth 4000 in
theorem q_508 : Cond.sameMethod "RingShepherds$Plain" "RingShepherds$Plain" "force" "()I" ∈ wsL_law := wb_t3 32 rfl rfl
set_option maxRecDepth 4000 in
theorem q_509 : Cond.instanceMethod ⟨"RingShepherds$Plain", "force", "()I"⟩ ∈ wsL_law := wb_t3 30 rfl rfl
set_option maxRecDepth 4000 in
theorem q_510 : Cond.selects RX1 ⟨"RingShepherds$Plain", "force", "()I"⟩ yX1_force ∈ wsL_law := wb_t3 33 rfl rfl
set_option maxRecDepth 4000 in
theorem q_511 : Cond.instanceMethod yX1_force ∈ wsL_law := wb_t3 34 rfl rfl
set_option maxRecDepth 4000 in
theorem q_512 : Cond.code yX1_force cX1_force 1 (some .int) ∈ wsL_law := wb_t3 35 rfl rfl
set_option maxRecDepth 4000 in
theorem q_513 : Cond.code yX3_force cX3_force 1 (some .int) ∈ wsL_law := wb_t3 41 rfl rfl
set_option maxRecDepth 4000 in
theorem q_514 : Cond.selects RX3 yX3_force yX3_force ∈ wsL_law := wb_t3 31 rfl rfl
set_option maxRecDepth 4000 in
theorem q_515 : Cond.selects RX6 ⟨"RingShepherds$Plain", "force", "()I"⟩ yX3_force ∈ wsL_law := wb_t3 36 rfl rfl
set_option maxRecDepth 4000 in
theorem q_516 : Cond.selects RX8 ⟨"RingShepherds$Plain", "force", "()I"⟩ yX8_force ∈ wsL_law := wb_t3 37 rfl rfl
set_option maxRecDepth 4000 in
theorem q_517 : Cond.instanceMethod yX8_force ∈ wsL_law := wb_t3 38 rfl rfl
set_option maxRecDepth 4000 in
theorem q_518 : Cond.code yX8_force cX8_force 1 (some .int) ∈ wsL_law := wb_t3 39 rfl rfl
set_option maxRecDepth 4000 in
theorem q_519 : Cond.selects RX10 ⟨"RingShepherds$Plain", "force", "()I"⟩ yX3_force ∈ wsL_law := wb_t3 40 rfl rfl
set_option maxRecDepth 4000 in
theorem q_520 : Cond.methodLink RX5 111 ⟨"RingShepherds$Plain", "reach", "()I"⟩ ∈ wsL_law := wb_t3 42 rfl rfl
set_option maxRecDepth 4000 in
theorem q_521 : Cond.sameMethod "RingShepherds$Plain" "RingShepherds$Plain" "reach" "()I" ∈ wsL_law := wb_t3 45 rfl rfl
set_option maxRecDepth 4000 in
theorem q_522 : Cond.selects RX1 ⟨"RingShepherds$Plain", "reach", "()I"⟩ yX3_reach ∈ wsL_law := wb_t3 46 rfl rfl
set_option maxRecDepth 4000 in
theorem q_523 : Cond.instanceMethod yX3_reach ∈ wsL_law := wb_t3 43 rfl rfl
set_option maxRecDepth 4000 in
theorem q_524 : Cond.code yX3_reach cX3_reach 1 (some .int) ∈ wsL_law := wb_t3 52 rfl rfl
set_option maxRecDepth 4000 in
theorem q_525 : Cond.selects RX3 yX3_reach yX3_reach ∈ wsL_law := wb_t3 44 rfl rfl
set_option maxRecDepth 4000 in
theorem q_526 : Cond.selects RX6 ⟨"RingShepherds$Plain", "reach", "()I"⟩ yX3_reach ∈ wsL_law := wb_t3 47 rfl rfl
set_option maxRecDepth 4000 in
theorem q_527 : Cond.selects RX8 ⟨"RingShepherds$Plain", "reach", "()I"⟩ yX10_reach ∈ wsL_law := wb_t3 48 rfl rfl
set_option maxRecDepth 4000 in
theorem q_528 : Cond.instanceMethod yX10_reach ∈ wsL_law := wb_t3 49 rfl rfl
set_option maxRecDepth 4000 in
theorem q_529 : Cond.code yX10_reach cX10_reach 1 (some .int) ∈ wsL_law := wb_t3 50 rfl rfl
set_option maxRecDepth 4000 in
theorem q_530 : Cond.selects RX10 ⟨"RingShepherds$Plain", "reach", "()I"⟩ yX10_reach ∈ wsL_law := wb_t3 51 rfl rfl
set_option maxRecDepth 4000 in
theorem q_531 : Cond.methodLink RX5 114 yX5_takeAll ∈ wsL_law := wb_t3 53 rfl rfl
set_option maxRecDepth 4000 in
theorem q_532 : Cond.instanceMethod yX5_takeAll ∈ wsL_law := wb_t3 55 rfl rfl
theorem q_533 : Cond.selects RX5 yX5_takeAll yX5_takeAll ∈ wsL_law := wb_p1 (q := (⟨"RingShepherds$Ring", "takeAll", "(II)I"⟩, 13)) 11 rfl rfl rfl
set_option maxRecDepth 4000 in
theorem q_534 : Cond.code yX5_takeAll cX5_takeAll 5 (some .int) ∈ wsL_law := wb_t3 56 rfl rfl
set_option maxRecDepth 4000 in
theorem q_535 : Cond.methodLink RX5 117 yX5_put ∈ wsL_law := wb_t3 58 rfl rfl
set_option maxRecDepth 4000 in
theorem q_536 : Cond.instanceMethod yX5_put ∈ wsL_law := wb_t3 60 rfl rfl
theorem q_537 : Cond.selects RX5 yX5_put yX5_put ∈ wsL_law := wb_p1 (q := (⟨"RingShepherds$Ring", "put", "(III)I"⟩, 13)) 12 rfl rfl rfl
set_option maxRecDepth 4000 in
theorem q_538 : Cond.code yX5_put cX5_put 4 (some .int) ∈ wsL_law := wb_t3 61 rfl rfl
set_option maxRecDepth 4000 in
theorem q_539 : Cond.methodLink RL 52 yX12_round ∈ wsL_law := wb_t4 218 rfl rfl
set_option maxRecDepth 4000 in
theorem q_540 : Cond.instanceMethod yX12_round ∈ wsL_law := wb_t4 219 rfl rfl
set_option maxRecDepth 4000 in
theorem q_541 : Cond.selects RX12 yX12_round yX12_round ∈ wsL_law := wb_t4 220 rfl rfl
set_option maxRecDepth 4000 in
theorem q_542 : Cond.code yX12_round cX12_round 4 (some .int) ∈ wsL_law := wb_t4 221 rfl rfl
set_option maxRecDepth 4000 in
theorem q_543 : Cond.methodLink RX12 127 yX12_all ∈ wsL_law := wb_t4 222 rfl rfl
set_option maxRecDepth 4000 in
theorem q_544 : Cond.instanceMethod yX12_all ∈ wsL_law := wb_t4 224 rfl rfl
theorem q_545 : Cond.selects RX12 yX12_all yX12_all ∈ wsL_law := wb_p2 (q := (⟨"RingShepherdsModel", "all", "()I"⟩, 25)) 11 rfl rfl rfl
set_option maxRecDepth 4000 in
theorem q_546 : Cond.code yX12_all cX12_all 1 (some .int) ∈ wsL_law := wb_t4 225 rfl rfl
set_option maxRecDepth 4000 in
theorem q_547 : Cond.methodLink RX12 130 yX12_takeNow ∈ wsL_law := wb_t4 226 rfl rfl
set_option maxRecDepth 4000 in
theorem q_548 : Cond.instanceMethod yX12_takeNow ∈ wsL_law := wb_t4 228 rfl rfl
theorem q_549 : Cond.selects RX12 yX12_takeNow yX12_takeNow ∈ wsL_law := wb_p2 (q := (⟨"RingShepherdsModel", "takeNow", "(I)V"⟩, 25)) 12 rfl rfl rfl
set_option maxRecDepth 4000 in
theorem q_550 : Cond.code yX12_takeNow cX12_takeNow 3 none ∈ wsL_law := wb_t4 229 rfl rfl
set_option maxRecDepth 4000 in
theorem q_551 : Cond.fieldLink RX12 101 "RingShepherdsModel" "number" "I" ∈ wsL_law := wb_t4 101 rfl rfl
set_option maxRecDepth 4000 in
theorem q_552 : Cond.fieldLink RX12 105 "RingShepherdsModel" "some" "I" ∈ wsL_law := wb_t4 102 rfl rfl
set_option maxRecDepth 4000 in
theorem q_553 : Cond.methodLink RX12 97 yX12_of ∈ wsL_law := wb_t4 230 rfl rfl
set_option maxRecDepth 4000 in
theorem q_554 : Cond.instanceMethod yX12_of ∈ wsL_law := wb_t4 232 rfl rfl
theorem q_555 : Cond.selects RX12 yX12_of yX12_of ∈ wsL_law := wb_p2 (q := (⟨"RingShepherdsModel", "of", "(II)I"⟩, 25)) 13 rfl rfl rfl
set_option maxRecDepth 4000 in
theorem q_556 : Cond.code yX12_of cX12_of 3 (some .int) ∈ wsL_law := wb_t4 233 rfl rfl
set_option maxRecDepth 4000 in
theorem q_557 : Cond.methodLink RX12 134 yX12_goRound ∈ wsL_law := wb_t4 234 rfl rfl
set_option maxRecDepth 4000 in
theorem q_558 : Cond.instanceMethod yX12_goRound ∈ wsL_law := wb_t4 236 rfl rfl
theorem q_559 : Cond.selects RX12 yX12_goRound yX12_goRound ∈ wsL_law := wb_p2 (q := (⟨"RingShepherdsModel", "goRound", "()I"⟩, 25)) 14 rfl rfl rfl
set_option maxRecDepth 4000 in
theorem q_560 : Cond.code yX12_goRound cX12_goRound 3 (some .int) ∈ wsL_law := wb_t4 237 rfl rfl
set_option maxRecDepth 4000 in
theorem q_561 : Cond.methodLink RX12 118 yX12_goMoons ∈ wsL_law := wb_t4 238 rfl rfl
set_option maxRecDepth 4000 in
theorem q_562 : Cond.instanceMethod yX12_goMoons ∈ wsL_law := wb_t5 0 rfl rfl
theorem q_563 : Cond.selects RX12 yX12_goMoons yX12_goMoons ∈ wsL_law := wb_p2 (q := (⟨"RingShepherdsModel", "goMoons", "()V"⟩, 25)) 15 rfl rfl rfl
set_option maxRecDepth 4000 in
theorem q_564 : Cond.code yX12_goMoons cX12_goMoons 2 none ∈ wsL_law := wb_t5 1 rfl rfl
set_option maxRecDepth 4000 in
theorem q_565 : Cond.methodLink RX12 121 yX12_isAwake ∈ wsL_law := wb_t5 2 rfl rfl
set_option maxRecDepth 4000 in
theorem q_566 : Cond.instanceMethod yX12_isAwake ∈ wsL_law := wb_t5 4 rfl rfl
theorem q_567 : Cond.selects RX12 yX12_isAwake yX12_isAwake ∈ wsL_law := wb_p3 (q := (⟨"RingShepherdsModel", "isAwake", "(I)Z"⟩, 25)) 0 rfl rfl rfl
set_option maxRecDepth 4000 in
theorem q_568 : Cond.code yX12_isAwake cX12_isAwake 2 (some .boolean) ∈ wsL_law := wb_t5 5 rfl rfl
set_option maxRecDepth 4000 in
theorem q_569 : Cond.methodLink RX12 124 yX12_goMoon ∈ wsL_law := wb_t5 6 rfl rfl
set_option maxRecDepth 4000 in
theorem q_570 : Cond.instanceMethod yX12_goMoon ∈ wsL_law := wb_t5 8 rfl rfl
theorem q_571 : Cond.selects RX12 yX12_goMoon yX12_goMoon ∈ wsL_law := wb_p3 (q := (⟨"RingShepherdsModel", "goMoon", "(I)I"⟩, 25)) 1 rfl rfl rfl
set_option maxRecDepth 4000 in
theorem q_572 : Cond.code yX12_goMoon cX12_goMoon 7 (some .int) ∈ wsL_law := wb_t5 9 rfl rfl
set_option maxRecDepth 4000 in
theorem q_573 : Cond.methodLink RX12 108 yX12_isBy ∈ wsL_law := wb_t5 10 rfl rfl
set_option maxRecDepth 4000 in
theorem q_574 : Cond.instanceMethod yX12_isBy ∈ wsL_law := wb_t5 12 rfl rfl
theorem q_575 : Cond.selects RX12 yX12_isBy yX12_isBy ∈ wsL_law := wb_p3 (q := (⟨"RingShepherdsModel", "isBy", "(II)Z"⟩, 25)) 2 rfl rfl rfl
set_option maxRecDepth 4000 in
theorem q_576 : Cond.code yX12_isBy cX12_isBy 5 (some .boolean) ∈ wsL_law := wb_t5 13 rfl rfl
set_option maxRecDepth 4000 in
theorem q_577 : Cond.methodLink RX12 112 yX12_isBeside ∈ wsL_law := wb_t5 14 rfl rfl
set_option maxRecDepth 4000 in
theorem q_578 : Cond.instanceMethod yX12_isBeside ∈ wsL_law := wb_t5 16 rfl rfl
theorem q_579 : Cond.selects RX12 yX12_isBeside yX12_isBeside ∈ wsL_law := wb_p3 (q := (⟨"RingShepherdsModel", "isBeside", "(II)Z"⟩, 25)) 3 rfl rfl rfl
set_option maxRecDepth 4000 in
theorem q_580 : Cond.code yX12_isBeside cX12_isBeside 3 (some .boolean) ∈ wsL_law := wb_t5 17 rfl rfl
set_option maxRecDepth 4000 in
theorem q_581 : Cond.methodLink RX12 115 yX12_movedTo ∈ wsL_law := wb_t5 18 rfl rfl
set_option maxRecDepth 4000 in
theorem q_582 : Cond.instanceMethod yX12_movedTo ∈ wsL_law := wb_t5 20 rfl rfl
theorem q_583 : Cond.selects RX12 yX12_movedTo yX12_movedTo ∈ wsL_law := wb_p3 (q := (⟨"RingShepherdsModel", "movedTo", "(II)I"⟩, 25)) 4 rfl rfl rfl
set_option maxRecDepth 4000 in
theorem q_584 : Cond.code yX12_movedTo cX12_movedTo 6 (some .int) ∈ wsL_law := wb_t5 21 rfl rfl
set_option maxRecDepth 4000 in
theorem q_585 : Cond.methodLink RL 53 yX11_undo ∈ wsL_law := wb_t3 62 rfl rfl
set_option maxRecDepth 4000 in
theorem q_586 : Cond.instanceMethod yX11_undo ∈ wsL_law := wb_t3 63 rfl rfl
set_option maxRecDepth 4000 in
theorem q_587 : Cond.selects RX11 yX11_undo yX11_undo ∈ wsL_law := wb_t3 64 rfl rfl
set_option maxRecDepth 4000 in
theorem q_588 : Cond.code yX11_undo cX11_undo 1 (some .int) ∈ wsL_law := wb_t3 65 rfl rfl
set_option maxRecDepth 4000 in
theorem q_589 : Cond.fieldLink RX11 148 "RingShepherds$Story" "undoable" "I" ∈ wsL_law := wb_t1 146 rfl rfl
set_option maxRecDepth 4000 in
theorem q_590 : Cond.methodLink RX11 151 yX7_goBack ∈ wsL_law := wb_t3 66 rfl rfl
set_option maxRecDepth 4000 in
theorem q_591 : Cond.instanceMethod yX7_goBack ∈ wsL_law := wb_t3 67 rfl rfl
set_option maxRecDepth 4000 in
theorem q_592 : Cond.selects RX7 yX7_goBack yX7_goBack ∈ wsL_law := wb_t3 68 rfl rfl
set_option maxRecDepth 4000 in
theorem q_593 : Cond.code yX7_goBack cX7_goBack 1 none ∈ wsL_law := wb_t3 69 rfl rfl
set_option maxRecDepth 4000 in
theorem q_594 : Cond.methodLink RX7 45 yX5_goBackTo ∈ wsL_law := wb_t3 70 rfl rfl
set_option maxRecDepth 4000 in
theorem q_595 : Cond.methodLink RL 56 yX12_undo ∈ wsL_law := wb_t5 22 rfl rfl
set_option maxRecDepth 4000 in
theorem q_596 : Cond.instanceMethod yX12_undo ∈ wsL_law := wb_t5 23 rfl rfl
set_option maxRecDepth 4000 in
theorem q_597 : Cond.selects RX12 yX12_undo yX12_undo ∈ wsL_law := wb_t5 24 rfl rfl
set_option maxRecDepth 4000 in
theorem q_598 : Cond.code yX12_undo cX12_undo 3 (some .int) ∈ wsL_law := wb_t5 25 rfl rfl
set_option maxRecDepth 4000 in
theorem q_599 : Cond.methodLink RX12 137 yX12_no ∈ wsL_law := wb_t5 26 rfl rfl
set_option maxRecDepth 4000 in
theorem q_600 : Cond.instanceMethod yX12_no ∈ wsL_law := wb_t5 28 rfl rfl
theorem q_601 : Cond.selects RX12 yX12_no yX12_no ∈ wsL_law := wb_p3 (q := (⟨"RingShepherdsModel", "no", "()I"⟩, 25)) 5 rfl rfl rfl
set_option maxRecDepth 4000 in
theorem q_602 : Cond.code yX12_no cX12_no 1 (some .int) ∈ wsL_law := wb_t5 29 rfl rfl
set_option maxRecDepth 4000 in
theorem q_603 : Cond.methodLink RL 57 yX11_there ∈ wsL_law := wb_t3 71 rfl rfl
set_option maxRecDepth 4000 in
theorem q_604 : Cond.instanceMethod yX11_there ∈ wsL_law := wb_t3 72 rfl rfl
set_option maxRecDepth 4000 in
theorem q_605 : Cond.selects RX11 yX11_there yX11_there ∈ wsL_law := wb_t3 73 rfl rfl
set_option maxRecDepth 4000 in
theorem q_606 : Cond.code yX11_there cX11_there 3 (some .int) ∈ wsL_law := wb_t3 74 rfl rfl
set_option maxRecDepth 4000 in
theorem q_607 : Cond.methodLink RX11 154 yX5_lumpsIn ∈ wsL_law := wb_t3 75 rfl rfl
set_option maxRecDepth 4000 in
theorem q_608 : Cond.instanceMethod yX5_lumpsIn ∈ wsL_law := wb_t3 76 rfl rfl
set_option maxRecDepth 4000 in
theorem q_609 : Cond.selects RX5 yX5_lumpsIn yX5_lumpsIn ∈ wsL_law := wb_t3 77 rfl rfl
set_option maxRecDepth 4000 in
theorem q_610 : Cond.code yX5_lumpsIn cX5_lumpsIn 5 (some .int) ∈ wsL_law := wb_t3 78 rfl rfl
set_option maxRecDepth 4000 in
theorem q_611 : Cond.methodLink RL 60 yX12_there ∈ wsL_law := wb_t5 30 rfl rfl
set_option maxRecDepth 4000 in
theorem q_612 : Cond.instanceMethod yX12_there ∈ wsL_law := wb_t5 31 rfl rfl
set_option maxRecDepth 4000 in
theorem q_613 : Cond.selects RX12 yX12_there yX12_there ∈ wsL_law := wb_t5 32 rfl rfl
set_option maxRecDepth 4000 in
theorem q_614 : Cond.code yX12_there cX12_there 3 (some .int) ∈ wsL_law := wb_t5 33 rfl rfl
set_option maxRecDepth 4000 in
theorem q_615 : Cond.methodLink RX12 140 yX12_sumOf ∈ wsL_law := wb_t5 34 rfl rfl
set_option maxRecDepth 4000 in
theorem q_616 : Cond.static yX12_sumOf ∈ wsL_law := wb_t5 35 rfl rfl
set_option maxRecDepth 4000 in
theorem q_617 : Cond.code yX12_sumOf cX12_sumOf 5 (some .int) ∈ wsL_law := wb_t5 36 rfl rfl
set_option maxRecDepth 4000 in
theorem q_618 : Cond.methodLink RL 61 yX11_about ∈ wsL_law := wb_t3 79 rfl rfl
set_option maxRecDepth 4000 in
theorem q_619 : Cond.instanceMethod yX11_about ∈ wsL_law := wb_t3 80 rfl rfl
set_option maxRecDepth 4000 in
theorem q_620 : Cond.selects RX11 yX11_about yX11_about ∈ wsL_law := wb_t3 81 rfl rfl
set_option maxRecDepth 4000 in
theorem q_621 : Cond.code yX11_about cX11_about 3 (some .int) ∈ wsL_law := wb_t3 82 rfl rfl
set_option maxRecDepth 4000 in
theorem q_622 : Cond.methodLink RX11 158 yX11_isMoon ∈ wsL_law := wb_t3 83 rfl rfl
set_option maxRecDepth 4000 in
theorem q_623 : Cond.instanceMethod yX11_isMoon ∈ wsL_law := wb_t3 85 rfl rfl
theorem q_624 : Cond.selects RX11 yX11_isMoon yX11_isMoon ∈ wsL_law := wb_p1 (q := (⟨"RingShepherds", "isMoon", "(I)Z"⟩, 9)) 13 rfl rfl rfl
set_option maxRecDepth 4000 in
theorem q_625 : Cond.code yX11_isMoon cX11_isMoon 2 (some .boolean) ∈ wsL_law := wb_t3 86 rfl rfl
set_option maxRecDepth 4000 in
theorem q_626 : Cond.methodLink RX11 161 yX5_aboutMoon ∈ wsL_law := wb_t3 87 rfl rfl
set_option maxRecDepth 4000 in
theorem q_627 : Cond.instanceMethod yX5_aboutMoon ∈ wsL_law := wb_t3 88 rfl rfl
set_option maxRecDepth 4000 in
theorem q_628 : Cond.selects RX5 yX5_aboutMoon yX5_aboutMoon ∈ wsL_law := wb_t3 89 rfl rfl
set_option maxRecDepth 4000 in
theorem q_629 : Cond.code yX5_aboutMoon cX5_aboutMoon 3 (some .int) ∈ wsL_law := wb_t3 90 rfl rfl
set_option maxRecDepth 4000 in
theorem q_630 : Cond.methodLink RL 64 yX12_about ∈ wsL_law := wb_t5 37 rfl rfl
set_option maxRecDepth 4000 in
theorem q_631 : Cond.instanceMethod yX12_about ∈ wsL_law := wb_t5 38 rfl rfl
set_option maxRecDepth 4000 in
theorem q_632 : Cond.selects RX12 yX12_about yX12_about ∈ wsL_law := wb_t5 39 rfl rfl
set_option maxRecDepth 4000 in
theorem q_633 : Cond.code yX12_about cX12_about 3 (some .int) ∈ wsL_law := wb_t5 40 rfl rfl
set_option maxRecDepth 4000 in
theorem q_634 : Cond.constantLong RX12 147 (3) ∈ wsL_law := wb_t5 45 rfl rfl
set_option maxRecDepth 4000 in
theorem q_635 : Cond.methodLink RX12 144 yX12_isMoon ∈ wsL_law := wb_t5 41 rfl rfl
set_option maxRecDepth 4000 in
theorem q_636 : Cond.instanceMethod yX12_isMoon ∈ wsL_law := wb_t5 43 rfl rfl
theorem q_637 : Cond.selects RX12 yX12_isMoon yX12_isMoon ∈ wsL_law := wb_p3 (q := (⟨"RingShepherdsModel", "isMoon", "(I)Z"⟩, 25)) 6 rfl rfl rfl
set_option maxRecDepth 4000 in
theorem q_638 : Cond.code yX12_isMoon cX12_isMoon 2 (some .boolean) ∈ wsL_law := wb_t5 44 rfl rfl
set_option maxRecDepth 4000 in
theorem q_639 : Cond.methodLink RL 65 yX11_where ∈ wsL_law := wb_t3 91 rfl rfl
set_option maxRecDepth 4000 in
theorem q_640 : Cond.instanceMethod yX11_where ∈ wsL_law := wb_t3 92 rfl rfl
set_option maxRecDepth 4000 in
theorem q_641 : Cond.selects RX11 yX11_where yX11_where ∈ wsL_law := wb_t3 93 rfl rfl
set_option maxRecDepth 4000 in
theorem q_642 : Cond.code yX11_where cX11_where 6 (some .int) ∈ wsL_law := wb_t3 94 rfl rfl
set_option maxRecDepth 4000 in
theorem q_643 : Cond.fieldLink RX11 177 "RingShepherds$Lump" "lane" "I" ∈ wsL_law := wb_t1 173 rfl rfl
set_option maxRecDepth 4000 in
theorem q_644 : Cond.fieldLink RX11 180 "RingShepherds$Lump" "place" "I" ∈ wsL_law := wb_t1 176 rfl rfl
set_option maxRecDepth 4000 in
theorem q_645 : Cond.fieldLink RX11 183 "RingShepherds$Lump" "touched" "I" ∈ wsL_law := wb_t1 178 rfl rfl
set_option maxRecDepth 4000 in
theorem q_646 : Cond.methodLink RX11 164 yX11_isRounds ∈ wsL_law := wb_t3 95 rfl rfl
set_option maxRecDepth 4000 in
theorem q_647 : Cond.static yX11_isRounds ∈ wsL_law := wb_t3 96 rfl rfl
set_option maxRecDepth 4000 in
theorem q_648 : Cond.code yX11_isRounds cX11_isRounds 1 (some .boolean) ∈ wsL_law := wb_t3 97 rfl rfl
set_option maxRecDepth 4000 in
theorem q_649 : Cond.methodLink RX11 167 yX0_follow ∈ wsL_law := wb_t3 98 rfl rfl
set_option maxRecDepth 4000 in
theorem q_650 : Cond.instanceMethod yX0_follow ∈ wsL_law := wb_t3 99 rfl rfl
set_option maxRecDepth 4000 in
theorem q_651 : Cond.selects RX0 yX0_follow yX0_follow ∈ wsL_law := wb_t3 100 rfl rfl
set_option maxRecDepth 4000 in
theorem q_652 : Cond.code yX0_follow cX0_follow 5 (some (.object "RingShepherds$Lump")) ∈ wsL_law := wb_t3 101 rfl rfl
set_option maxRecDepth 4000 in
theorem q_653 : Cond.methodLink RX0 41 yX2_lie ∈ wsL_law := wb_t3 102 rfl rfl
set_option maxRecDepth 4000 in
theorem q_654 : Cond.instanceMethod yX2_lie ∈ wsL_law := wb_t3 103 rfl rfl
set_option maxRecDepth 4000 in
theorem q_655 : Cond.selects RX2 yX2_lie yX2_lie ∈ wsL_law := wb_t3 104 rfl rfl
set_option maxRecDepth 4000 in
theorem q_656 : Cond.code yX2_lie cX2_lie 3 none ∈ wsL_law := wb_t3 105 rfl rfl
set_option maxRecDepth 4000 in
theorem q_657 : Cond.fieldLink RX2 7 "RingShepherds$Lump" "lane" "I" ∈ wsL_law := wb_t1 171 rfl rfl
set_option maxRecDepth 4000 in
theorem q_658 : Cond.fieldLink RX2 13 "RingShepherds$Lump" "place" "I" ∈ wsL_law := wb_t1 174 rfl rfl
set_option maxRecDepth 4000 in
theorem q_659 : Cond.fieldLink RX2 16 "RingShepherds$Lump" "touched" "I" ∈ wsL_law := wb_t1 177 rfl rfl
set_option maxRecDepth 4000 in
theorem q_660 : Cond.methodLink RX0 45 yX2_isLost ∈ wsL_law := wb_t3 106 rfl rfl
set_option maxRecDepth 4000 in
theorem q_661 : Cond.instanceMethod yX2_isLost ∈ wsL_law := wb_t3 107 rfl rfl
set_option maxRecDepth 4000 in
theorem q_662 : Cond.selects RX2 yX2_isLost yX2_isLost ∈ wsL_law := wb_t3 108 rfl rfl
set_option maxRecDepth 4000 in
theorem q_663 : Cond.code yX2_isLost cX2_isLost 1 (some .boolean) ∈ wsL_law := wb_t3 109 rfl rfl
set_option maxRecDepth 4000 in
theorem q_664 : Cond.methodLink RX0 49 yX2_goOn ∈ wsL_law := wb_t3 111 rfl rfl
set_option maxRecDepth 4000 in
theorem q_665 : Cond.instanceMethod yX2_goOn ∈ wsL_law := wb_t3 112 rfl rfl
set_option maxRecDepth 4000 in
theorem q_666 : Cond.selects RX2 yX2_goOn yX2_goOn ∈ wsL_law := wb_t3 113 rfl rfl
set_option maxRecDepth 4000 in
theorem q_667 : Cond.code yX2_goOn cX2_goOn 5 none ∈ wsL_law := wb_t3 114 rfl rfl
set_option maxRecDepth 4000 in
theorem q_668 : Cond.fieldLink RX2 29 "RingShepherds$Ring" "steps" "[I" ∈ wsL_law := wb_t1 88 rfl rfl
set_option maxRecDepth 4000 in
theorem q_669 : Cond.fieldLink RX2 39 "RingShepherds$Ring" "moons" "I" ∈ wsL_law := wb_t1 104 rfl rfl
set_option maxRecDepth 4000 in
theorem q_670 : Cond.methodLink RX2 25 yX2_isLost ∈ wsL_law := wb_t3 115 rfl rfl
set_option maxRecDepth 4000 in
theorem q_671 : Cond.methodLink RX2 35 yX5_around ∈ wsL_law := wb_t3 116 rfl rfl
set_option maxRecDepth 4000 in
theorem q_672 : Cond.methodLink RX2 42 yX5_pushOf ∈ wsL_law := wb_t3 117 rfl rfl
set_option maxRecDepth 4000 in
theorem q_673 : Cond.instanceMethod yX5_pushOf ∈ wsL_law := wb_t3 118 rfl rfl
set_option maxRecDepth 4000 in
theorem q_674 : Cond.selects RX5 yX5_pushOf yX5_pushOf ∈ wsL_law := wb_t3 119 rfl rfl
set_option maxRecDepth 4000 in
theorem q_675 : Cond.code yX5_pushOf cX5_pushOf 8 (some .int) ∈ wsL_law := wb_t3 120 rfl rfl
set_option maxRecDepth 4000 in
theorem q_676 : Cond.methodLink RX5 124 Lib.Math.min.name ∈ wsL_law := wb_t3 121 rfl rfl
set_option maxRecDepth 4000 in
theorem q_677 : Cond.methodLink RX11 171 yX2_isLost ∈ wsL_law := wb_t3 122 rfl rfl
set_option maxRecDepth 4000 in
theorem q_678 : Cond.methodLink RL 68 yX12_where ∈ wsL_law := wb_t5 46 rfl rfl
set_option maxRecDepth 4000 in
theorem q_679 : Cond.instanceMethod yX12_where ∈ wsL_law := wb_t5 47 rfl rfl
set_option maxRecDepth 4000 in
theorem q_680 : Cond.selects RX12 yX12_where yX12_where ∈ wsL_law := wb_t5 48 rfl rfl
set_option maxRecDepth 4000 in
theorem q_681 : Cond.code yX12_where cX12_where 5 (some .int) ∈ wsL_law := wb_t5 49 rfl rfl
set_option maxRecDepth 4000 in
theorem q_682 : Cond.constantLong RX12 166 (2) ∈ wsL_law := wb_t5 54 rfl rfl
set_option maxRecDepth 4000 in
theorem q_683 : Cond.fieldLink RX12 152 "RingShepherdsModel" "oneLane" "I" ∈ wsL_law := wb_t4 103 rfl rfl
set_option maxRecDepth 4000 in
theorem q_684 : Cond.fieldLink RX12 149 "RingShepherdsModel" "onePlace" "I" ∈ wsL_law := wb_t4 104 rfl rfl
set_option maxRecDepth 4000 in
theorem q_685 : Cond.fieldLink RX12 155 "RingShepherdsModel" "oneMoved" "I" ∈ wsL_law := wb_t4 105 rfl rfl
set_option maxRecDepth 4000 in
theorem q_686 : Cond.methodLink RX12 163 yX12_isLong ∈ wsL_law := wb_t5 50 rfl rfl
set_option maxRecDepth 4000 in
theorem q_687 : Cond.static yX12_isLong ∈ wsL_law := wb_t5 51 rfl rfl
set_option maxRecDepth 4000 in
theorem q_688 : Cond.code yX12_isLong cX12_isLong 1 (some .boolean) ∈ wsL_law := wb_t5 52 rfl rfl
set_option maxRecDepth 4000 in
theorem q_689 : Cond.constantLong RX12 161 (60) ∈ wsL_law := wb_t5 53 rfl rfl
set_option maxRecDepth 4000 in
theorem q_690 : Cond.methodLink RX12 168 yX12_goOneOn ∈ wsL_law := wb_t5 55 rfl rfl
set_option maxRecDepth 4000 in
theorem q_691 : Cond.instanceMethod yX12_goOneOn ∈ wsL_law := wb_t5 57 rfl rfl
theorem q_692 : Cond.selects RX12 yX12_goOneOn yX12_goOneOn ∈ wsL_law := wb_p3 (q := (⟨"RingShepherdsModel", "goOneOn", "(III)V"⟩, 25)) 7 rfl rfl rfl
set_option maxRecDepth 4000 in
theorem q_693 : Cond.code yX12_goOneOn cX12_goOneOn 5 none ∈ wsL_law := wb_t5 58 rfl rfl
set_option maxRecDepth 4000 in
theorem q_694 : Cond.methodLink RX12 158 yX12_goOne ∈ wsL_law := wb_t5 59 rfl rfl
set_option maxRecDepth 4000 in
theorem q_695 : Cond.instanceMethod yX12_goOne ∈ wsL_law := wb_t5 61 rfl rfl
theorem q_696 : Cond.selects RX12 yX12_goOne yX12_goOne ∈ wsL_law := wb_p3 (q := (⟨"RingShepherdsModel", "goOne", "()V"⟩, 25)) 8 rfl rfl rfl
set_option maxRecDepth 4000 in
theorem q_697 : Cond.code yX12_goOne cX12_goOne 2 none ∈ wsL_law := wb_t5 62 rfl rfl
set_option maxRecDepth 4000 in
theorem q_698 : Cond.methodLink RL 69 yX11_loss ∈ wsL_law := wb_t3 123 rfl rfl
set_option maxRecDepth 4000 in
theorem q_699 : Cond.instanceMethod yX11_loss ∈ wsL_law := wb_t3 124 rfl rfl
set_option maxRecDepth 4000 in
theorem q_700 : Cond.selects RX11 yX11_loss yX11_loss ∈ wsL_law := wb_t3 125 rfl rfl
set_option maxRecDepth 4000 in
theorem q_701 : Cond.code yX11_loss cX11_loss 2 (some .int) ∈ wsL_law := wb_t3 126 rfl rfl
set_option maxRecDepth 4000 in
theorem q_702 : Cond.methodLink RX11 186 yX0_lossIn ∈ wsL_law := wb_t3 127 rfl rfl
set_option maxRecDepth 4000 in
theorem q_703 : Cond.instanceMethod yX0_lossIn ∈ wsL_law := wb_t3 128 rfl rfl
set_option maxRecDepth 4000 in
theorem q_704 : Cond.selects RX0 yX0_lossIn yX0_lossIn ∈ wsL_law := wb_t3 129 rfl rfl
set_option maxRecDepth 4000 in
theorem q_705 : Cond.code yX0_lossIn cX0_lossIn 2 (some .int) ∈ wsL_law := wb_t3 130 rfl rfl
set_option maxRecDepth 4000 in
theorem q_706 : Cond.methodLink RX0 53 yX5_copy ∈ wsL_law := wb_t3 131 rfl rfl
set_option maxRecDepth 4000 in
theorem q_707 : Cond.methodLink RX0 59 yX5_goOnBy ∈ wsL_law := wb_t3 132 rfl rfl
set_option maxRecDepth 4000 in
theorem q_708 : Cond.instanceMethod yX5_goOnBy ∈ wsL_law := wb_t3 133 rfl rfl
set_option maxRecDepth 4000 in
theorem q_709 : Cond.selects RX5 yX5_goOnBy yX5_goOnBy ∈ wsL_law := wb_t3 134 rfl rfl
set_option maxRecDepth 4000 in
theorem q_710 : Cond.code yX5_goOnBy cX5_goOnBy 4 (some .int) ∈ wsL_law := wb_t3 135 rfl rfl
set_option maxRecDepth 4000 in
theorem q_711 : Cond.methodLink RX5 98 yX5_goOn ∈ wsL_law := wb_t3 136 rfl rfl
set_option maxRecDepth 4000 in
theorem q_712 : Cond.methodLink RL 72 yX12_loss ∈ wsL_law := wb_t5 63 rfl rfl
set_option maxRecDepth 4000 in
theorem q_713 : Cond.instanceMethod yX12_loss ∈ wsL_law := wb_t5 64 rfl rfl
set_option maxRecDepth 4000 in
theorem q_714 : Cond.selects RX12 yX12_loss yX12_loss ∈ wsL_law := wb_t5 65 rfl rfl
set_option maxRecDepth 4000 in
theorem q_715 : Cond.code yX12_loss cX12_loss 2 (some .int) ∈ wsL_law := wb_t5 66 rfl rfl
set_option maxRecDepth 4000 in
theorem q_716 : Cond.methodLink RX12 172 yX12_lossOf ∈ wsL_law := wb_t5 67 rfl rfl
set_option maxRecDepth 4000 in
theorem q_717 : Cond.instanceMethod yX12_lossOf ∈ wsL_law := wb_t5 69 rfl rfl
theorem q_718 : Cond.selects RX12 yX12_lossOf yX12_lossOf ∈ wsL_law := wb_p3 (q := (⟨"RingShepherdsModel", "lossOf", "(II)I"⟩, 25)) 9 rfl rfl rfl
set_option maxRecDepth 4000 in
theorem q_719 : Cond.code yX12_lossOf cX12_lossOf 5 (some .int) ∈ wsL_law := wb_t5 70 rfl rfl
set_option maxRecDepth 4000 in
theorem q_720 : Cond.methodLink RL 73 yX11_pushes ∈ wsL_law := wb_t3 137 rfl rfl
set_option maxRecDepth 4000 in
theorem q_721 : Cond.instanceMethod yX11_pushes ∈ wsL_law := wb_t3 138 rfl rfl
set_option maxRecDepth 4000 in
theorem q_722 : Cond.selects RX11 yX11_pushes yX11_pushes ∈ wsL_law := wb_t3 139 rfl rfl
set_option maxRecDepth 4000 in
theorem q_723 : Cond.code yX11_pushes cX11_pushes 2 (some .int) ∈ wsL_law := wb_t3 140 rfl rfl
set_option maxRecDepth 4000 in
theorem q_724 : Cond.methodLink RX11 189 yX0_fewestPushes ∈ wsL_law := wb_t3 141 rfl rfl
set_option maxRecDepth 4000 in
theorem q_725 : Cond.instanceMethod yX0_fewestPushes ∈ wsL_law := wb_t3 142 rfl rfl
set_option maxRecDepth 4000 in
theorem q_726 : Cond.selects RX0 yX0_fewestPushes yX0_fewestPushes ∈ wsL_law := wb_t3 143 rfl rfl
set_option maxRecDepth 4000 in
theorem q_727 : Cond.code yX0_fewestPushes cX0_fewestPushes 7 (some .int) ∈ wsL_law := wb_t3 144 rfl rfl
set_option maxRecDepth 4000 in
theorem q_728 : Cond.fieldLink RX0 63 "RingShepherds$Ring" "places" "I" ∈ wsL_law := wb_t1 101 rfl rfl
set_option maxRecDepth 4000 in
theorem q_729 : Cond.methodLink RX0 70 yJ7_fill_53178 ∈ wsL_law := wb_t3 145 rfl rfl
set_option maxRecDepth 4000 in
theorem q_730 : Cond.methodLink RX0 76 yX0_leaveInRound ∈ wsL_law := wb_t3 146 rfl rfl
set_option maxRecDepth 4000 in
theorem q_731 : Cond.instanceMethod yX0_leaveInRound ∈ wsL_law := wb_t3 148 rfl rfl
theorem q_732 : Cond.selects RX0 yX0_leaveInRound yX0_leaveInRound ∈ wsL_law := wb_p1 (q := (⟨"RingShepherds$Course", "leaveInRound", "(I)V"⟩, 8)) 14 rfl rfl rfl
set_option maxRecDepth 4000 in
theorem q_733 : Cond.code yX0_leaveInRound cX0_leaveInRound 4 none ∈ wsL_law := wb_t3 149 rfl rfl
set_option maxRecDepth 4000 in
theorem q_734 : Cond.fieldLink RX0 90 "RingShepherds$Lump" "lane" "I" ∈ wsL_law := wb_t1 172 rfl rfl
set_option maxRecDepth 4000 in
theorem q_735 : Cond.fieldLink RX0 93 "RingShepherds$Lump" "place" "I" ∈ wsL_law := wb_t1 175 rfl rfl
set_option maxRecDepth 4000 in
theorem q_736 : Cond.methodLink RX0 87 yX0_cell ∈ wsL_law := wb_t3 150 rfl rfl
set_option maxRecDepth 4000 in
theorem q_737 : Cond.static yX0_cell ∈ wsL_law := wb_t3 151 rfl rfl
set_option maxRecDepth 4000 in
theorem q_738 : Cond.code yX0_cell cX0_cell 2 (some .int) ∈ wsL_law := wb_t3 152 rfl rfl
set_option maxRecDepth 4000 in
theorem q_739 : Cond.methodLink RX0 80 yX0_pushAheadOfRound ∈ wsL_law := wb_t3 153 rfl rfl
set_option maxRecDepth 4000 in
theorem q_740 : Cond.instanceMethod yX0_pushAheadOfRound ∈ wsL_law := wb_t3 155 rfl rfl
theorem q_741 : Cond.selects RX0 yX0_pushAheadOfRound yX0_pushAheadOfRound ∈ wsL_law := wb_p1 (q := (⟨"RingShepherds$Course", "pushAheadOfRound", "()V"⟩, 8)) 15 rfl rfl rfl
set_option maxRecDepth 4000 in
theorem q_742 : Cond.code yX0_pushAheadOfRound cX0_pushAheadOfRound 4 none ∈ wsL_law := wb_t3 156 rfl rfl
set_option maxRecDepth 4000 in
theorem q_743 : Cond.methodLink RX0 99 Lib.Math.min.name ∈ wsL_law := wb_t3 162 rfl rfl
set_option maxRecDepth 4000 in
theorem q_744 : Cond.methodLink RX0 96 yX0_costIfLeft ∈ wsL_law := wb_t3 157 rfl rfl
set_option maxRecDepth 4000 in
theorem q_745 : Cond.instanceMethod yX0_costIfLeft ∈ wsL_law := wb_t3 159 rfl rfl
theorem q_746 : Cond.selects RX0 yX0_costIfLeft yX0_costIfLeft ∈ wsL_law := wb_p2 (q := (⟨"RingShepherds$Course", "costIfLeft", "(II)I"⟩, 8)) 0 rfl rfl rfl
set_option maxRecDepth 4000 in
theorem q_747 : Cond.code yX0_costIfLeft cX0_costIfLeft 3 (some .int) ∈ wsL_law := wb_t3 160 rfl rfl
set_option maxRecDepth 4000 in
theorem q_748 : Cond.methodLink RX0 83 yX5_lumpsAt ∈ wsL_law := wb_t3 163 rfl rfl
set_option maxRecDepth 4000 in
theorem q_749 : Cond.methodLink RL 76 yX12_pushes ∈ wsL_law := wb_t5 71 rfl rfl
set_option maxRecDepth 4000 in
theorem q_750 : Cond.instanceMethod yX12_pushes ∈ wsL_law := wb_t5 72 rfl rfl
set_option maxRecDepth 4000 in
theorem q_751 : Cond.selects RX12 yX12_pushes yX12_pushes ∈ wsL_law := wb_t5 73 rfl rfl
set_option maxRecDepth 4000 in
theorem q_752 : Cond.code yX12_pushes cX12_pushes 9 (some .int) ∈ wsL_law := wb_t5 74 rfl rfl
set_option maxRecDepth 4000 in
theorem q_753 : Cond.constantLong RX12 175 (12) ∈ wsL_law := wb_t5 75 rfl rfl
set_option maxRecDepth 4000 in
theorem q_754 : Cond.constant RX12 177 (100000000) ∈ wsL_law := wb_t5 76 rfl rfl
set_option maxRecDepth 4000 in
theorem q_755 : Cond.methodLink RX12 178 yX12_behind ∈ wsL_law := wb_t5 77 rfl rfl
set_option maxRecDepth 4000 in
theorem q_756 : Cond.instanceMethod yX12_behind ∈ wsL_law := wb_t5 79 rfl rfl
theorem q_757 : Cond.selects RX12 yX12_behind yX12_behind ∈ wsL_law := wb_p3 (q := (⟨"RingShepherdsModel", "behind", "(III)I"⟩, 25)) 10 rfl rfl rfl
set_option maxRecDepth 4000 in
theorem q_758 : Cond.code yX12_behind cX12_behind 5 (some .int) ∈ wsL_law := wb_t5 80 rfl rfl
set_option maxRecDepth 4000 in
theorem q_759 : Cond.methodLink RL 77 yX11_moved ∈ wsL_law := wb_t3 164 rfl rfl
set_option maxRecDepth 4000 in
theorem q_760 : Cond.instanceMethod yX11_moved ∈ wsL_law := wb_t3 165 rfl rfl
set_option maxRecDepth 4000 in
theorem q_761 : Cond.selects RX11 yX11_moved yX11_moved ∈ wsL_law := wb_t3 166 rfl rfl
set_option maxRecDepth 4000 in
theorem q_762 : Cond.code yX11_moved cX11_moved 3 (some .int) ∈ wsL_law := wb_t3 167 rfl rfl
set_option maxRecDepth 4000 in
theorem q_763 : Cond.methodLink RX11 192 yX0_bestMove ∈ wsL_law := wb_t3 168 rfl rfl
set_option maxRecDepth 4000 in
theorem q_764 : Cond.instanceMethod yX0_bestMove ∈ wsL_law := wb_t3 169 rfl rfl
set_option maxRecDepth 4000 in
theorem q_765 : Cond.selects RX0 yX0_bestMove yX0_bestMove ∈ wsL_law := wb_t3 170 rfl rfl
set_option maxRecDepth 4000 in
theorem q_766 : Cond.code yX0_bestMove cX0_bestMove 7 (some .int) ∈ wsL_law := wb_t3 171 rfl rfl
set_option maxRecDepth 4000 in
theorem q_767 : Cond.methodLink RX0 67 yX5_moveMoon ∈ wsL_law := wb_t3 172 rfl rfl
set_option maxRecDepth 4000 in
theorem q_768 : Cond.methodLink RL 80 yX12_moved ∈ wsL_law := wb_t5 81 rfl rfl
set_option maxRecDepth 4000 in
theorem q_769 : Cond.instanceMethod yX12_moved ∈ wsL_law := wb_t5 82 rfl rfl
set_option maxRecDepth 4000 in
theorem q_770 : Cond.selects RX12 yX12_moved yX12_moved ∈ wsL_law := wb_t5 83 rfl rfl
set_option maxRecDepth 4000 in
theorem q_771 : Cond.code yX12_moved cX12_moved 9 (some .int) ∈ wsL_law := wb_t5 84 rfl rfl
set_option maxRecDepth 4000 in
theorem q_772 : Cond.methodLink RL 81 yX11_road ∈ wsL_law := wb_t3 173 rfl rfl
set_option maxRecDepth 4000 in
theorem q_773 : Cond.instanceMethod yX11_road ∈ wsL_law := wb_t3 174 rfl rfl
set_option maxRecDepth 4000 in
theorem q_774 : Cond.selects RX11 yX11_road yX11_road ∈ wsL_law := wb_t3 175 rfl rfl
set_option maxRecDepth 4000 in
theorem q_775 : Cond.code yX11_road cX11_road 5 (some .int) ∈ wsL_law := wb_t3 176 rfl rfl
set_option maxRecDepth 4000 in
theorem q_776 : Cond.methodLink RX11 195 yX0_roadOpens ∈ wsL_law := wb_t3 177 rfl rfl
set_option maxRecDepth 4000 in
theorem q_777 : Cond.instanceMethod yX0_roadOpens ∈ wsL_law := wb_t3 178 rfl rfl
set_option maxRecDepth 4000 in
theorem q_778 : Cond.selects RX0 yX0_roadOpens yX0_roadOpens ∈ wsL_law := wb_t3 179 rfl rfl
set_option maxRecDepth 4000 in
theorem q_779 : Cond.code yX0_roadOpens cX0_roadOpens 4 (some .int) ∈ wsL_law := wb_t3 180 rfl rfl
set_option maxRecDepth 4000 in
theorem q_780 : Cond.methodLink RX0 108 yX5_isClear ∈ wsL_law := wb_t3 181 rfl rfl
set_option maxRecDepth 4000 in
theorem q_781 : Cond.instanceMethod yX5_isClear ∈ wsL_law := wb_t3 182 rfl rfl
set_option maxRecDepth 4000 in
theorem q_782 : Cond.selects RX5 yX5_isClear yX5_isClear ∈ wsL_law := wb_t3 183 rfl rfl
set_option maxRecDepth 4000 in
theorem q_783 : Cond.code yX5_isClear cX5_isClear 3 (some .boolean) ∈ wsL_law := wb_t3 184 rfl rfl
set_option maxRecDepth 4000 in
theorem q_784 : Cond.methodLink RX5 81 yX5_lumpsAt ∈ wsL_law := wb_t3 185 rfl rfl
set_option maxRecDepth 4000 in
theorem q_785 : Cond.methodLink RX0 111 yX5_goOn ∈ wsL_law := wb_t3 186 rfl rfl
set_option maxRecDepth 4000 in
theorem q_786 : Cond.methodLink RX11 198 yX0_roadLasts ∈ wsL_law := wb_t3 187 rfl rfl
set_option maxRecDepth 4000 in
theorem q_787 : Cond.instanceMethod yX0_roadLasts ∈ wsL_law := wb_t3 188 rfl rfl
set_option maxRecDepth 4000 in
theorem q_788 : Cond.selects RX0 yX0_roadLasts yX0_roadLasts ∈ wsL_law := wb_t3 189 rfl rfl
set_option maxRecDepth 4000 in
theorem q_789 : Cond.code yX0_roadLasts cX0_roadLasts 5 (some .int) ∈ wsL_law := wb_t3 190 rfl rfl
set_option maxRecDepth 4000 in
theorem q_790 : Cond.methodLink RL 84 yX12_road ∈ wsL_law := wb_t5 85 rfl rfl
set_option maxRecDepth 4000 in
theorem q_791 : Cond.instanceMethod yX12_road ∈ wsL_law := wb_t5 86 rfl rfl
set_option maxRecDepth 4000 in
theorem q_792 : Cond.selects RX12 yX12_road yX12_road ∈ wsL_law := wb_t5 87 rfl rfl
set_option maxRecDepth 4000 in
theorem q_793 : Cond.code yX12_road cX12_road 10 (some .int) ∈ wsL_law := wb_t5 88 rfl rfl
set_option maxRecDepth 4000 in
theorem q_794 : Cond.methodLink RX12 182 yX12_isRoad ∈ wsL_law := wb_t5 89 rfl rfl
set_option maxRecDepth 4000 in
theorem q_795 : Cond.instanceMethod yX12_isRoad ∈ wsL_law := wb_t5 91 rfl rfl
theorem q_796 : Cond.selects RX12 yX12_isRoad yX12_isRoad ∈ wsL_law := wb_p3 (q := (⟨"RingShepherdsModel", "isRoad", "(I)Z"⟩, 25)) 11 rfl rfl rfl
set_option maxRecDepth 4000 in
theorem q_797 : Cond.code yX12_isRoad cX12_isRoad 4 (some .boolean) ∈ wsL_law := wb_t5 92 rfl rfl
set_option maxRecDepth 4000 in
theorem q_798 : Cond.methodLink RL 85 yX11_back ∈ wsL_law := wb_t3 191 rfl rfl
set_option maxRecDepth 4000 in
theorem q_799 : Cond.instanceMethod yX11_back ∈ wsL_law := wb_t3 192 rfl rfl
set_option maxRecDepth 4000 in
theorem q_800 : Cond.selects RX11 yX11_back yX11_back ∈ wsL_law := wb_t3 193 rfl rfl
set_option maxRecDepth 4000 in
theorem q_801 : Cond.code yX11_back cX11_back 1 (some .int) ∈ wsL_law := wb_t3 194 rfl rfl
set_option maxRecDepth 4000 in
theorem q_802 : Cond.methodLink RX11 202 yX5_comesRound ∈ wsL_law := wb_t3 195 rfl rfl
set_option maxRecDepth 4000 in
theorem q_803 : Cond.instanceMethod yX5_comesRound ∈ wsL_law := wb_t3 196 rfl rfl
set_option maxRecDepth 4000 in
theorem q_804 : Cond.selects RX5 yX5_comesRound yX5_comesRound ∈ wsL_law := wb_t3 197 rfl rfl
set_option maxRecDepth 4000 in
theorem q_805 : Cond.code yX5_comesRound cX5_comesRound 2 (some .int) ∈ wsL_law := wb_t3 198 rfl rfl
set_option maxRecDepth 4000 in
theorem q_806 : Cond.methodLink RX5 129 yX5_isRoundBehind ∈ wsL_law := wb_t3 199 rfl rfl
set_option maxRecDepth 4000 in
theorem q_807 : Cond.instanceMethod yX5_isRoundBehind ∈ wsL_law := wb_t3 201 rfl rfl
theorem q_808 : Cond.selects RX5 yX5_isRoundBehind yX5_isRoundBehind ∈ wsL_law := wb_p2 (q := (⟨"RingShepherds$Ring", "isRoundBehind", "(I)Z"⟩, 13)) 1 rfl rfl rfl
set_option maxRecDepth 4000 in
theorem q_809 : Cond.code yX5_isRoundBehind cX5_isRoundBehind 3 (some .boolean) ∈ wsL_law := wb_t3 202 rfl rfl
set_option maxRecDepth 4000 in
theorem q_810 : Cond.methodLink RL 88 yX12_back ∈ wsL_law := wb_t5 93 rfl rfl
set_option maxRecDepth 4000 in
theorem q_811 : Cond.instanceMethod yX12_back ∈ wsL_law := wb_t5 94 rfl rfl
set_option maxRecDepth 4000 in
theorem q_812 : Cond.selects RX12 yX12_back yX12_back ∈ wsL_law := wb_t5 95 rfl rfl
set_option maxRecDepth 4000 in
theorem q_813 : Cond.code yX12_back cX12_back 4 (some .int) ∈ wsL_law := wb_t5 96 rfl rfl
set_option maxRecDepth 4000 in
theorem q_814 : Cond.methodLink RX12 188 yX12_turns ∈ wsL_law := wb_t5 97 rfl rfl
set_option maxRecDepth 4000 in
theorem q_815 : Cond.instanceMethod yX12_turns ∈ wsL_law := wb_t5 99 rfl rfl
theorem q_816 : Cond.selects RX12 yX12_turns yX12_turns ∈ wsL_law := wb_p3 (q := (⟨"RingShepherdsModel", "turns", "(I)I"⟩, 25)) 12 rfl rfl rfl
set_option maxRecDepth 4000 in
theorem q_817 : Cond.code yX12_turns cX12_turns 2 (some .int) ∈ wsL_law := wb_t5 100 rfl rfl
set_option maxRecDepth 4000 in
theorem q_818 : Cond.methodLink RX12 185 yX12_common ∈ wsL_law := wb_t5 101 rfl rfl
set_option maxRecDepth 4000 in
theorem q_819 : Cond.static yX12_common ∈ wsL_law := wb_t5 102 rfl rfl
set_option maxRecDepth 4000 in
theorem q_820 : Cond.code yX12_common cX12_common 5 (some .int) ∈ wsL_law := wb_t5 103 rfl rfl
set_option maxRecDepth 4000 in
theorem q_821 : Cond.methodLink RL 89 yX11_told ∈ wsL_law := wb_t3 203 rfl rfl
set_option maxRecDepth 4000 in
theorem q_822 : Cond.instanceMethod yX11_told ∈ wsL_law := wb_t3 204 rfl rfl
set_option maxRecDepth 4000 in
theorem q_823 : Cond.selects RX11 yX11_told yX11_told ∈ wsL_law := wb_t3 205 rfl rfl
set_option maxRecDepth 4000 in
theorem q_824 : Cond.code yX11_told cX11_told 4 (some .int) ∈ wsL_law := wb_t3 206 rfl rfl
set_option maxRecDepth 4000 in
theorem q_825 : Cond.fieldLink RX11 205 "RingShepherds$Ring" "counts" "[I" ∈ wsL_law := wb_t1 92 rfl rfl
set_option maxRecDepth 4000 in
theorem q_826 : Cond.methodLink RL 92 yX12_told ∈ wsL_law := wb_t5 104 rfl rfl
set_option maxRecDepth 4000 in
theorem q_827 : Cond.instanceMethod yX12_told ∈ wsL_law := wb_t5 105 rfl rfl
set_option maxRecDepth 4000 in
theorem q_828 : Cond.selects RX12 yX12_told yX12_told ∈ wsL_law := wb_t5 106 rfl rfl
set_option maxRecDepth 4000 in
theorem q_829 : Cond.code yX12_told cX12_told 4 (some .int) ∈ wsL_law := wb_t5 107 rfl rfl
set_option maxRecDepth 4000 in
theorem q_830 : Cond.constantLong RX12 191 (9999) ∈ wsL_law := wb_t5 108 rfl rfl
set_option maxRecDepth 4000 in
theorem q_831 : Cond.methodLink RL 93 yX11_taken ∈ wsL_law := wb_t3 207 rfl rfl
set_option maxRecDepth 4000 in
theorem q_832 : Cond.instanceMethod yX11_taken ∈ wsL_law := wb_t3 208 rfl rfl
set_option maxRecDepth 4000 in
theorem q_833 : Cond.selects RX11 yX11_taken yX11_taken ∈ wsL_law := wb_t3 209 rfl rfl
set_option maxRecDepth 4000 in
theorem q_834 : Cond.code yX11_taken cX11_taken 4 (some .int) ∈ wsL_law := wb_t3 210 rfl rfl
set_option maxRecDepth 4000 in
theorem q_835 : Cond.methodLink RX11 208 yX0_findTaken ∈ wsL_law := wb_t3 211 rfl rfl
set_option maxRecDepth 4000 in
theorem q_836 : Cond.instanceMethod yX0_findTaken ∈ wsL_law := wb_t3 212 rfl rfl
set_option maxRecDepth 4000 in
theorem q_837 : Cond.selects RX0 yX0_findTaken yX0_findTaken ∈ wsL_law := wb_t3 213 rfl rfl
set_option maxRecDepth 4000 in
theorem q_838 : Cond.code yX0_findTaken cX0_findTaken 5 (some .int) ∈ wsL_law := wb_t3 214 rfl rfl
set_option maxRecDepth 4000 in
theorem q_839 : Cond.methodLink RX0 114 yX0_fitsWithout ∈ wsL_law := wb_t3 215 rfl rfl
set_option maxRecDepth 4000 in
theorem q_840 : Cond.instanceMethod yX0_fitsWithout ∈ wsL_law := wb_t3 217 rfl rfl
theorem q_841 : Cond.selects RX0 yX0_fitsWithout yX0_fitsWithout ∈ wsL_law := wb_p2 (q := (⟨"RingShepherds$Course", "fitsWithout", "(III)Z"⟩, 8)) 2 rfl rfl rfl
set_option maxRecDepth 4000 in
theorem q_842 : Cond.code yX0_fitsWithout cX0_fitsWithout 7 (some .boolean) ∈ wsL_law := wb_t3 218 rfl rfl
set_option maxRecDepth 4000 in
theorem q_843 : Cond.fieldLink RX0 125 "RingShepherds$Ring" "counts" "[I" ∈ wsL_law := wb_t1 91 rfl rfl
set_option maxRecDepth 4000 in
theorem q_844 : Cond.methodLink RX0 118 yX0_follow ∈ wsL_law := wb_t3 219 rfl rfl
set_option maxRecDepth 4000 in
theorem q_845 : Cond.methodLink RX0 122 yX5_lumpsIn ∈ wsL_law := wb_t3 220 rfl rfl
set_option maxRecDepth 4000 in
theorem q_846 : Cond.methodLink RX11 211 yX0_takenAt ∈ wsL_law := wb_t3 221 rfl rfl
set_option maxRecDepth 4000 in
theorem q_847 : Cond.instanceMethod yX0_takenAt ∈ wsL_law := wb_t3 222 rfl rfl
set_option maxRecDepth 4000 in
theorem q_848 : Cond.selects RX0 yX0_takenAt yX0_takenAt ∈ wsL_law := wb_t3 223 rfl rfl
set_option maxRecDepth 4000 in
theorem q_849 : Cond.code yX0_takenAt cX0_takenAt 2 (some .int) ∈ wsL_law := wb_t3 224 rfl rfl
set_option maxRecDepth 4000 in
theorem q_850 : Cond.methodLink RL 96 yX12_taken ∈ wsL_law := wb_t5 109 rfl rfl
set_option maxRecDepth 4000 in
theorem q_851 : Cond.instanceMethod yX12_taken ∈ wsL_law := wb_t5 110 rfl rfl
set_option maxRecDepth 4000 in
theorem q_852 : Cond.selects RX12 yX12_taken yX12_taken ∈ wsL_law := wb_t5 111 rfl rfl
set_option maxRecDepth 4000 in
theorem q_853 : Cond.code yX12_taken cX12_taken 8 (some .int) ∈ wsL_law := wb_t5 112 rfl rfl
set_option maxRecDepth 4000 in
theorem q_854 : Cond.methodLink RX12 193 yX12_isTold ∈ wsL_law := wb_t5 113 rfl rfl
set_option maxRecDepth 4000 in
theorem q_855 : Cond.instanceMethod yX12_isTold ∈ wsL_law := wb_t5 115 rfl rfl
theorem q_856 : Cond.selects RX12 yX12_isTold yX12_isTold ∈ wsL_law := wb_p3 (q := (⟨"RingShepherdsModel", "isTold", "(II)Z"⟩, 25)) 13 rfl rfl rfl
set_option maxRecDepth 4000 in
theorem q_857 : Cond.code yX12_isTold cX12_isTold 5 (some .boolean) ∈ wsL_law := wb_t5 116 rfl rfl
set_option maxRecDepth 4000 in
theorem q_858 : Cond.methodLink RL 97 yX11_game ∈ wsL_law := wb_t3 225 rfl rfl
set_option maxRecDepth 4000 in
theorem q_859 : Cond.instanceMethod yX11_game ∈ wsL_law := wb_t3 226 rfl rfl
set_option maxRecDepth 4000 in
theorem q_860 : Cond.selects RX11 yX11_game yX11_game ∈ wsL_law := wb_t3 227 rfl rfl
set_option maxRecDepth 4000 in
theorem q_861 : Cond.code yX11_game cX11_game 3 (some .int) ∈ wsL_law := wb_t3 228 rfl rfl
set_option maxRecDepth 4000 in
theorem q_862 : Cond.constant RX11 214 (-100000) ∈ wsL_law := wb_t3 229 rfl rfl
set_option maxRecDepth 4000 in
theorem q_863 : Cond.methodLink RX11 215 yX0_farmerAhead ∈ wsL_law := wb_t3 230 rfl rfl
set_option maxRecDepth 4000 in
theorem q_864 : Cond.instanceMethod yX0_farmerAhead ∈ wsL_law := wb_t3 231 rfl rfl
set_option maxRecDepth 4000 in
theorem q_865 : Cond.selects RX0 yX0_farmerAhead yX0_farmerAhead ∈ wsL_law := wb_t3 232 rfl rfl
set_option maxRecDepth 4000 in
theorem q_866 : Cond.code yX0_farmerAhead cX0_farmerAhead 2 (some .int) ∈ wsL_law := wb_t3 233 rfl rfl
set_option maxRecDepth 4000 in
theorem q_867 : Cond.methodLink RX0 128 yX0_sumLanes ∈ wsL_law := wb_t3 234 rfl rfl
set_option maxRecDepth 4000 in
theorem q_868 : Cond.instanceMethod yX0_sumLanes ∈ wsL_law := wb_t3 236 rfl rfl
theorem q_869 : Cond.selects RX0 yX0_sumLanes yX0_sumLanes ∈ wsL_law := wb_p2 (q := (⟨"RingShepherds$Course", "sumLanes", "()V"⟩, 8)) 3 rfl rfl rfl
set_option maxRecDepth 4000 in
theorem q_870 : Cond.code yX0_sumLanes cX0_sumLanes 2 none ∈ wsL_law := wb_t3 237 rfl rfl
set_option maxRecDepth 4000 in
theorem q_871 : Cond.methodLink RX0 131 yX0_aheadBy ∈ wsL_law := wb_t3 238 rfl rfl
set_option maxRecDepth 4000 in
theorem q_872 : Cond.static yX0_aheadBy ∈ wsL_law := wb_t3 239 rfl rfl
set_option maxRecDepth 4000 in
theorem q_873 : Cond.code yX0_aheadBy cX0_aheadBy 7 (some .int) ∈ wsL_law := wb_t4 0 rfl rfl
set_option maxRecDepth 4000 in
theorem q_874 : Cond.methodLink RX11 218 yX0_firstTaken ∈ wsL_law := wb_t4 1 rfl rfl
set_option maxRecDepth 4000 in
theorem q_875 : Cond.instanceMethod yX0_firstTaken ∈ wsL_law := wb_t4 2 rfl rfl
set_option maxRecDepth 4000 in
theorem q_876 : Cond.selects RX0 yX0_firstTaken yX0_firstTaken ∈ wsL_law := wb_t4 3 rfl rfl
set_option maxRecDepth 4000 in
theorem q_877 : Cond.code yX0_firstTaken cX0_firstTaken 4 (some .int) ∈ wsL_law := wb_t4 4 rfl rfl
set_option maxRecDepth 4000 in
theorem q_878 : Cond.methodLink RX0 135 yX0_farmerAhead ∈ wsL_law := wb_t4 5 rfl rfl
set_option maxRecDepth 4000 in
theorem q_879 : Cond.methodLink RL 100 yX12_game ∈ wsL_law := wb_t5 117 rfl rfl
set_option maxRecDepth 4000 in
theorem q_880 : Cond.instanceMethod yX12_game ∈ wsL_law := wb_t5 118 rfl rfl
set_option maxRecDepth 4000 in
theorem q_881 : Cond.selects RX12 yX12_game yX12_game ∈ wsL_law := wb_t5 119 rfl rfl
set_option maxRecDepth 4000 in
theorem q_882 : Cond.code yX12_game cX12_game 12 (some .int) ∈ wsL_law := wb_t5 120 rfl rfl
set_option maxRecDepth 4000 in
theorem q_883 : Cond.constantLong RX12 196 (6) ∈ wsL_law := wb_t5 121 rfl rfl
set_option maxRecDepth 4000 in
theorem q_884 : Cond.constant RX12 198 (-100000) ∈ wsL_law := wb_t5 122 rfl rfl
set_option maxRecDepth 4000 in
theorem q_885 : Cond.constant RX12 202 (-100000000) ∈ wsL_law := wb_t5 127 rfl rfl
set_option maxRecDepth 4000 in
theorem q_886 : Cond.methodLink RX12 199 yX12_laneSum ∈ wsL_law := wb_t5 123 rfl rfl
set_option maxRecDepth 4000 in
theorem q_887 : Cond.instanceMethod yX12_laneSum ∈ wsL_law := wb_t5 125 rfl rfl
theorem q_888 : Cond.selects RX12 yX12_laneSum yX12_laneSum ∈ wsL_law := wb_p3 (q := (⟨"RingShepherdsModel", "laneSum", "(I)I"⟩, 25)) 14 rfl rfl rfl
set_option maxRecDepth 4000 in
theorem q_889 : Cond.code yX12_laneSum cX12_laneSum 2 (some .int) ∈ wsL_law := wb_t5 126 rfl rfl
set_option maxRecDepth 4000 in
theorem q_890 : Cond.methodLink RL 101 yX11_fee ∈ wsL_law := wb_t4 6 rfl rfl
set_option maxRecDepth 4000 in
theorem q_891 : Cond.instanceMethod yX11_fee ∈ wsL_law := wb_t4 7 rfl rfl
set_option maxRecDepth 4000 in
theorem q_892 : Cond.selects RX11 yX11_fee yX11_fee ∈ wsL_law := wb_t4 8 rfl rfl
set_option maxRecDepth 4000 in
theorem q_893 : Cond.code yX11_fee cX11_fee 9 (some .int) ∈ wsL_law := wb_t4 9 rfl rfl
set_option maxRecDepth 4000 in
theorem q_894 : Cond.fieldLink RX11 225 "RingShepherds" "FACTORIALS" "[I" ∈ wsL_law := wb_t4 31 rfl rfl
set_option maxRecDepth 4000 in
theorem q_895 : Cond.methodLink RX11 228 Lib.MathLoose.abs_long.x ∈ wsL_law := wb_t4 32 rfl rfl
set_option maxRecDepth 4000 in
theorem q_896 : Cond.static Lib.MathLoose.abs_long.x ∈ wsL_law := wb_t4 33 rfl rfl
set_option maxRecDepth 4000 in
theorem q_897 : Cond.code Lib.MathLoose.abs_long.x Lib.MathLoose.abs_long.code 2 (some .long) ∈ wsL_law := wb_t4 34 rfl rfl
set_option maxRecDepth 4000 in
theorem q_898 : Cond.methodLink RX11 221 yX0_addedInAllOrders ∈ wsL_law := wb_t4 10 rfl rfl
set_option maxRecDepth 4000 in
theorem q_899 : Cond.instanceMethod yX0_addedInAllOrders ∈ wsL_law := wb_t4 11 rfl rfl
set_option maxRecDepth 4000 in
theorem q_900 : Cond.selects RX0 yX0_addedInAllOrders yX0_addedInAllOrders ∈ wsL_law := wb_t4 12 rfl rfl
set_option maxRecDepth 4000 in
theorem q_901 : Cond.code yX0_addedInAllOrders cX0_addedInAllOrders 8 (some .long) ∈ wsL_law := wb_t4 13 rfl rfl
set_option maxRecDepth 4000 in
theorem q_902 : Cond.fieldLink RX0 138 "RingShepherds$Ring" "moons" "I" ∈ wsL_law := wb_t1 107 rfl rfl
set_option maxRecDepth 4000 in
theorem q_903 : Cond.methodLink RX0 141 yX5_keepMoons ∈ wsL_law := wb_t4 14 rfl rfl
set_option maxRecDepth 4000 in
theorem q_904 : Cond.instanceMethod yX5_keepMoons ∈ wsL_law := wb_t4 15 rfl rfl
set_option maxRecDepth 4000 in
theorem q_905 : Cond.selects RX5 yX5_keepMoons yX5_keepMoons ∈ wsL_law := wb_t4 16 rfl rfl
set_option maxRecDepth 4000 in
theorem q_906 : Cond.code yX5_keepMoons cX5_keepMoons 4 none ∈ wsL_law := wb_t4 17 rfl rfl
set_option maxRecDepth 4000 in
theorem q_907 : Cond.methodLink RX5 87 yX5_addMoon ∈ wsL_law := wb_t4 18 rfl rfl
set_option maxRecDepth 4000 in
theorem q_908 : Cond.methodLink RX0 144 yX0_ordersBehind ∈ wsL_law := wb_t4 19 rfl rfl
set_option maxRecDepth 4000 in
theorem q_909 : Cond.instanceMethod yX0_ordersBehind ∈ wsL_law := wb_t4 21 rfl rfl
theorem q_910 : Cond.selects RX0 yX0_ordersBehind yX0_ordersBehind ∈ wsL_law := wb_p2 (q := (⟨"RingShepherds$Course", "ordersBehind", "(I)J"⟩, 8)) 4 rfl rfl rfl
set_option maxRecDepth 4000 in
theorem q_911 : Cond.code yX0_ordersBehind cX0_ordersBehind 4 (some .long) ∈ wsL_law := wb_t4 22 rfl rfl
set_option maxRecDepth 4000 in
theorem q_912 : Cond.methodLink RX0 148 yJ6_bitCount_0f7a4 ∈ wsL_law := wb_t4 23 rfl rfl
set_option maxRecDepth 4000 in
theorem q_913 : Cond.static yJ6_bitCount_0f7a4 ∈ wsL_law := wb_t4 24 rfl rfl
set_option maxRecDepth 4000 in
theorem q_914 : Cond.initialized RJ6 ∈ wsL_law := wb_t1 21 rfl rfl
set_option maxRecDepth 4000 in
theorem q_915 : Cond.code yJ6_bitCount_0f7a4 cJ6_bitCount_0f7a4 1 (some .int) ∈ wsL_law := wb_t4 25 rfl rfl
set_option maxRecDepth 4000 in
theorem q_916 : Cond.constant RJ6 265 (1431655765) ∈ wsL_law := wb_t4 26 rfl rfl
set_option maxRecDepth 4000 in
theorem q_917 : Cond.constant RJ6 266 (858993459) ∈ wsL_law := wb_t4 27 rfl rfl
set_option maxRecDepth 4000 in
theorem q_918 : Cond.constant RJ6 267 (252645135) ∈ wsL_law := wb_t4 28 rfl rfl
set_option maxRecDepth 4000 in
theorem q_919 : Cond.methodLink RX11 234 yX11_greatestDivisor ∈ wsL_law := wb_t4 35 rfl rfl
set_option maxRecDepth 4000 in
theorem q_920 : Cond.static yX11_greatestDivisor ∈ wsL_law := wb_t4 36 rfl rfl
set_option maxRecDepth 4000 in
theorem q_921 : Cond.code yX11_greatestDivisor cX11_greatestDivisor 11 (some .long) ∈ wsL_law := wb_t4 37 rfl rfl
set_option maxRecDepth 4000 in
theorem q_922 : Cond.methodLink RL 104 yX12_fee ∈ wsL_law := wb_t5 128 rfl rfl
set_option maxRecDepth 4000 in
theorem q_923 : Cond.instanceMethod yX12_fee ∈ wsL_law := wb_t5 129 rfl rfl
set_option maxRecDepth 4000 in
theorem q_924 : Cond.selects RX12 yX12_fee yX12_fee ∈ wsL_law := wb_t5 130 rfl rfl
set_option maxRecDepth 4000 in
theorem q_925 : Cond.code yX12_fee cX12_fee 13 (some .int) ∈ wsL_law := wb_t5 131 rfl rfl
set_option maxRecDepth 4000 in
theorem q_926 : Cond.fieldLink RX12 209 "RingShepherdsModel" "above" "J" ∈ wsL_law := wb_t4 96 rfl rfl
set_option maxRecDepth 4000 in
theorem q_927 : Cond.methodLink RX12 203 yX12_bits ∈ wsL_law := wb_t5 132 rfl rfl
set_option maxRecDepth 4000 in
theorem q_928 : Cond.static yX12_bits ∈ wsL_law := wb_t5 133 rfl rfl
set_option maxRecDepth 4000 in
theorem q_929 : Cond.code yX12_bits cX12_bits 3 (some .int) ∈ wsL_law := wb_t5 134 rfl rfl
set_option maxRecDepth 4000 in
theorem q_930 : Cond.methodLink RX12 206 yX12_factorial ∈ wsL_law := wb_t5 135 rfl rfl
set_option maxRecDepth 4000 in
theorem q_931 : Cond.static yX12_factorial ∈ wsL_law := wb_t5 136 rfl rfl
set_option maxRecDepth 4000 in
theorem q_932 : Cond.code yX12_factorial cX12_factorial 3 (some .int) ∈ wsL_law := wb_t5 137 rfl rfl
set_option maxRecDepth 4000 in
theorem q_933 : Cond.methodLink RL 105 yX11_part ∈ wsL_law := wb_t4 38 rfl rfl
set_option maxRecDepth 4000 in
theorem q_934 : Cond.instanceMethod yX11_part ∈ wsL_law := wb_t4 39 rfl rfl
set_option maxRecDepth 4000 in
theorem q_935 : Cond.selects RX11 yX11_part yX11_part ∈ wsL_law := wb_t4 40 rfl rfl
set_option maxRecDepth 4000 in
theorem q_936 : Cond.code yX11_part cX11_part 2 (some .long) ∈ wsL_law := wb_t4 41 rfl rfl
set_option maxRecDepth 4000 in
theorem q_937 : Cond.methodLink RL 109 yX12_part ∈ wsL_law := wb_t5 190 rfl rfl
set_option maxRecDepth 4000 in
theorem q_938 : Cond.instanceMethod yX12_part ∈ wsL_law := wb_t5 191 rfl rfl
set_option maxRecDepth 4000 in
theorem q_939 : Cond.selects RX12 yX12_part yX12_part ∈ wsL_law := wb_t5 192 rfl rfl
set_option maxRecDepth 4000 in
theorem q_940 : Cond.code yX12_part cX12_part 2 (some .long) ∈ wsL_law := wb_t5 193 rfl rfl
set_option maxRecDepth 4000 in
theorem q_941 : Cond.methodLink RL 110 yX11_image ∈ wsL_law := wb_t4 42 rfl rfl
set_option maxRecDepth 4000 in
theorem q_942 : Cond.instanceMethod yX11_image ∈ wsL_law := wb_t4 43 rfl rfl
set_option maxRecDepth 4000 in
theorem q_943 : Cond.selects RX11 yX11_image yX11_image ∈ wsL_law := wb_t4 44 rfl rfl
set_option maxRecDepth 4000 in
theorem q_944 : Cond.code yX11_image cX11_image 2 (some .int) ∈ wsL_law := wb_t4 45 rfl rfl
set_option maxRecDepth 4000 in
theorem q_945 : Cond.methodLink RX11 238 yX7_copy ∈ wsL_law := wb_t4 46 rfl rfl
set_option maxRecDepth 4000 in
theorem q_946 : Cond.instanceMethod yX7_copy ∈ wsL_law := wb_t4 47 rfl rfl
set_option maxRecDepth 4000 in
theorem q_947 : Cond.selects RX7 yX7_copy yX7_copy ∈ wsL_law := wb_t4 48 rfl rfl
set_option maxRecDepth 4000 in
theorem q_948 : Cond.code yX7_copy cX7_copy 3 none ∈ wsL_law := wb_t4 49 rfl rfl
set_option maxRecDepth 4000 in
theorem q_949 : Cond.methodLink RL 113 yX12_image ∈ wsL_law := wb_t5 194 rfl rfl
set_option maxRecDepth 4000 in
theorem q_950 : Cond.instanceMethod yX12_image ∈ wsL_law := wb_t5 195 rfl rfl
set_option maxRecDepth 4000 in
theorem q_951 : Cond.selects RX12 yX12_image yX12_image ∈ wsL_law := wb_t5 196 rfl rfl
set_option maxRecDepth 4000 in
theorem q_952 : Cond.code yX12_image cX12_image 3 (some .int) ∈ wsL_law := wb_t5 197 rfl rfl
set_option maxRecDepth 4000 in
theorem q_953 : Cond.methodLink RL 114 yX11_from ∈ wsL_law := wb_t4 50 rfl rfl
set_option maxRecDepth 4000 in
theorem q_954 : Cond.instanceMethod yX11_from ∈ wsL_law := wb_t4 51 rfl rfl
set_option maxRecDepth 4000 in
theorem q_955 : Cond.selects RX11 yX11_from yX11_from ∈ wsL_law := wb_t4 52 rfl rfl
set_option maxRecDepth 4000 in
theorem q_956 : Cond.code yX11_from cX11_from 2 (some .int) ∈ wsL_law := wb_t4 53 rfl rfl
set_option maxRecDepth 4000 in
theorem q_957 : Cond.methodLink RL 117 yX12_from ∈ wsL_law := wb_t5 198 rfl rfl
set_option maxRecDepth 4000 in
theorem q_958 : Cond.instanceMethod yX12_from ∈ wsL_law := wb_t5 199 rfl rfl
set_option maxRecDepth 4000 in
theorem q_959 : Cond.selects RX12 yX12_from yX12_from ∈ wsL_law := wb_t5 200 rfl rfl
set_option maxRecDepth 4000 in
theorem q_960 : Cond.code yX12_from cX12_from 3 (some .int) ∈ wsL_law := wb_t5 201 rfl rfl
set_option maxRecDepth 4000 in
theorem q_961 : Cond.methodLink RL 118 yX11_status ∈ wsL_law := wb_t4 54 rfl rfl
set_option maxRecDepth 4000 in
theorem q_962 : Cond.instanceMethod yX11_status ∈ wsL_law := wb_t4 55 rfl rfl
set_option maxRecDepth 4000 in
theorem q_963 : Cond.selects RX11 yX11_status yX11_status ∈ wsL_law := wb_t4 56 rfl rfl
set_option maxRecDepth 4000 in
theorem q_964 : Cond.code yX11_status cX11_status 2 (some .int) ∈ wsL_law := wb_t4 57 rfl rfl
set_option maxRecDepth 4000 in
theorem q_965 : Cond.methodLink RL 121 yX12_status ∈ wsL_law := wb_t5 202 rfl rfl
set_option maxRecDepth 4000 in
theorem q_966 : Cond.instanceMethod yX12_status ∈ wsL_law := wb_t5 203 rfl rfl
set_option maxRecDepth 4000 in
theorem q_967 : Cond.selects RX12 yX12_status yX12_status ∈ wsL_law := wb_t5 204 rfl rfl
set_option maxRecDepth 4000 in
theorem q_968 : Cond.code yX12_status cX12_status 2 (some .int) ∈ wsL_law := wb_t5 205 rfl rfl
set_option maxRecDepth 4000 in
theorem q_969 : Cond.methodLink RL 122 yX11_count ∈ wsL_law := wb_t4 58 rfl rfl
set_option maxRecDepth 4000 in
theorem q_970 : Cond.instanceMethod yX11_count ∈ wsL_law := wb_t4 59 rfl rfl
set_option maxRecDepth 4000 in
theorem q_971 : Cond.selects RX11 yX11_count yX11_count ∈ wsL_law := wb_t4 60 rfl rfl
set_option maxRecDepth 4000 in
theorem q_972 : Cond.code yX11_count cX11_count 2 (some .int) ∈ wsL_law := wb_t4 61 rfl rfl
set_option maxRecDepth 4000 in
theorem q_973 : Cond.methodLink RX11 241 yX11_counted ∈ wsL_law := wb_t4 62 rfl rfl
set_option maxRecDepth 4000 in
theorem q_974 : Cond.instanceMethod yX11_counted ∈ wsL_law := wb_t4 64 rfl rfl
theorem q_975 : Cond.selects RX11 yX11_counted yX11_counted ∈ wsL_law := wb_p2 (q := (⟨"RingShepherds", "counted", "(I)I"⟩, 9)) 5 rfl rfl rfl
set_option maxRecDepth 4000 in
theorem q_976 : Cond.code yX11_counted cX11_counted 2 (some .int) ∈ wsL_law := wb_t4 65 rfl rfl
set_option maxRecDepth 4000 in
theorem q_977 : Cond.fieldLink RX11 254 "RingShepherds$Ring" "rounds" "I" ∈ wsL_law := wb_t1 109 rfl rfl
set_option maxRecDepth 4000 in
theorem q_978 : Cond.fieldLink RX11 257 "RingShepherds$Ring" "strays" "I" ∈ wsL_law := wb_t1 111 rfl rfl
set_option maxRecDepth 4000 in
theorem q_979 : Cond.methodLink RX11 251 yX5_lumpsInAll ∈ wsL_law := wb_t4 66 rfl rfl
set_option maxRecDepth 4000 in
theorem q_980 : Cond.instanceMethod yX5_lumpsInAll ∈ wsL_law := wb_t4 67 rfl rfl
set_option maxRecDepth 4000 in
theorem q_981 : Cond.selects RX5 yX5_lumpsInAll yX5_lumpsInAll ∈ wsL_law := wb_t4 68 rfl rfl
set_option maxRecDepth 4000 in
theorem q_982 : Cond.code yX5_lumpsInAll cX5_lumpsInAll 3 (some .int) ∈ wsL_law := wb_t4 69 rfl rfl
set_option maxRecDepth 4000 in
theorem q_983 : Cond.methodLink RX5 77 yX5_lumpsIn ∈ wsL_law := wb_t4 70 rfl rfl
set_option maxRecDepth 4000 in
theorem q_984 : Cond.methodLink RL 125 yX12_count ∈ wsL_law := wb_t5 206 rfl rfl
set_option maxRecDepth 4000 in
theorem q_985 : Cond.instanceMethod yX12_count ∈ wsL_law := wb_t5 207 rfl rfl
set_option maxRecDepth 4000 in
theorem q_986 : Cond.selects RX12 yX12_count yX12_count ∈ wsL_law := wb_t5 208 rfl rfl
set_option maxRecDepth 4000 in
theorem q_987 : Cond.code yX12_count cX12_count 2 (some .int) ∈ wsL_law := wb_t5 209 rfl rfl
set_option maxRecDepth 4000 in
theorem q_988 : Cond.methodLink RX12 269 yX12_counted ∈ wsL_law := wb_t5 210 rfl rfl
set_option maxRecDepth 4000 in
theorem q_989 : Cond.instanceMethod yX12_counted ∈ wsL_law := wb_t5 212 rfl rfl
theorem q_990 : Cond.selects RX12 yX12_counted yX12_counted ∈ wsL_law := wb_p4 (q := (⟨"RingShepherdsModel", "counted", "(I)I"⟩, 25)) 6 rfl rfl rfl
set_option maxRecDepth 4000 in
theorem q_991 : Cond.code yX12_counted cX12_counted 2 (some .int) ∈ wsL_law := wb_t5 213 rfl rfl
set_option maxRecDepth 4000 in
theorem q_992 : Cond.methodLink RL 126 yX11_digest ∈ wsL_law := wb_t4 71 rfl rfl
set_option maxRecDepth 4000 in
theorem q_993 : Cond.instanceMethod yX11_digest ∈ wsL_law := wb_t4 72 rfl rfl
set_option maxRecDepth 4000 in
theorem q_994 : Cond.selects RX11 yX11_digest yX11_digest ∈ wsL_law := wb_t4 73 rfl rfl
set_option maxRecDepth 4000 in
theorem q_995 : Cond.code yX11_digest cX11_digest 4 (some .long) ∈ wsL_law := wb_t4 74 rfl rfl
set_option maxRecDepth 4000 in
theorem q_996 : Cond.constantLong RX11 244 (821) ∈ wsL_law := wb_t4 75 rfl rfl
set_option maxRecDepth 4000 in
theorem q_997 : Cond.constantLong RX11 246 (31) ∈ wsL_law := wb_t4 76 rfl rfl
set_option maxRecDepth 4000 in
theorem q_998 : Cond.methodLink RX11 248 yX5_addTo ∈ wsL_law := wb_t4 77 rfl rfl
set_option maxRecDepth 4000 in
theorem q_999 : Cond.instanceMethod yX5_addTo ∈ wsL_law := wb_t4 78 rfl rfl
set_option maxRecDepth 4000 in
theorem q_1000 : Cond.selects RX5 yX5_addTo yX5_addTo ∈ wsL_law := wb_t4 79 rfl rfl
set_option maxRecDepth 4000 in
theorem q_1001 : Cond.code yX5_addTo cX5_addTo 7 (some .long) ∈ wsL_law := wb_t4 80 rfl rfl
set_option maxRecDepth 4000 in
theorem q_1002 : Cond.constantLong RX5 132 (31) ∈ wsL_law := wb_t4 81 rfl rfl
set_option maxRecDepth 4000 in
theorem q_1003 : Cond.methodLink RX5 134 yX5_aboutMoon ∈ wsL_law := wb_t4 82 rfl rfl
set_option maxRecDepth 4000 in
theorem q_1004 : Cond.methodLink RL 130 yX12_digest ∈ wsL_law := wb_t5 214 rfl rfl
set_option maxRecDepth 4000 in
theorem q_1005 : Cond.instanceMethod yX12_digest ∈ wsL_law := wb_t5 215 rfl rfl
set_option maxRecDepth 4000 in
theorem q_1006 : Cond.selects RX12 yX12_digest yX12_digest ∈ wsL_law := wb_t5 216 rfl rfl
set_option maxRecDepth 4000 in
theorem q_1007 : Cond.code yX12_digest cX12_digest 4 (some .long) ∈ wsL_law := wb_t5 217 rfl rfl
set_option maxRecDepth 4000 in
theorem q_1008 : Cond.constantLong RX12 274 (821) ∈ wsL_law := wb_t5 218 rfl rfl
set_option maxRecDepth 4000 in
theorem q_1009 : Cond.constantLong RX12 272 (31) ∈ wsL_law := wb_t5 219 rfl rfl
set_option maxRecDepth 4000 in
theorem q_1010 : Cond.methodLink RX12 276 yX12_sums ∈ wsL_law := wb_t5 220 rfl rfl
set_option maxRecDepth 4000 in
theorem q_1011 : Cond.instanceMethod yX12_sums ∈ wsL_law := wb_t5 222 rfl rfl
theorem q_1012 : Cond.selects RX12 yX12_sums yX12_sums ∈ wsL_law := wb_p4 (q := (⟨"RingShepherdsModel", "sums", "(JII)J"⟩, 25)) 7 rfl rfl rfl
set_option maxRecDepth 4000 in
theorem q_1013 : Cond.code yX12_sums cX12_sums 8 (some .long) ∈ wsL_law := wb_t5 223 rfl rfl
theorem inX0 : ∀ w ∈ wsX00, w ∈ wsL_law := fun w h => List.mem_filter.mpr ⟨(by decide +kernel : ∀ w ∈ wsX00, w ∈ lw_tbl) w h, (by decide +kernel : ∀ w ∈ wsX00, goodWord w = true) w h⟩
theorem inX1 : ∀ w ∈ wsX10, w ∈ wsL_law := fun w h => List.mem_filter.mpr ⟨(by decide +kernel : ∀ w ∈ wsX10, w ∈ lw_tbl) w h, (by decide +kernel : ∀ w ∈ wsX10, goodWord w = true) w h⟩
theorem inX2 : ∀ w ∈ wsX20, w ∈ wsL_law := fun w h => List.mem_filter.mpr ⟨(by decide +kernel : ∀ w ∈ wsX20, w ∈ lw_tbl) w h, (by decide +kernel : ∀ w ∈ wsX20, goodWord w = true) w h⟩
theorem inX3 : ∀ w ∈ wsX30, w ∈ wsL_law := fun w h => List.mem_filter.mpr ⟨(by decide +kernel : ∀ w ∈ wsX30, w ∈ lw_tbl) w h, (by decide +kernel : ∀ w ∈ wsX30, goodWord w = true) w h⟩
theorem inX4 : ∀ w ∈ wsX40, w ∈ wsL_law := fun w h => List.mem_filter.mpr ⟨(by decide +kernel : ∀ w ∈ wsX40, w ∈ lw_tbl) w h, (by decide +kernel : ∀ w ∈ wsX40, goodWord w = true) w h⟩
theorem inX5 : ∀ w ∈ wsX50, w ∈ wsL_law := fun w h => List.mem_filter.mpr ⟨(by decide +kernel : ∀ w ∈ wsX50, w ∈ lw_tbl) w h, (by decide +kernel : ∀ w ∈ wsX50, goodWord w = true) w h⟩
theorem inX6 : ∀ w ∈ wsX60, w ∈ wsL_law := fun w h => List.mem_filter.mpr ⟨(by decide +kernel : ∀ w ∈ wsX60, w ∈ lw_tbl) w h, (by decide +kernel : ∀ w ∈ wsX60, goodWord w = true) w h⟩
theorem inX7 : ∀ w ∈ wsX70, w ∈ wsL_law := fun w h => List.mem_filter.mpr ⟨(by decide +kernel : ∀ w ∈ wsX70, w ∈ lw_tbl) w h, (by decide +kernel : ∀ w ∈ wsX70, goodWord w = true) w h⟩
theorem inX8 : ∀ w ∈ wsX80, w ∈ wsL_law := fun w h => List.mem_filter.mpr ⟨(by decide +kernel : ∀ w ∈ wsX80, w ∈ lw_tbl) w h, (by decide +kernel : ∀ w ∈ wsX80, goodWord w = true) w h⟩
theorem inX9 : ∀ w ∈ wsX90, w ∈ wsL_law := fun w h => List.mem_filter.mpr ⟨(by decide +kernel : ∀ w ∈ wsX90, w ∈ lw_tbl) w h, (by decide +kernel : ∀ w ∈ wsX90, goodWord w = true) w h⟩
theorem inX10 : ∀ w ∈ wsX100, w ∈ wsL_law := fun w h => List.mem_filter.mpr ⟨(by decide +kernel : ∀ w ∈ wsX100, w ∈ lw_tbl) w h, (by decide +kernel : ∀ w ∈ wsX100, goodWord w = true) w h⟩
theorem inX11 : ∀ w ∈ wsX110, w ∈ wsL_law := fun w h => List.mem_filter.mpr ⟨(by decide +kernel : ∀ w ∈ wsX110, w ∈ lw_tbl) w h, (by decide +kernel : ∀ w ∈ wsX110, goodWord w = true) w h⟩
theorem inX12 : ∀ w ∈ wsX120, w ∈ wsL_law := fun w h => List.mem_filter.mpr ⟨(by decide +kernel : ∀ w ∈ wsX120, w ∈ lw_tbl) w h, (by decide +kernel : ∀ w ∈ wsX120, goodWord w = true) w h⟩

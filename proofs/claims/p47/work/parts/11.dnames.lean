-- the law and the JDK: names and codes as the claim prints them (wip/gen/gen_dout.py)
def M_Bo_init : Md := (⟨"CoinSamplerLaw$Books", "<init>", "()V"⟩, prog_13_method_1_code, 1, none, 4, 120)
theorem ini_CoinSamplerLaw_Books : Cond.initialized "CoinSamplerLaw$Books" ∈ UW ∧ (("CoinSamplerLaw$Books" : String) ≠ "java/lang/invoke/MethodHandle" ∧ ("CoinSamplerLaw$Books" : String) ≠ "java/lang/invoke/VarHandle") := ⟨(qm_1 (i := 12) rfl rfl), by decide +kernel⟩
theorem np_M_Bo_init : (parseMethodDescriptor (mn M_Bo_init).desc).map (fun d => d.parameters.length) = some 0 := by decide +kernel
theorem ok_M_Bo_init : MdOK M_Bo_init := ⟨(qm_2 (i := 123) rfl rfl), ini_CoinSamplerLaw_Books.1, ini_CoinSamplerLaw_Books.2, by decide +kernel⟩
theorem oki_M_Bo_init : Cond.instanceMethod (mn M_Bo_init) ∈ UW := (qm_2 (i := 122) rfl rfl)
def M_Bo_hits : Md := (⟨"CoinSamplerLaw$Books", "hits", "()Ljava/util/ArrayList;"⟩, prog_13_method_5_code, 1, (some (.object "java/util/ArrayList")), 9, 237)
theorem np_M_Bo_hits : (parseMethodDescriptor (mn M_Bo_hits).desc).map (fun d => d.parameters.length) = some 0 := by decide +kernel
theorem ok_M_Bo_hits : MdOK M_Bo_hits := ⟨(qm_2 (i := 185) rfl rfl), ini_CoinSamplerLaw_Books.1, ini_CoinSamplerLaw_Books.2, by decide +kernel⟩
theorem oki_M_Bo_hits : Cond.instanceMethod (mn M_Bo_hits) ∈ UW := (qm_2 (i := 183) rfl rfl)
theorem okv_M_Bo_hits : MdV M_Bo_hits := ⟨(qm_2 (i := 183) rfl rfl), (qm_2 (i := 184) rfl rfl)⟩
def M_Cl_cell : Md := (⟨"CoinSamplerLaw", "cell", "([II)I"⟩, method_2_code, 2, some .int, 1, 60)
theorem ini_CoinSamplerLaw : Cond.initialized "CoinSamplerLaw" ∈ UW ∧ (("CoinSamplerLaw" : String) ≠ "java/lang/invoke/MethodHandle" ∧ ("CoinSamplerLaw" : String) ≠ "java/lang/invoke/VarHandle") := ⟨(qm_1 (i := 0) rfl rfl), by decide +kernel⟩
theorem np_M_Cl_cell : (parseMethodDescriptor (mn M_Cl_cell).desc).map (fun d => d.parameters.length) = some 2 := by decide +kernel
theorem ok_M_Cl_cell : MdOK M_Cl_cell := ⟨(qm_3 (i := 174) rfl rfl), ini_CoinSamplerLaw.1, ini_CoinSamplerLaw.2, by decide +kernel⟩
theorem oks_M_Cl_cell : Cond.static (mn M_Cl_cell) ∈ UW := (qm_3 (i := 173) rfl rfl)
def M_Cl_act : Md := (⟨"CoinSamplerLaw", "act", "(LCoinSampler;LCoinSamplerLaw$Books;[II)Z"⟩, method_6_code, 12, some .boolean, 9, 237)
theorem np_M_Cl_act : (parseMethodDescriptor (mn M_Cl_act).desc).map (fun d => d.parameters.length) = some 4 := by decide +kernel
theorem ok_M_Cl_act : MdOK M_Cl_act := ⟨(qm_3 (i := 177) rfl rfl), ini_CoinSamplerLaw.1, ini_CoinSamplerLaw.2, by decide +kernel⟩
theorem oks_M_Cl_act : Cond.static (mn M_Cl_act) ∈ UW := (qm_3 (i := 176) rfl rfl)
def M_Cl_items : Md := (⟨"CoinSamplerLaw", "items", "(LCoinSampler;LCoinSamplerLaw$Books;Ljava/util/ArrayList;)Z"⟩, method_9_code, 14, some .boolean, 7, 208)
theorem np_M_Cl_items : (parseMethodDescriptor (mn M_Cl_items).desc).map (fun d => d.parameters.length) = some 3 := by decide +kernel
theorem ok_M_Cl_items : MdOK M_Cl_items := ⟨(qm_6 (i := 110) rfl rfl), ini_CoinSamplerLaw.1, ini_CoinSamplerLaw.2, by decide +kernel⟩
theorem oks_M_Cl_items : Cond.static (mn M_Cl_items) ∈ UW := (qm_6 (i := 109) rfl rfl)
def M_Cl_walk : Md := (⟨"CoinSamplerLaw", "walk", "(LCoinSampler;LCoinSamplerLaw$Books;Ljava/util/ArrayList;[I)Z"⟩, method_10_code, 10, some .boolean, 4, 129)
theorem np_M_Cl_walk : (parseMethodDescriptor (mn M_Cl_walk).desc).map (fun d => d.parameters.length) = some 4 := by decide +kernel
theorem ok_M_Cl_walk : MdOK M_Cl_walk := ⟨(qm_9 (i := 168) rfl rfl), ini_CoinSamplerLaw.1, ini_CoinSamplerLaw.2, by decide +kernel⟩
theorem oks_M_Cl_walk : Cond.static (mn M_Cl_walk) ∈ UW := (qm_9 (i := 167) rfl rfl)
def M_Cl_lists : Md := (⟨"CoinSamplerLaw", "lists", "(LCoinSampler;LCoinSamplerLaw$Books;Ljava/util/ArrayList;)Z"⟩, method_11_code, 13, some .boolean, 8, 196)
theorem np_M_Cl_lists : (parseMethodDescriptor (mn M_Cl_lists).desc).map (fun d => d.parameters.length) = some 3 := by decide +kernel
theorem ok_M_Cl_lists : MdOK M_Cl_lists := ⟨(qm_9 (i := 194) rfl rfl), ini_CoinSamplerLaw.1, ini_CoinSamplerLaw.2, by decide +kernel⟩
theorem oks_M_Cl_lists : Cond.static (mn M_Cl_lists) ∈ UW := (qm_9 (i := 193) rfl rfl)
def M_Cl_makes : Md := (⟨"CoinSamplerLaw", "makes", "(LCoinSampler;LCoinSamplerLaw$Books;Ljava/util/ArrayList;)Z"⟩, method_12_code, 14, some .boolean, 10, 274)
theorem np_M_Cl_makes : (parseMethodDescriptor (mn M_Cl_makes).desc).map (fun d => d.parameters.length) = some 3 := by decide +kernel
theorem ok_M_Cl_makes : MdOK M_Cl_makes := ⟨(qm_10 (i := 20) rfl rfl), ini_CoinSamplerLaw.1, ini_CoinSamplerLaw.2, by decide +kernel⟩
theorem oks_M_Cl_makes : Cond.static (mn M_Cl_makes) ∈ UW := (qm_10 (i := 19) rfl rfl)
def M_Cl_counts : Md := (⟨"CoinSamplerLaw", "counts", "(LCoinSampler;LCoinSamplerLaw$Books;Ljava/util/ArrayList;)Z"⟩, method_13_code, 7, some .boolean, 6, 132)
theorem np_M_Cl_counts : (parseMethodDescriptor (mn M_Cl_counts).desc).map (fun d => d.parameters.length) = some 3 := by decide +kernel
theorem ok_M_Cl_counts : MdOK M_Cl_counts := ⟨(qm_10 (i := 157) rfl rfl), ini_CoinSamplerLaw.1, ini_CoinSamplerLaw.2, by decide +kernel⟩
theorem oks_M_Cl_counts : Cond.static (mn M_Cl_counts) ∈ UW := (qm_10 (i := 156) rfl rfl)
def M_Al_init : Md := (⟨"java/util/ArrayList", "<init>", "()V"⟩, prog_42_method_2_code, 1, none, 3, 100)
theorem ini_java_util_ArrayList : Cond.initialized "java/util/ArrayList" ∈ UW ∧ (("java/util/ArrayList" : String) ≠ "java/lang/invoke/MethodHandle" ∧ ("java/util/ArrayList" : String) ≠ "java/lang/invoke/VarHandle") := ⟨(qm_1 (i := 15) rfl rfl), by decide +kernel⟩
theorem np_M_Al_init : (parseMethodDescriptor (mn M_Al_init).desc).map (fun d => d.parameters.length) = some 0 := by decide +kernel
theorem ok_M_Al_init : MdOK M_Al_init := ⟨(qm_2 (i := 129) rfl rfl), ini_java_util_ArrayList.1, ini_java_util_ArrayList.2, by decide +kernel⟩
theorem oki_M_Al_init : Cond.instanceMethod (mn M_Al_init) ∈ UW := (qm_2 (i := 128) rfl rfl)
def M_Al_size : Md := (⟨"java/util/ArrayList", "size", "()I"⟩, prog_42_method_8_code, 1, some .int, 1, 60)
theorem np_M_Al_size : (parseMethodDescriptor (mn M_Al_size).desc).map (fun d => d.parameters.length) = some 0 := by decide +kernel
theorem ok_M_Al_size : MdOK M_Al_size := ⟨(qm_2 (i := 189) rfl rfl), ini_java_util_ArrayList.1, ini_java_util_ArrayList.2, by decide +kernel⟩
theorem oki_M_Al_size : Cond.instanceMethod (mn M_Al_size) ∈ UW := (qm_2 (i := 187) rfl rfl)
theorem okv_M_Al_size : MdV M_Al_size := ⟨(qm_2 (i := 187) rfl rfl), (qm_2 (i := 188) rfl rfl)⟩
def M_Bo_hits_ : Md := (⟨"CoinSamplerLaw$Books", "hits", "(I)Ljava/util/ArrayList;"⟩, prog_13_method_6_code, 6, (some (.object "java/util/ArrayList")), 8, 212)
theorem np_M_Bo_hits_ : (parseMethodDescriptor (mn M_Bo_hits_).desc).map (fun d => d.parameters.length) = some 1 := by decide +kernel
theorem ok_M_Bo_hits_ : MdOK M_Bo_hits_ := ⟨(qm_2 (i := 193) rfl rfl), ini_CoinSamplerLaw_Books.1, ini_CoinSamplerLaw_Books.2, by decide +kernel⟩
theorem oki_M_Bo_hits_ : Cond.instanceMethod (mn M_Bo_hits_) ∈ UW := (qm_2 (i := 191) rfl rfl)
theorem okv_M_Bo_hits_ : MdV M_Bo_hits_ := ⟨(qm_2 (i := 191) rfl rfl), (qm_2 (i := 192) rfl rfl)⟩
def M_Cl_draw : Md := (⟨"CoinSamplerLaw", "draw", "([II)I"⟩, method_3_code, 2, some .int, 1, 60)
theorem np_M_Cl_draw : (parseMethodDescriptor (mn M_Cl_draw).desc).map (fun d => d.parameters.length) = some 2 := by decide +kernel
theorem ok_M_Cl_draw : MdOK M_Cl_draw := ⟨(qm_3 (i := 181) rfl rfl), ini_CoinSamplerLaw.1, ini_CoinSamplerLaw.2, by decide +kernel⟩
theorem oks_M_Cl_draw : Cond.static (mn M_Cl_draw) ∈ UW := (qm_3 (i := 180) rfl rfl)
def M_Al_get : Md := (⟨"java/util/ArrayList", "get", "(I)Ljava/lang/Object;"⟩, prog_42_method_20_code, 2, (some (.object "java/lang/Object")), 2, 81)
theorem np_M_Al_get : (parseMethodDescriptor (mn M_Al_get).desc).map (fun d => d.parameters.length) = some 1 := by decide +kernel
theorem ok_M_Al_get : MdOK M_Al_get := ⟨(qm_3 (i := 61) rfl rfl), ini_java_util_ArrayList.1, ini_java_util_ArrayList.2, by decide +kernel⟩
theorem oki_M_Al_get : Cond.instanceMethod (mn M_Al_get) ∈ UW := (qm_3 (i := 59) rfl rfl)
theorem okv_M_Al_get : MdV M_Al_get := ⟨(qm_3 (i := 59) rfl rfl), (qm_3 (i := 60) rfl rfl)⟩
def M_Cl_drawn : Md := (⟨"CoinSamplerLaw", "drawn", "(LCoinSamplerLaw$Books;[I)Ljava/lang/String;"⟩, method_5_code, 6, (some (.object "java/lang/String")), 8, 212)
theorem np_M_Cl_drawn : (parseMethodDescriptor (mn M_Cl_drawn).desc).map (fun d => d.parameters.length) = some 2 := by decide +kernel
theorem ok_M_Cl_drawn : MdOK M_Cl_drawn := ⟨(qm_3 (i := 187) rfl rfl), ini_CoinSamplerLaw.1, ini_CoinSamplerLaw.2, by decide +kernel⟩
theorem oks_M_Cl_drawn : Cond.static (mn M_Cl_drawn) ∈ UW := (qm_3 (i := 186) rfl rfl)
def M_Cl_feeds : Md := (⟨"CoinSamplerLaw", "feeds", "(LCoinSampler;Ljava/lang/String;)I"⟩, method_4_code, 5, some .int, 5, 106)
theorem np_M_Cl_feeds : (parseMethodDescriptor (mn M_Cl_feeds).desc).map (fun d => d.parameters.length) = some 2 := by decide +kernel
theorem ok_M_Cl_feeds : MdOK M_Cl_feeds := ⟨(qm_5 (i := 114) rfl rfl), ini_CoinSamplerLaw.1, ini_CoinSamplerLaw.2, by decide +kernel⟩
theorem oks_M_Cl_feeds : Cond.static (mn M_Cl_feeds) ∈ UW := (qm_5 (i := 113) rfl rfl)
def M_Bo_size : Md := (⟨"CoinSamplerLaw$Books", "size", "(II)I"⟩, prog_13_method_10_code, 6, some .int, 4, 125)
theorem np_M_Bo_size : (parseMethodDescriptor (mn M_Bo_size).desc).map (fun d => d.parameters.length) = some 2 := by decide +kernel
theorem ok_M_Bo_size : MdOK M_Bo_size := ⟨(qm_5 (i := 193) rfl rfl), ini_CoinSamplerLaw_Books.1, ini_CoinSamplerLaw_Books.2, by decide +kernel⟩
theorem oki_M_Bo_size : Cond.instanceMethod (mn M_Bo_size) ∈ UW := (qm_5 (i := 191) rfl rfl)
theorem okv_M_Bo_size : MdV M_Bo_size := ⟨(qm_5 (i := 191) rfl rfl), (qm_5 (i := 192) rfl rfl)⟩
def M_Bo_allCoins : Md := (⟨"CoinSamplerLaw$Books", "allCoins", "()I"⟩, prog_13_method_3_code, 4, some .int, 3, 102)
theorem np_M_Bo_allCoins : (parseMethodDescriptor (mn M_Bo_allCoins).desc).map (fun d => d.parameters.length) = some 0 := by decide +kernel
theorem ok_M_Bo_allCoins : MdOK M_Bo_allCoins := ⟨(qm_5 (i := 197) rfl rfl), ini_CoinSamplerLaw_Books.1, ini_CoinSamplerLaw_Books.2, by decide +kernel⟩
theorem oki_M_Bo_allCoins : Cond.instanceMethod (mn M_Bo_allCoins) ∈ UW := (qm_5 (i := 195) rfl rfl)
theorem okv_M_Bo_allCoins : MdV M_Bo_allCoins := ⟨(qm_5 (i := 195) rfl rfl), (qm_5 (i := 196) rfl rfl)⟩
def M_Al_isEmpty : Md := (⟨"java/util/ArrayList", "isEmpty", "()Z"⟩, prog_42_method_9_code, 1, some .boolean, 1, 60)
theorem np_M_Al_isEmpty : (parseMethodDescriptor (mn M_Al_isEmpty).desc).map (fun d => d.parameters.length) = some 0 := by decide +kernel
theorem ok_M_Al_isEmpty : MdOK M_Al_isEmpty := ⟨(qm_3 (i := 233) rfl rfl), ini_java_util_ArrayList.1, ini_java_util_ArrayList.2, by decide +kernel⟩
theorem oki_M_Al_isEmpty : Cond.instanceMethod (mn M_Al_isEmpty) ∈ UW := (qm_3 (i := 231) rfl rfl)
theorem okv_M_Al_isEmpty : MdV M_Al_isEmpty := ⟨(qm_3 (i := 231) rfl rfl), (qm_3 (i := 232) rfl rfl)⟩
def M_Al_clear : Md := (⟨"java/util/ArrayList", "clear", "()V"⟩, prog_42_method_40_code, 4, none, 1, 60)
theorem np_M_Al_clear : (parseMethodDescriptor (mn M_Al_clear).desc).map (fun d => d.parameters.length) = some 0 := by decide +kernel
theorem ok_M_Al_clear : MdOK M_Al_clear := ⟨(qm_3 (i := 222) rfl rfl), ini_java_util_ArrayList.1, ini_java_util_ArrayList.2, by decide +kernel⟩
theorem oki_M_Al_clear : Cond.instanceMethod (mn M_Al_clear) ∈ UW := (qm_3 (i := 220) rfl rfl)
theorem okv_M_Al_clear : MdV M_Al_clear := ⟨(qm_3 (i := 220) rfl rfl), (qm_3 (i := 221) rfl rfl)⟩
def M_Bo_draws : Md := (⟨"CoinSamplerLaw$Books", "draws", "()I"⟩, prog_13_method_19_code, 3, some .int, 8, 212)
theorem np_M_Bo_draws : (parseMethodDescriptor (mn M_Bo_draws).desc).map (fun d => d.parameters.length) = some 0 := by decide +kernel
theorem ok_M_Bo_draws : MdOK M_Bo_draws := ⟨(qm_6 (i := 0) rfl rfl), ini_CoinSamplerLaw_Books.1, ini_CoinSamplerLaw_Books.2, by decide +kernel⟩
theorem oki_M_Bo_draws : Cond.instanceMethod (mn M_Bo_draws) ∈ UW := (qm_5 (i := 238) rfl rfl)
theorem okv_M_Bo_draws : MdV M_Bo_draws := ⟨(qm_5 (i := 238) rfl rfl), (qm_5 (i := 239) rfl rfl)⟩
def M_Al_iterator : Md := (⟨"java/util/ArrayList", "iterator", "()Ljava/util/Iterator;"⟩, prog_42_method_55_code, 1, (some (.object "java/util/Iterator")), 2, 81)
theorem np_M_Al_iterator : (parseMethodDescriptor (mn M_Al_iterator).desc).map (fun d => d.parameters.length) = some 0 := by decide +kernel
theorem ok_M_Al_iterator : MdOK M_Al_iterator := ⟨(qm_2 (i := 201) rfl rfl), ini_java_util_ArrayList.1, ini_java_util_ArrayList.2, by decide +kernel⟩
theorem oki_M_Al_iterator : Cond.instanceMethod (mn M_Al_iterator) ∈ UW := (qm_2 (i := 199) rfl rfl)
theorem okv_M_Al_iterator : MdV M_Al_iterator := ⟨(qm_2 (i := 199) rfl rfl), (qm_2 (i := 200) rfl rfl)⟩
def M_Ai_hasNext : Md := (⟨"java/util/ArrayList$Itr", "hasNext", "()Z"⟩, prog_43_method_2_code, 1, some .boolean, 1, 60)
theorem ini_java_util_ArrayList_Itr : Cond.initialized "java/util/ArrayList$Itr" ∈ UW ∧ (("java/util/ArrayList$Itr" : String) ≠ "java/lang/invoke/MethodHandle" ∧ ("java/util/ArrayList$Itr" : String) ≠ "java/lang/invoke/VarHandle") := ⟨(qm_1 (i := 30) rfl rfl), by decide +kernel⟩
theorem np_M_Ai_hasNext : (parseMethodDescriptor (mn M_Ai_hasNext).desc).map (fun d => d.parameters.length) = some 0 := by decide +kernel
theorem ok_M_Ai_hasNext : MdOK M_Ai_hasNext := ⟨(qm_2 (i := 230) rfl rfl), ini_java_util_ArrayList_Itr.1, ini_java_util_ArrayList_Itr.2, by decide +kernel⟩
theorem oki_M_Ai_hasNext : Cond.instanceMethod (mn M_Ai_hasNext) ∈ UW := (qm_2 (i := 228) rfl rfl)
def M_Ai_next : Md := (⟨"java/util/ArrayList$Itr", "next", "()Ljava/lang/Object;"⟩, prog_43_method_3_code, 3, (some (.object "java/lang/Object")), 2, 80)
theorem np_M_Ai_next : (parseMethodDescriptor (mn M_Ai_next).desc).map (fun d => d.parameters.length) = some 0 := by decide +kernel
theorem ok_M_Ai_next : MdOK M_Ai_next := ⟨(qm_3 (i := 11) rfl rfl), ini_java_util_ArrayList_Itr.1, ini_java_util_ArrayList_Itr.2, by decide +kernel⟩
theorem oki_M_Ai_next : Cond.instanceMethod (mn M_Ai_next) ∈ UW := (qm_3 (i := 9) rfl rfl)
def M_Bo_certain : Md := (⟨"CoinSamplerLaw$Books", "certain", "(LCoinSamplerLaw$Item;)Z"⟩, prog_13_method_2_code, 2, some .boolean, 1, 60)
theorem np_M_Bo_certain : (parseMethodDescriptor (mn M_Bo_certain).desc).map (fun d => d.parameters.length) = some 1 := by decide +kernel
theorem ok_M_Bo_certain : MdOK M_Bo_certain := ⟨(qm_3 (i := 49) rfl rfl), ini_CoinSamplerLaw_Books.1, ini_CoinSamplerLaw_Books.2, by decide +kernel⟩
theorem oki_M_Bo_certain : Cond.instanceMethod (mn M_Bo_certain) ∈ UW := (qm_3 (i := 47) rfl rfl)
theorem okv_M_Bo_certain : MdV M_Bo_certain := ⟨(qm_3 (i := 47) rfl rfl), (qm_3 (i := 48) rfl rfl)⟩
def M_Bo_find : Md := (⟨"CoinSamplerLaw$Books", "find", "(II)I"⟩, prog_13_method_8_code, 4, some .int, 3, 102)
theorem np_M_Bo_find : (parseMethodDescriptor (mn M_Bo_find).desc).map (fun d => d.parameters.length) = some 2 := by decide +kernel
theorem ok_M_Bo_find : MdOK M_Bo_find := ⟨(qm_4 (i := 172) rfl rfl), ini_CoinSamplerLaw_Books.1, ini_CoinSamplerLaw_Books.2, by decide +kernel⟩
theorem oki_M_Bo_find : Cond.instanceMethod (mn M_Bo_find) ∈ UW := (qm_4 (i := 170) rfl rfl)
theorem okv_M_Bo_find : MdV M_Bo_find := ⟨(qm_4 (i := 170) rfl rfl), (qm_4 (i := 171) rfl rfl)⟩
def M_It_init : Md := (⟨"CoinSamplerLaw$Item", "<init>", "()V"⟩, prog_15_method_1_code, 1, none, 1, 60)
theorem ini_CoinSamplerLaw_Item : Cond.initialized "CoinSamplerLaw$Item" ∈ UW ∧ (("CoinSamplerLaw$Item" : String) ≠ "java/lang/invoke/MethodHandle" ∧ ("CoinSamplerLaw$Item" : String) ≠ "java/lang/invoke/VarHandle") := ⟨(qm_1 (i := 29) rfl rfl), by decide +kernel⟩
theorem np_M_It_init : (parseMethodDescriptor (mn M_It_init).desc).map (fun d => d.parameters.length) = some 0 := by decide +kernel
theorem ok_M_It_init : MdOK M_It_init := ⟨(qm_4 (i := 149) rfl rfl), ini_CoinSamplerLaw_Item.1, ini_CoinSamplerLaw_Item.2, by decide +kernel⟩
theorem oki_M_It_init : Cond.instanceMethod (mn M_It_init) ∈ UW := (qm_4 (i := 148) rfl rfl)
def M_Al_add_9ea2d : Md := (⟨"java/util/ArrayList", "add", "(Ljava/lang/Object;)Z"⟩, prog_42_method_25_code, 2, some .boolean, 7, 191)
theorem np_M_Al_add_9ea2d : (parseMethodDescriptor (mn M_Al_add_9ea2d).desc).map (fun d => d.parameters.length) = some 1 := by decide +kernel
theorem ok_M_Al_add_9ea2d : MdOK M_Al_add_9ea2d := ⟨(qm_3 (i := 100) rfl rfl), ini_java_util_ArrayList.1, ini_java_util_ArrayList.2, by decide +kernel⟩
theorem oki_M_Al_add_9ea2d : Cond.instanceMethod (mn M_Al_add_9ea2d) ∈ UW := (qm_3 (i := 98) rfl rfl)
theorem okv_M_Al_add_9ea2d : MdV M_Al_add_9ea2d := ⟨(qm_3 (i := 98) rfl rfl), (qm_3 (i := 99) rfl rfl)⟩
def M_Lx_init : Md := (⟨"java/util/LinkedHashSet", "<init>", "()V"⟩, prog_59_method_3_code, 1, none, 6, 169)
theorem ini_java_util_LinkedHashSet : Cond.initialized "java/util/LinkedHashSet" ∈ UW ∧ (("java/util/LinkedHashSet" : String) ≠ "java/lang/invoke/MethodHandle" ∧ ("java/util/LinkedHashSet" : String) ≠ "java/lang/invoke/VarHandle") := ⟨(qm_1 (i := 35) rfl rfl), by decide +kernel⟩
theorem np_M_Lx_init : (parseMethodDescriptor (mn M_Lx_init).desc).map (fun d => d.parameters.length) = some 0 := by decide +kernel
theorem ok_M_Lx_init : MdOK M_Lx_init := ⟨(qm_6 (i := 117) rfl rfl), ini_java_util_LinkedHashSet.1, ini_java_util_LinkedHashSet.2, by decide +kernel⟩
theorem oki_M_Lx_init : Cond.instanceMethod (mn M_Lx_init) ∈ UW := (qm_6 (i := 116) rfl rfl)
def M_It_coins : Md := (⟨"CoinSamplerLaw$Item", "coins", "()I"⟩, prog_15_method_2_code, 1, some .int, 1, 60)
theorem np_M_It_coins : (parseMethodDescriptor (mn M_It_coins).desc).map (fun d => d.parameters.length) = some 0 := by decide +kernel
theorem ok_M_It_coins : MdOK M_It_coins := ⟨(qm_3 (i := 53) rfl rfl), ini_CoinSamplerLaw_Item.1, ini_CoinSamplerLaw_Item.2, by decide +kernel⟩
theorem oki_M_It_coins : Cond.instanceMethod (mn M_It_coins) ∈ UW := (qm_3 (i := 51) rfl rfl)
theorem okv_M_It_coins : MdV M_It_coins := ⟨(qm_3 (i := 51) rfl rfl), (qm_3 (i := 52) rfl rfl)⟩
def M_Cl_oftenOf : Md := (⟨"CoinSamplerLaw", "oftenOf", "(Ljava/util/ArrayList;I)I"⟩, method_8_code, 5, some .int, 3, 102)
theorem np_M_Cl_oftenOf : (parseMethodDescriptor (mn M_Cl_oftenOf).desc).map (fun d => d.parameters.length) = some 2 := by decide +kernel
theorem ok_M_Cl_oftenOf : MdOK M_Cl_oftenOf := ⟨(qm_6 (i := 202) rfl rfl), ini_CoinSamplerLaw.1, ini_CoinSamplerLaw.2, by decide +kernel⟩
theorem oks_M_Cl_oftenOf : Cond.static (mn M_Cl_oftenOf) ∈ UW := (qm_6 (i := 201) rfl rfl)
def M_It_error : Md := (⟨"CoinSamplerLaw$Item", "error", "()I"⟩, prog_15_method_3_code, 1, some .int, 1, 60)
theorem np_M_It_error : (parseMethodDescriptor (mn M_It_error).desc).map (fun d => d.parameters.length) = some 0 := by decide +kernel
theorem ok_M_It_error : MdOK M_It_error := ⟨(qm_6 (i := 207) rfl rfl), ini_CoinSamplerLaw_Item.1, ini_CoinSamplerLaw_Item.2, by decide +kernel⟩
theorem oki_M_It_error : Cond.instanceMethod (mn M_It_error) ∈ UW := (qm_6 (i := 205) rfl rfl)
theorem okv_M_It_error : MdV M_It_error := ⟨(qm_6 (i := 205) rfl rfl), (qm_6 (i := 206) rfl rfl)⟩
def M_It_taint : Md := (⟨"CoinSamplerLaw$Item", "taint", "()I"⟩, prog_15_method_4_code, 1, some .int, 2, 80)
theorem np_M_It_taint : (parseMethodDescriptor (mn M_It_taint).desc).map (fun d => d.parameters.length) = some 0 := by decide +kernel
theorem ok_M_It_taint : MdOK M_It_taint := ⟨(qm_6 (i := 211) rfl rfl), ini_CoinSamplerLaw_Item.1, ini_CoinSamplerLaw_Item.2, by decide +kernel⟩
theorem oki_M_It_taint : Cond.instanceMethod (mn M_It_taint) ∈ UW := (qm_6 (i := 209) rfl rfl)
theorem okv_M_It_taint : MdV M_It_taint := ⟨(qm_6 (i := 209) rfl rfl), (qm_6 (i := 210) rfl rfl)⟩
def M_Bo_part : Md := (⟨"CoinSamplerLaw$Books", "part", "(LCoinSamplerLaw$Hit;I)I"⟩, prog_13_method_11_code, 3, some .int, 3, 102)
theorem np_M_Bo_part : (parseMethodDescriptor (mn M_Bo_part).desc).map (fun d => d.parameters.length) = some 2 := by decide +kernel
theorem ok_M_Bo_part : MdOK M_Bo_part := ⟨(qm_9 (i := 29) rfl rfl), ini_CoinSamplerLaw_Books.1, ini_CoinSamplerLaw_Books.2, by decide +kernel⟩
theorem oki_M_Bo_part : Cond.instanceMethod (mn M_Bo_part) ∈ UW := (qm_9 (i := 27) rfl rfl)
theorem okv_M_Bo_part : MdV M_Bo_part := ⟨(qm_9 (i := 27) rfl rfl), (qm_9 (i := 28) rfl rfl)⟩
def M_Hs_iterator : Md := (⟨"java/util/HashSet", "iterator", "()Ljava/util/Iterator;"⟩, prog_52_method_6_code, 1, (some (.object "java/util/Iterator")), 6, 164)
theorem ini_java_util_HashSet : Cond.initialized "java/util/HashSet" ∈ UW ∧ (("java/util/HashSet" : String) ≠ "java/lang/invoke/MethodHandle" ∧ ("java/util/HashSet" : String) ≠ "java/lang/invoke/VarHandle") := ⟨(qm_1 (i := 34) rfl rfl), by decide +kernel⟩
theorem np_M_Hs_iterator : (parseMethodDescriptor (mn M_Hs_iterator).desc).map (fun d => d.parameters.length) = some 0 := by decide +kernel
theorem ok_M_Hs_iterator : MdOK M_Hs_iterator := ⟨(qm_9 (i := 60) rfl rfl), ini_java_util_HashSet.1, ini_java_util_HashSet.2, by decide +kernel⟩
theorem oki_M_Hs_iterator : Cond.instanceMethod (mn M_Hs_iterator) ∈ UW := (qm_9 (i := 59) rfl rfl)
def M_Lh_hasNext : Md := (⟨"java/util/LinkedHashMap$LinkedHashIterator", "hasNext", "()Z"⟩, prog_56_method_2_code, 1, some .boolean, 1, 60)
theorem ini_java_util_LinkedHashMap_LinkedHashIterator : Cond.initialized "java/util/LinkedHashMap$LinkedHashIterator" ∈ UW ∧ (("java/util/LinkedHashMap$LinkedHashIterator" : String) ≠ "java/lang/invoke/MethodHandle" ∧ ("java/util/LinkedHashMap$LinkedHashIterator" : String) ≠ "java/lang/invoke/VarHandle") := ⟨(qm_1 (i := 50) rfl rfl), by decide +kernel⟩
theorem np_M_Lh_hasNext : (parseMethodDescriptor (mn M_Lh_hasNext).desc).map (fun d => d.parameters.length) = some 0 := by decide +kernel
theorem ok_M_Lh_hasNext : MdOK M_Lh_hasNext := ⟨(qm_3 (i := 2) rfl rfl), ini_java_util_LinkedHashMap_LinkedHashIterator.1, ini_java_util_LinkedHashMap_LinkedHashIterator.2, by decide +kernel⟩
theorem oki_M_Lh_hasNext : Cond.instanceMethod (mn M_Lh_hasNext) ∈ UW := (qm_3 (i := 0) rfl rfl)
def M_Lk_next : Md := (⟨"java/util/LinkedHashMap$LinkedKeyIterator", "next", "()Ljava/lang/Object;"⟩, prog_57_method_2_code, 1, (some (.object "java/lang/Object")), 2, 81)
theorem ini_java_util_LinkedHashMap_LinkedKeyIterator : Cond.initialized "java/util/LinkedHashMap$LinkedKeyIterator" ∈ UW ∧ (("java/util/LinkedHashMap$LinkedKeyIterator" : String) ≠ "java/lang/invoke/MethodHandle" ∧ ("java/util/LinkedHashMap$LinkedKeyIterator" : String) ≠ "java/lang/invoke/VarHandle") := ⟨(qm_1 (i := 51) rfl rfl), by decide +kernel⟩
theorem np_M_Lk_next : (parseMethodDescriptor (mn M_Lk_next).desc).map (fun d => d.parameters.length) = some 0 := by decide +kernel
theorem ok_M_Lk_next : MdOK M_Lk_next := ⟨(qm_3 (i := 31) rfl rfl), ini_java_util_LinkedHashMap_LinkedKeyIterator.1, ini_java_util_LinkedHashMap_LinkedKeyIterator.2, by decide +kernel⟩
theorem oki_M_Lk_next : Cond.instanceMethod (mn M_Lk_next) ∈ UW := (qm_3 (i := 29) rfl rfl)
def M_In_intValue : Md := (⟨"java/lang/Integer", "intValue", "()I"⟩, prog_24_method_27_code, 1, some .int, 1, 60)
theorem ini_java_lang_Integer : Cond.initialized "java/lang/Integer" ∈ UW ∧ (("java/lang/Integer" : String) ≠ "java/lang/invoke/MethodHandle" ∧ ("java/lang/Integer" : String) ≠ "java/lang/invoke/VarHandle") := ⟨(qm_1 (i := 28) rfl rfl), by decide +kernel⟩
theorem np_M_In_intValue : (parseMethodDescriptor (mn M_In_intValue).desc).map (fun d => d.parameters.length) = some 0 := by decide +kernel
theorem ok_M_In_intValue : MdOK M_In_intValue := ⟨(qm_3 (i := 76) rfl rfl), ini_java_lang_Integer.1, ini_java_lang_Integer.2, by decide +kernel⟩
theorem oki_M_In_intValue : Cond.instanceMethod (mn M_In_intValue) ∈ UW := (qm_3 (i := 74) rfl rfl)
theorem okv_M_In_intValue : MdV M_In_intValue := ⟨(qm_3 (i := 74) rfl rfl), (qm_3 (i := 75) rfl rfl)⟩
def M_In_valueOf : Md := (⟨"java/lang/Integer", "valueOf", "(I)Ljava/lang/Integer;"⟩, prog_24_method_22_code, 1, (some (.object "java/lang/Integer")), 3, 101)
theorem np_M_In_valueOf : (parseMethodDescriptor (mn M_In_valueOf).desc).map (fun d => d.parameters.length) = some 1 := by decide +kernel
theorem ok_M_In_valueOf : MdOK M_In_valueOf := ⟨(qm_6 (i := 3) rfl rfl), ini_java_lang_Integer.1, ini_java_lang_Integer.2, by decide +kernel⟩
theorem oks_M_In_valueOf : Cond.static (mn M_In_valueOf) ∈ UW := (qm_6 (i := 2) rfl rfl)
def M_Hs_add : Md := (⟨"java/util/HashSet", "add", "(Ljava/lang/Object;)Z"⟩, prog_52_method_10_code, 2, some .boolean, 6, 187)
theorem np_M_Hs_add : (parseMethodDescriptor (mn M_Hs_add).desc).map (fun d => d.parameters.length) = some 1 := by decide +kernel
theorem ok_M_Hs_add : MdOK M_Hs_add := ⟨(qm_7 (i := 23) rfl rfl), ini_java_util_HashSet.1, ini_java_util_HashSet.2, by decide +kernel⟩
theorem oki_M_Hs_add : Cond.instanceMethod (mn M_Hs_add) ∈ UW := (qm_7 (i := 22) rfl rfl)
def M_Bo_owners : Md := (⟨"CoinSamplerLaw$Books", "owners", "()[I"⟩, prog_13_method_4_code, 8, (some (.array .int)), 3, 102)
theorem np_M_Bo_owners : (parseMethodDescriptor (mn M_Bo_owners).desc).map (fun d => d.parameters.length) = some 0 := by decide +kernel
theorem ok_M_Bo_owners : MdOK M_Bo_owners := ⟨(qm_2 (i := 197) rfl rfl), ini_CoinSamplerLaw_Books.1, ini_CoinSamplerLaw_Books.2, by decide +kernel⟩
theorem oki_M_Bo_owners : Cond.instanceMethod (mn M_Bo_owners) ∈ UW := (qm_2 (i := 195) rfl rfl)
theorem okv_M_Bo_owners : MdV M_Bo_owners := ⟨(qm_2 (i := 195) rfl rfl), (qm_2 (i := 196) rfl rfl)⟩
def M_Bo_drawn : Md := (⟨"CoinSamplerLaw$Books", "drawn", "(Ljava/util/ArrayList;)[Z"⟩, prog_13_method_7_code, 5, (some (.array .boolean)), 3, 102)
theorem np_M_Bo_drawn : (parseMethodDescriptor (mn M_Bo_drawn).desc).map (fun d => d.parameters.length) = some 1 := by decide +kernel
theorem ok_M_Bo_drawn : MdOK M_Bo_drawn := ⟨(qm_9 (i := 198) rfl rfl), ini_CoinSamplerLaw_Books.1, ini_CoinSamplerLaw_Books.2, by decide +kernel⟩
theorem oki_M_Bo_drawn : Cond.instanceMethod (mn M_Bo_drawn) ∈ UW := (qm_9 (i := 196) rfl rfl)
theorem okv_M_Bo_drawn : MdV M_Bo_drawn := ⟨(qm_9 (i := 196) rfl rfl), (qm_9 (i := 197) rfl rfl)⟩
def M_Sb_init : Md := (⟨"java/lang/StringBuilder", "<init>", "()V"⟩, prog_31_method_1_code, 1, none, 2, 81)
theorem ini_java_lang_StringBuilder : Cond.initialized "java/lang/StringBuilder" ∈ UW ∧ (("java/lang/StringBuilder" : String) ≠ "java/lang/invoke/MethodHandle" ∧ ("java/lang/StringBuilder" : String) ≠ "java/lang/invoke/VarHandle") := ⟨(qm_1 (i := 19) rfl rfl), by decide +kernel⟩
theorem np_M_Sb_init : (parseMethodDescriptor (mn M_Sb_init).desc).map (fun d => d.parameters.length) = some 0 := by decide +kernel
theorem ok_M_Sb_init : MdOK M_Sb_init := ⟨(qm_3 (i := 192) rfl rfl), ini_java_lang_StringBuilder.1, ini_java_lang_StringBuilder.2, by decide +kernel⟩
theorem oki_M_Sb_init : Cond.instanceMethod (mn M_Sb_init) ∈ UW := (qm_3 (i := 191) rfl rfl)
def M_Sb_append_bf812 : Md := (⟨"java/lang/StringBuilder", "append", "(I)Ljava/lang/StringBuilder;"⟩, prog_31_method_15_code, 2, (some (.object "java/lang/StringBuilder")), 6, 175)
theorem np_M_Sb_append_bf812 : (parseMethodDescriptor (mn M_Sb_append_bf812).desc).map (fun d => d.parameters.length) = some 1 := by decide +kernel
theorem ok_M_Sb_append_bf812 : MdOK M_Sb_append_bf812 := ⟨(qm_4 (i := 103) rfl rfl), ini_java_lang_StringBuilder.1, ini_java_lang_StringBuilder.2, by decide +kernel⟩
theorem oki_M_Sb_append_bf812 : Cond.instanceMethod (mn M_Sb_append_bf812) ∈ UW := (qm_4 (i := 101) rfl rfl)
theorem okv_M_Sb_append_bf812 : MdV M_Sb_append_bf812 := ⟨(qm_4 (i := 101) rfl rfl), (qm_4 (i := 102) rfl rfl)⟩
def M_Sb_append_15ec4 : Md := (⟨"java/lang/StringBuilder", "append", "(Ljava/lang/String;)Ljava/lang/StringBuilder;"⟩, prog_31_method_7_code, 2, (some (.object "java/lang/StringBuilder")), 6, 174)
theorem np_M_Sb_append_15ec4 : (parseMethodDescriptor (mn M_Sb_append_15ec4).desc).map (fun d => d.parameters.length) = some 1 := by decide +kernel
theorem ok_M_Sb_append_15ec4 : MdOK M_Sb_append_15ec4 := ⟨(qm_3 (i := 238) rfl rfl), ini_java_lang_StringBuilder.1, ini_java_lang_StringBuilder.2, by decide +kernel⟩
theorem oki_M_Sb_append_15ec4 : Cond.instanceMethod (mn M_Sb_append_15ec4) ∈ UW := (qm_3 (i := 236) rfl rfl)
theorem okv_M_Sb_append_15ec4 : MdV M_Sb_append_15ec4 := ⟨(qm_3 (i := 236) rfl rfl), (qm_3 (i := 237) rfl rfl)⟩
def M_Sb_toString : Md := (⟨"java/lang/StringBuilder", "toString", "()Ljava/lang/String;"⟩, prog_31_method_42_code, 1, (some (.object "java/lang/String")), 6, 172)
theorem np_M_Sb_toString : (parseMethodDescriptor (mn M_Sb_toString).desc).map (fun d => d.parameters.length) = some 0 := by decide +kernel
theorem ok_M_Sb_toString : MdOK M_Sb_toString := ⟨(qm_4 (i := 185) rfl rfl), ini_java_lang_StringBuilder.1, ini_java_lang_StringBuilder.2, by decide +kernel⟩
theorem oki_M_Sb_toString : Cond.instanceMethod (mn M_Sb_toString) ∈ UW := (qm_4 (i := 183) rfl rfl)
theorem okv_M_Sb_toString : MdV M_Sb_toString := ⟨(qm_4 (i := 183) rfl rfl), (qm_4 (i := 184) rfl rfl)⟩
def M_Bo_projected : Md := (⟨"CoinSamplerLaw$Books", "projected", "(Ljava/util/ArrayList;II)I"⟩, prog_13_method_12_code, 7, some .int, 4, 124)
theorem np_M_Bo_projected : (parseMethodDescriptor (mn M_Bo_projected).desc).map (fun d => d.parameters.length) = some 3 := by decide +kernel
theorem ok_M_Bo_projected : MdOK M_Bo_projected := ⟨(qm_10 (i := 110) rfl rfl), ini_CoinSamplerLaw_Books.1, ini_CoinSamplerLaw_Books.2, by decide +kernel⟩
theorem oki_M_Bo_projected : Cond.instanceMethod (mn M_Bo_projected) ∈ UW := (qm_10 (i := 108) rfl rfl)
theorem okv_M_Bo_projected : MdV M_Bo_projected := ⟨(qm_10 (i := 108) rfl rfl), (qm_10 (i := 109) rfl rfl)⟩
def M_Bo_known : Md := (⟨"CoinSamplerLaw$Books", "known", "(I)I"⟩, prog_13_method_13_code, 5, some .int, 3, 102)
theorem np_M_Bo_known : (parseMethodDescriptor (mn M_Bo_known).desc).map (fun d => d.parameters.length) = some 1 := by decide +kernel
theorem ok_M_Bo_known : MdOK M_Bo_known := ⟨(qm_10 (i := 116) rfl rfl), ini_CoinSamplerLaw_Books.1, ini_CoinSamplerLaw_Books.2, by decide +kernel⟩
theorem oki_M_Bo_known : Cond.instanceMethod (mn M_Bo_known) ∈ UW := (qm_10 (i := 114) rfl rfl)
theorem okv_M_Bo_known : MdV M_Bo_known := ⟨(qm_10 (i := 114) rfl rfl), (qm_10 (i := 115) rfl rfl)⟩
def M_Bo_bound : Md := (⟨"CoinSamplerLaw$Books", "bound", "(III)I"⟩, prog_13_method_18_code, 7, some .int, 9, 248)
theorem np_M_Bo_bound : (parseMethodDescriptor (mn M_Bo_bound).desc).map (fun d => d.parameters.length) = some 3 := by decide +kernel
theorem ok_M_Bo_bound : MdOK M_Bo_bound := ⟨(qm_10 (i := 121) rfl rfl), ini_CoinSamplerLaw_Books.1, ini_CoinSamplerLaw_Books.2, by decide +kernel⟩
theorem oki_M_Bo_bound : Cond.instanceMethod (mn M_Bo_bound) ∈ UW := (qm_10 (i := 119) rfl rfl)
theorem okv_M_Bo_bound : MdV M_Bo_bound := ⟨(qm_10 (i := 119) rfl rfl), (qm_10 (i := 120) rfl rfl)⟩
def M_Bo_basic : Md := (⟨"CoinSamplerLaw$Books", "basic", "(I)I"⟩, prog_13_method_17_code, 2, some .int, 4, 129)
theorem np_M_Bo_basic : (parseMethodDescriptor (mn M_Bo_basic).desc).map (fun d => d.parameters.length) = some 1 := by decide +kernel
theorem ok_M_Bo_basic : MdOK M_Bo_basic := ⟨(qm_10 (i := 125) rfl rfl), ini_CoinSamplerLaw_Books.1, ini_CoinSamplerLaw_Books.2, by decide +kernel⟩
theorem oki_M_Bo_basic : Cond.instanceMethod (mn M_Bo_basic) ∈ UW := (qm_10 (i := 123) rfl rfl)
theorem okv_M_Bo_basic : MdV M_Bo_basic := ⟨(qm_10 (i := 123) rfl rfl), (qm_10 (i := 124) rfl rfl)⟩
def M_Bo_rises : Md := (⟨"CoinSamplerLaw$Books", "rises", "(Ljava/util/ArrayList;II)I"⟩, prog_13_method_16_code, 10, some .int, 8, 219)
theorem np_M_Bo_rises : (parseMethodDescriptor (mn M_Bo_rises).desc).map (fun d => d.parameters.length) = some 3 := by decide +kernel
theorem ok_M_Bo_rises : MdOK M_Bo_rises := ⟨(qm_10 (i := 129) rfl rfl), ini_CoinSamplerLaw_Books.1, ini_CoinSamplerLaw_Books.2, by decide +kernel⟩
theorem oki_M_Bo_rises : Cond.instanceMethod (mn M_Bo_rises) ∈ UW := (qm_10 (i := 127) rfl rfl)
theorem okv_M_Bo_rises : MdV M_Bo_rises := ⟨(qm_10 (i := 127) rfl rfl), (qm_10 (i := 128) rfl rfl)⟩
def M_Bo_ranked : Md := (⟨"CoinSamplerLaw$Books", "ranked", "(Ljava/util/ArrayList;I)Ljava/util/ArrayList;"⟩, prog_13_method_14_code, 8, (some (.object "java/util/ArrayList")), 7, 192)
theorem np_M_Bo_ranked : (parseMethodDescriptor (mn M_Bo_ranked).desc).map (fun d => d.parameters.length) = some 2 := by decide +kernel
theorem ok_M_Bo_ranked : MdOK M_Bo_ranked := ⟨(qm_10 (i := 133) rfl rfl), ini_CoinSamplerLaw_Books.1, ini_CoinSamplerLaw_Books.2, by decide +kernel⟩
theorem oki_M_Bo_ranked : Cond.instanceMethod (mn M_Bo_ranked) ∈ UW := (qm_10 (i := 131) rfl rfl)
theorem okv_M_Bo_ranked : MdV M_Bo_ranked := ⟨(qm_10 (i := 131) rfl rfl), (qm_10 (i := 132) rfl rfl)⟩
def M_Al_indexOf : Md := (⟨"java/util/ArrayList", "indexOf", "(Ljava/lang/Object;)I"⟩, prog_42_method_11_code, 2, some .int, 4, 126)
theorem np_M_Al_indexOf : (parseMethodDescriptor (mn M_Al_indexOf).desc).map (fun d => d.parameters.length) = some 1 := by decide +kernel
theorem ok_M_Al_indexOf : MdOK M_Al_indexOf := ⟨(qm_6 (i := 28) rfl rfl), ini_java_util_ArrayList.1, ini_java_util_ArrayList.2, by decide +kernel⟩
theorem oki_M_Al_indexOf : Cond.instanceMethod (mn M_Al_indexOf) ∈ UW := (qm_6 (i := 26) rfl rfl)
theorem okv_M_Al_indexOf : MdV M_Al_indexOf := ⟨(qm_6 (i := 26) rfl rfl), (qm_6 (i := 27) rfl rfl)⟩
def M_Bo_rise : Md := (⟨"CoinSamplerLaw$Books", "rise", "(Ljava/util/ArrayList;III)I"⟩, prog_13_method_15_code, 7, some .int, 3, 102)
theorem np_M_Bo_rise : (parseMethodDescriptor (mn M_Bo_rise).desc).map (fun d => d.parameters.length) = some 4 := by decide +kernel
theorem ok_M_Bo_rise : MdOK M_Bo_rise := ⟨(qm_10 (i := 154) rfl rfl), ini_CoinSamplerLaw_Books.1, ini_CoinSamplerLaw_Books.2, by decide +kernel⟩
theorem oki_M_Bo_rise : Cond.instanceMethod (mn M_Bo_rise) ∈ UW := (qm_10 (i := 152) rfl rfl)
theorem okv_M_Bo_rise : MdV M_Bo_rise := ⟨(qm_10 (i := 152) rfl rfl), (qm_10 (i := 153) rfl rfl)⟩
def M_Ak_init : Md := (⟨"java/util/AbstractList", "<init>", "()V"⟩, prog_39_method_1_code, 1, none, 2, 80)
theorem ini_java_util_AbstractList : Cond.initialized "java/util/AbstractList" ∈ UW ∧ (("java/util/AbstractList" : String) ≠ "java/lang/invoke/MethodHandle" ∧ ("java/util/AbstractList" : String) ≠ "java/lang/invoke/VarHandle") := ⟨(qm_1 (i := 14) rfl rfl), by decide +kernel⟩
theorem np_M_Ak_init : (parseMethodDescriptor (mn M_Ak_init).desc).map (fun d => d.parameters.length) = some 0 := by decide +kernel
theorem ok_M_Ak_init : MdOK M_Ak_init := ⟨(qm_2 (i := 132) rfl rfl), ini_java_util_AbstractList.1, ini_java_util_AbstractList.2, by decide +kernel⟩
theorem oki_M_Ak_init : Cond.instanceMethod (mn M_Ak_init) ∈ UW := (qm_2 (i := 131) rfl rfl)
def M_Hi_init : Md := (⟨"CoinSamplerLaw$Hit", "<init>", "(III)V"⟩, prog_14_method_1_code, 4, none, 1, 60)
theorem ini_CoinSamplerLaw_Hit : Cond.initialized "CoinSamplerLaw$Hit" ∈ UW ∧ (("CoinSamplerLaw$Hit" : String) ≠ "java/lang/invoke/MethodHandle" ∧ ("CoinSamplerLaw$Hit" : String) ≠ "java/lang/invoke/VarHandle") := ⟨(qm_1 (i := 32) rfl rfl), by decide +kernel⟩
theorem np_M_Hi_init : (parseMethodDescriptor (mn M_Hi_init).desc).map (fun d => d.parameters.length) = some 3 := by decide +kernel
theorem ok_M_Hi_init : MdOK M_Hi_init := ⟨(qm_3 (i := 81) rfl rfl), ini_CoinSamplerLaw_Hit.1, ini_CoinSamplerLaw_Hit.2, by decide +kernel⟩
theorem oki_M_Hi_init : Cond.instanceMethod (mn M_Hi_init) ∈ UW := (qm_3 (i := 80) rfl rfl)
def M_Ob_checkIndex : Md := (⟨"java/util/Objects", "checkIndex", "(II)I"⟩, prog_63_method_17_code, 2, some .int, 1, 60)
theorem ini_java_util_Objects : Cond.initialized "java/util/Objects" ∈ UW ∧ (("java/util/Objects" : String) ≠ "java/lang/invoke/MethodHandle" ∧ ("java/util/Objects" : String) ≠ "java/lang/invoke/VarHandle") := ⟨(qm_1 (i := 16) rfl rfl), by decide +kernel⟩
theorem np_M_Ob_checkIndex : (parseMethodDescriptor (mn M_Ob_checkIndex).desc).map (fun d => d.parameters.length) = some 2 := by decide +kernel
theorem ok_M_Ob_checkIndex : MdOK M_Ob_checkIndex := ⟨(qm_3 (i := 64) rfl rfl), ini_java_util_Objects.1, ini_java_util_Objects.2, by decide +kernel⟩
theorem oks_M_Ob_checkIndex : Cond.static (mn M_Ob_checkIndex) ∈ UW := (qm_3 (i := 63) rfl rfl)
def M_Al_elementData : Md := (⟨"java/util/ArrayList", "elementData", "(I)Ljava/lang/Object;"⟩, prog_42_method_18_code, 2, (some (.object "java/lang/Object")), 1, 60)
theorem np_M_Al_elementData : (parseMethodDescriptor (mn M_Al_elementData).desc).map (fun d => d.parameters.length) = some 1 := by decide +kernel
theorem ok_M_Al_elementData : MdOK M_Al_elementData := ⟨(qm_3 (i := 71) rfl rfl), ini_java_util_ArrayList.1, ini_java_util_ArrayList.2, by decide +kernel⟩
theorem oki_M_Al_elementData : Cond.instanceMethod (mn M_Al_elementData) ∈ UW := (qm_3 (i := 69) rfl rfl)
theorem okv_M_Al_elementData : MdV M_Al_elementData := ⟨(qm_3 (i := 69) rfl rfl), (qm_3 (i := 70) rfl rfl)⟩
def M_Sb_length : Md := (⟨"java/lang/StringBuilder", "length", "()I"⟩, prog_31_method_93_code, 1, some .int, 2, 80)
theorem np_M_Sb_length : (parseMethodDescriptor (mn M_Sb_length).desc).map (fun d => d.parameters.length) = some 0 := by decide +kernel
theorem ok_M_Sb_length : MdOK M_Sb_length := ⟨(qm_3 (i := 226) rfl rfl), ini_java_lang_StringBuilder.1, ini_java_lang_StringBuilder.2, by decide +kernel⟩
theorem oki_M_Sb_length : Cond.instanceMethod (mn M_Sb_length) ∈ UW := (qm_3 (i := 224) rfl rfl)
theorem okv_M_Sb_length : MdV M_Sb_length := ⟨(qm_3 (i := 224) rfl rfl), (qm_3 (i := 225) rfl rfl)⟩
def M_Sb_append_cf468 : Md := (⟨"java/lang/StringBuilder", "append", "(C)Ljava/lang/StringBuilder;"⟩, prog_31_method_14_code, 2, (some (.object "java/lang/StringBuilder")), 6, 173)
theorem np_M_Sb_append_cf468 : (parseMethodDescriptor (mn M_Sb_append_cf468).desc).map (fun d => d.parameters.length) = some 1 := by decide +kernel
theorem ok_M_Sb_append_cf468 : MdOK M_Sb_append_cf468 := ⟨(qm_4 (i := 128) rfl rfl), ini_java_lang_StringBuilder.1, ini_java_lang_StringBuilder.2, by decide +kernel⟩
theorem oki_M_Sb_append_cf468 : Cond.instanceMethod (mn M_Sb_append_cf468) ∈ UW := (qm_4 (i := 126) rfl rfl)
theorem okv_M_Sb_append_cf468 : MdV M_Sb_append_cf468 := ⟨(qm_4 (i := 126) rfl rfl), (qm_4 (i := 127) rfl rfl)⟩
def M_Ma_abs : Md := (⟨"java/lang/Math", "abs", "(I)I"⟩, prog_28_method_59_code, 1, some .int, 1, 60)
theorem np_M_Ma_abs : (parseMethodDescriptor (mn M_Ma_abs).desc).map (fun d => d.parameters.length) = some 1 := by decide +kernel
theorem ok_M_Ma_abs : MdOK M_Ma_abs := ⟨(qm_4 (i := 178) rfl rfl), ini_java_lang_Math.1, ini_java_lang_Math.2, by decide +kernel⟩
theorem oks_M_Ma_abs : Cond.static (mn M_Ma_abs) ∈ UW := (qm_4 (i := 177) rfl rfl)
def M_Bo_upper : Md := (⟨"CoinSamplerLaw$Books", "upper", "(III)I"⟩, prog_13_method_9_code, 15, some .int, 1, 60)
theorem np_M_Bo_upper : (parseMethodDescriptor (mn M_Bo_upper).desc).map (fun d => d.parameters.length) = some 3 := by decide +kernel
theorem ok_M_Bo_upper : MdOK M_Bo_upper := ⟨(qm_5 (i := 200) rfl rfl), ini_CoinSamplerLaw_Books.1, ini_CoinSamplerLaw_Books.2, by decide +kernel⟩
theorem oks_M_Bo_upper : Cond.static (mn M_Bo_upper) ∈ UW := (qm_5 (i := 199) rfl rfl)
def M_Al_contains : Md := (⟨"java/util/ArrayList", "contains", "(Ljava/lang/Object;)Z"⟩, prog_42_method_10_code, 2, some .boolean, 5, 147)
theorem np_M_Al_contains : (parseMethodDescriptor (mn M_Al_contains).desc).map (fun d => d.parameters.length) = some 1 := by decide +kernel
theorem ok_M_Al_contains : MdOK M_Al_contains := ⟨(qm_6 (i := 24) rfl rfl), ini_java_util_ArrayList.1, ini_java_util_ArrayList.2, by decide +kernel⟩
theorem oki_M_Al_contains : Cond.instanceMethod (mn M_Al_contains) ∈ UW := (qm_6 (i := 22) rfl rfl)
theorem okv_M_Al_contains : MdV M_Al_contains := ⟨(qm_6 (i := 22) rfl rfl), (qm_6 (i := 23) rfl rfl)⟩
def M_Ai_init : Md := (⟨"java/util/ArrayList$Itr", "<init>", "(Ljava/util/ArrayList;)V"⟩, prog_43_method_1_code, 2, none, 1, 60)
theorem np_M_Ai_init : (parseMethodDescriptor (mn M_Ai_init).desc).map (fun d => d.parameters.length) = some 1 := by decide +kernel
theorem ok_M_Ai_init : MdOK M_Ai_init := ⟨(qm_2 (i := 206) rfl rfl), ini_java_util_ArrayList_Itr.1, ini_java_util_ArrayList_Itr.2, by decide +kernel⟩
theorem oki_M_Ai_init : Cond.instanceMethod (mn M_Ai_init) ∈ UW := (qm_2 (i := 205) rfl rfl)
def M_Ai_checkForComodification : Md := (⟨"java/util/ArrayList$Itr", "checkForComodification", "()V"⟩, prog_43_method_6_code, 1, none, 1, 60)
theorem np_M_Ai_checkForComodification : (parseMethodDescriptor (mn M_Ai_checkForComodification).desc).map (fun d => d.parameters.length) = some 0 := by decide +kernel
theorem ok_M_Ai_checkForComodification : MdOK M_Ai_checkForComodification := ⟨(qm_3 (i := 15) rfl rfl), ini_java_util_ArrayList_Itr.1, ini_java_util_ArrayList_Itr.2, by decide +kernel⟩
theorem oki_M_Ai_checkForComodification : Cond.instanceMethod (mn M_Ai_checkForComodification) ∈ UW := (qm_3 (i := 13) rfl rfl)
theorem okv_M_Ai_checkForComodification : MdV M_Ai_checkForComodification := ⟨(qm_3 (i := 13) rfl rfl), (qm_3 (i := 14) rfl rfl)⟩
def M_Al_add_72be8 : Md := (⟨"java/util/ArrayList", "add", "(Ljava/lang/Object;[Ljava/lang/Object;I)V"⟩, prog_42_method_24_code, 4, none, 6, 168)
theorem np_M_Al_add_72be8 : (parseMethodDescriptor (mn M_Al_add_72be8).desc).map (fun d => d.parameters.length) = some 3 := by decide +kernel
theorem ok_M_Al_add_72be8 : MdOK M_Al_add_72be8 := ⟨(qm_3 (i := 104) rfl rfl), ini_java_util_ArrayList.1, ini_java_util_ArrayList.2, by decide +kernel⟩
theorem oki_M_Al_add_72be8 : Cond.instanceMethod (mn M_Al_add_72be8) ∈ UW := (qm_3 (i := 103) rfl rfl)
theorem okv_M_Al_add_72be8 : MdV M_Al_add_72be8 := ⟨(qm_3 (i := 103) rfl rfl), (qm_p (i := 0) (q := (⟨"java/util/ArrayList", "add", "(Ljava/lang/Object;[Ljava/lang/Object;I)V"⟩, _)) rfl rfl)⟩
def M_Hs_init : Md := (⟨"java/util/HashSet", "<init>", "(IFZ)V"⟩, prog_52_method_5_code, 4, none, 5, 146)
theorem np_M_Hs_init : (parseMethodDescriptor (mn M_Hs_init).desc).map (fun d => d.parameters.length) = some 3 := by decide +kernel
theorem ok_M_Hs_init : MdOK M_Hs_init := ⟨(qm_6 (i := 121) rfl rfl), ini_java_util_HashSet.1, ini_java_util_HashSet.2, by decide +kernel⟩
theorem oki_M_Hs_init : Cond.instanceMethod (mn M_Hs_init) ∈ UW := (qm_6 (i := 120) rfl rfl)
def M_Lm_keySet : Md := (⟨"java/util/LinkedHashMap", "keySet", "()Ljava/util/Set;"⟩, prog_54_method_24_code, 1, (some (.object "java/util/Set")), 5, 144)
theorem ini_java_util_LinkedHashMap : Cond.initialized "java/util/LinkedHashMap" ∈ UW ∧ (("java/util/LinkedHashMap" : String) ≠ "java/lang/invoke/MethodHandle" ∧ ("java/util/LinkedHashMap" : String) ≠ "java/lang/invoke/VarHandle") := ⟨(qm_1 (i := 38) rfl rfl), by decide +kernel⟩
theorem np_M_Lm_keySet : (parseMethodDescriptor (mn M_Lm_keySet).desc).map (fun d => d.parameters.length) = some 0 := by decide +kernel
theorem ok_M_Lm_keySet : MdOK M_Lm_keySet := ⟨(qm_9 (i := 66) rfl rfl), ini_java_util_LinkedHashMap.1, ini_java_util_LinkedHashMap.2, by decide +kernel⟩
theorem oki_M_Lm_keySet : Cond.instanceMethod (mn M_Lm_keySet) ∈ UW := (qm_9 (i := 65) rfl rfl)
def M_Lq_iterator : Md := (⟨"java/util/LinkedHashMap$LinkedKeySet", "iterator", "()Ljava/util/Iterator;"⟩, prog_58_method_4_code, 1, (some (.object "java/util/Iterator")), 3, 104)
theorem ini_java_util_LinkedHashMap_LinkedKeySet : Cond.initialized "java/util/LinkedHashMap$LinkedKeySet" ∈ UW ∧ (("java/util/LinkedHashMap$LinkedKeySet" : String) ≠ "java/lang/invoke/MethodHandle" ∧ ("java/util/LinkedHashMap$LinkedKeySet" : String) ≠ "java/lang/invoke/VarHandle") := ⟨(qm_1 (i := 47) rfl rfl), by decide +kernel⟩
theorem np_M_Lq_iterator : (parseMethodDescriptor (mn M_Lq_iterator).desc).map (fun d => d.parameters.length) = some 0 := by decide +kernel
theorem ok_M_Lq_iterator : MdOK M_Lq_iterator := ⟨(qm_9 (i := 126) rfl rfl), ini_java_util_LinkedHashMap_LinkedKeySet.1, ini_java_util_LinkedHashMap_LinkedKeySet.2, by decide +kernel⟩
theorem oki_M_Lq_iterator : Cond.instanceMethod (mn M_Lq_iterator) ∈ UW := (qm_9 (i := 124) rfl rfl)
def M_Lh_nextNode : Md := (⟨"java/util/LinkedHashMap$LinkedHashIterator", "nextNode", "()Ljava/util/LinkedHashMap$Entry;"⟩, prog_56_method_3_code, 2, (some (.object "java/util/LinkedHashMap$Entry")), 1, 60)
theorem np_M_Lh_nextNode : (parseMethodDescriptor (mn M_Lh_nextNode).desc).map (fun d => d.parameters.length) = some 0 := by decide +kernel
theorem ok_M_Lh_nextNode : MdOK M_Lh_nextNode := ⟨(qm_3 (i := 37) rfl rfl), ini_java_util_LinkedHashMap_LinkedHashIterator.1, ini_java_util_LinkedHashMap_LinkedHashIterator.2, by decide +kernel⟩
theorem oki_M_Lh_nextNode : Cond.instanceMethod (mn M_Lh_nextNode) ∈ UW := (qm_3 (i := 36) rfl rfl)
def M_Hn_getKey : Md := (⟨"java/util/HashMap$Node", "getKey", "()Ljava/lang/Object;"⟩, prog_50_method_2_code, 1, (some (.object "java/lang/Object")), 1, 60)
theorem ini_java_util_HashMap_Node : Cond.initialized "java/util/HashMap$Node" ∈ UW ∧ (("java/util/HashMap$Node" : String) ≠ "java/lang/invoke/MethodHandle" ∧ ("java/util/HashMap$Node" : String) ≠ "java/lang/invoke/VarHandle") := ⟨(qm_1 (i := 40) rfl rfl), by decide +kernel⟩
theorem np_M_Hn_getKey : (parseMethodDescriptor (mn M_Hn_getKey).desc).map (fun d => d.parameters.length) = some 0 := by decide +kernel
theorem ok_M_Hn_getKey : MdOK M_Hn_getKey := ⟨(qm_3 (i := 44) rfl rfl), ini_java_util_HashMap_Node.1, ini_java_util_HashMap_Node.2, by decide +kernel⟩
theorem oki_M_Hn_getKey : Cond.instanceMethod (mn M_Hn_getKey) ∈ UW := (qm_3 (i := 43) rfl rfl)
def M_In_init : Md := (⟨"java/lang/Integer", "<init>", "(I)V"⟩, prog_24_method_23_code, 2, none, 2, 80)
theorem np_M_In_init : (parseMethodDescriptor (mn M_In_init).desc).map (fun d => d.parameters.length) = some 1 := by decide +kernel
theorem ok_M_In_init : MdOK M_In_init := ⟨(qm_6 (i := 12) rfl rfl), ini_java_lang_Integer.1, ini_java_lang_Integer.2, by decide +kernel⟩
theorem oki_M_In_init : Cond.instanceMethod (mn M_In_init) ∈ UW := (qm_6 (i := 11) rfl rfl)
def M_Hm_put : Md := (⟨"java/util/HashMap", "put", "(Ljava/lang/Object;Ljava/lang/Object;)Ljava/lang/Object;"⟩, prog_46_method_15_code, 3, (some (.object "java/lang/Object")), 5, 165)
theorem ini_java_util_HashMap : Cond.initialized "java/util/HashMap" ∈ UW ∧ (("java/util/HashMap" : String) ≠ "java/lang/invoke/MethodHandle" ∧ ("java/util/HashMap" : String) ≠ "java/lang/invoke/VarHandle") := ⟨(qm_1 (i := 37) rfl rfl), by decide +kernel⟩
theorem np_M_Hm_put : (parseMethodDescriptor (mn M_Hm_put).desc).map (fun d => d.parameters.length) = some 2 := by decide +kernel
theorem ok_M_Hm_put : MdOK M_Hm_put := ⟨(qm_7 (i := 30) rfl rfl), ini_java_util_HashMap.1, ini_java_util_HashMap.2, by decide +kernel⟩
theorem oki_M_Hm_put : Cond.instanceMethod (mn M_Hm_put) ∈ UW := (qm_7 (i := 27) rfl rfl)
def M_As_init : Md := (⟨"java/lang/AbstractStringBuilder", "<init>", "(I)V"⟩, prog_18_method_2_code, 2, none, 1, 60)
theorem ini_java_lang_AbstractStringBuilder : Cond.initialized "java/lang/AbstractStringBuilder" ∈ UW ∧ (("java/lang/AbstractStringBuilder" : String) ≠ "java/lang/invoke/MethodHandle" ∧ ("java/lang/AbstractStringBuilder" : String) ≠ "java/lang/invoke/VarHandle") := ⟨(qm_1 (i := 18) rfl rfl), by decide +kernel⟩
theorem np_M_As_init : (parseMethodDescriptor (mn M_As_init).desc).map (fun d => d.parameters.length) = some 1 := by decide +kernel
theorem ok_M_As_init : MdOK M_As_init := ⟨(qm_3 (i := 195) rfl rfl), ini_java_lang_AbstractStringBuilder.1, ini_java_lang_AbstractStringBuilder.2, by decide +kernel⟩
theorem oki_M_As_init : Cond.instanceMethod (mn M_As_init) ∈ UW := (qm_3 (i := 194) rfl rfl)
def M_As_append_c97b9 : Md := (⟨"java/lang/AbstractStringBuilder", "append", "(I)Ljava/lang/AbstractStringBuilder;"⟩, prog_18_method_32_code, 4, (some (.object "java/lang/AbstractStringBuilder")), 5, 152)
theorem np_M_As_append_c97b9 : (parseMethodDescriptor (mn M_As_append_c97b9).desc).map (fun d => d.parameters.length) = some 1 := by decide +kernel
theorem ok_M_As_append_c97b9 : MdOK M_As_append_c97b9 := ⟨(qm_4 (i := 106) rfl rfl), ini_java_lang_AbstractStringBuilder.1, ini_java_lang_AbstractStringBuilder.2, by decide +kernel⟩
theorem oki_M_As_append_c97b9 : Cond.instanceMethod (mn M_As_append_c97b9) ∈ UW := (qm_4 (i := 105) rfl rfl)
def M_As_append_cf1ce : Md := (⟨"java/lang/AbstractStringBuilder", "append", "(Ljava/lang/String;)Ljava/lang/AbstractStringBuilder;"⟩, prog_18_method_22_code, 3, (some (.object "java/lang/AbstractStringBuilder")), 5, 152)
theorem np_M_As_append_cf1ce : (parseMethodDescriptor (mn M_As_append_cf1ce).desc).map (fun d => d.parameters.length) = some 1 := by decide +kernel
theorem ok_M_As_append_cf1ce : MdOK M_As_append_cf1ce := ⟨(qm_4 (i := 1) rfl rfl), ini_java_lang_AbstractStringBuilder.1, ini_java_lang_AbstractStringBuilder.2, by decide +kernel⟩
theorem oki_M_As_append_cf1ce : Cond.instanceMethod (mn M_As_append_cf1ce) ∈ UW := (qm_4 (i := 0) rfl rfl)
def M_Sg_init_81219 : Md := (⟨"java/lang/String", "<init>", "(Ljava/lang/StringBuilder;)V"⟩, prog_30_method_53_code, 2, none, 5, 151)
theorem np_M_Sg_init_81219 : (parseMethodDescriptor (mn M_Sg_init_81219).desc).map (fun d => d.parameters.length) = some 1 := by decide +kernel
theorem ok_M_Sg_init_81219 : MdOK M_Sg_init_81219 := ⟨(qm_4 (i := 190) rfl rfl), ini_java_lang_String.1, ini_java_lang_String.2, by decide +kernel⟩
theorem oki_M_Sg_init_81219 : Cond.instanceMethod (mn M_Sg_init_81219) ∈ UW := (qm_4 (i := 189) rfl rfl)
def M_Al_add_7a177 : Md := (⟨"java/util/ArrayList", "add", "(ILjava/lang/Object;)V"⟩, prog_42_method_26_code, 5, none, 6, 168)
theorem np_M_Al_add_7a177 : (parseMethodDescriptor (mn M_Al_add_7a177).desc).map (fun d => d.parameters.length) = some 2 := by decide +kernel
theorem ok_M_Al_add_7a177 : MdOK M_Al_add_7a177 := ⟨(qm_10 (i := 137) rfl rfl), ini_java_util_ArrayList.1, ini_java_util_ArrayList.2, by decide +kernel⟩
theorem oki_M_Al_add_7a177 : Cond.instanceMethod (mn M_Al_add_7a177) ∈ UW := (qm_10 (i := 135) rfl rfl)
theorem okv_M_Al_add_7a177 : MdV M_Al_add_7a177 := ⟨(qm_10 (i := 135) rfl rfl), (qm_10 (i := 136) rfl rfl)⟩
def M_Al_indexOfRange : Md := (⟨"java/util/ArrayList", "indexOfRange", "(Ljava/lang/Object;II)I"⟩, prog_42_method_12_code, 6, some .int, 3, 101)
theorem np_M_Al_indexOfRange : (parseMethodDescriptor (mn M_Al_indexOfRange).desc).map (fun d => d.parameters.length) = some 3 := by decide +kernel
theorem ok_M_Al_indexOfRange : MdOK M_Al_indexOfRange := ⟨(qm_6 (i := 32) rfl rfl), ini_java_util_ArrayList.1, ini_java_util_ArrayList.2, by decide +kernel⟩
theorem oki_M_Al_indexOfRange : Cond.instanceMethod (mn M_Al_indexOfRange) ∈ UW := (qm_6 (i := 30) rfl rfl)
theorem okv_M_Al_indexOfRange : MdV M_Al_indexOfRange := ⟨(qm_6 (i := 30) rfl rfl), (qm_6 (i := 31) rfl rfl)⟩
def M_Ac_init : Md := (⟨"java/util/AbstractCollection", "<init>", "()V"⟩, prog_38_method_1_code, 1, none, 1, 60)
theorem ini_java_util_AbstractCollection : Cond.initialized "java/util/AbstractCollection" ∈ UW ∧ (("java/util/AbstractCollection" : String) ≠ "java/lang/invoke/MethodHandle" ∧ ("java/util/AbstractCollection" : String) ≠ "java/lang/invoke/VarHandle") := ⟨(qm_1 (i := 13) rfl rfl), by decide +kernel⟩
theorem np_M_Ac_init : (parseMethodDescriptor (mn M_Ac_init).desc).map (fun d => d.parameters.length) = some 0 := by decide +kernel
theorem ok_M_Ac_init : MdOK M_Ac_init := ⟨(qm_2 (i := 135) rfl rfl), ini_java_util_AbstractCollection.1, ini_java_util_AbstractCollection.2, by decide +kernel⟩
theorem oki_M_Ac_init : Cond.instanceMethod (mn M_Ac_init) ∈ UW := (qm_2 (i := 134) rfl rfl)
def M_As_length : Md := (⟨"java/lang/AbstractStringBuilder", "length", "()I"⟩, prog_18_method_6_code, 1, some .int, 1, 60)
theorem np_M_As_length : (parseMethodDescriptor (mn M_As_length).desc).map (fun d => d.parameters.length) = some 0 := by decide +kernel
theorem ok_M_As_length : MdOK M_As_length := ⟨(qm_3 (i := 229) rfl rfl), ini_java_lang_AbstractStringBuilder.1, ini_java_lang_AbstractStringBuilder.2, by decide +kernel⟩
theorem oki_M_As_length : Cond.instanceMethod (mn M_As_length) ∈ UW := (qm_3 (i := 228) rfl rfl)
def M_As_append_3fe6f : Md := (⟨"java/lang/AbstractStringBuilder", "append", "(C)Ljava/lang/AbstractStringBuilder;"⟩, prog_18_method_31_code, 2, (some (.object "java/lang/AbstractStringBuilder")), 5, 152)
theorem np_M_As_append_3fe6f : (parseMethodDescriptor (mn M_As_append_3fe6f).desc).map (fun d => d.parameters.length) = some 1 := by decide +kernel
theorem ok_M_As_append_3fe6f : MdOK M_As_append_3fe6f := ⟨(qm_4 (i := 131) rfl rfl), ini_java_lang_AbstractStringBuilder.1, ini_java_lang_AbstractStringBuilder.2, by decide +kernel⟩
theorem oki_M_As_append_3fe6f : Cond.instanceMethod (mn M_As_append_3fe6f) ∈ UW := (qm_4 (i := 130) rfl rfl)
def M_Al_grow_d5877 : Md := (⟨"java/util/ArrayList", "grow", "()[Ljava/lang/Object;"⟩, prog_42_method_7_code, 1, (some (.array (.object "java/lang/Object"))), 5, 148)
theorem np_M_Al_grow_d5877 : (parseMethodDescriptor (mn M_Al_grow_d5877).desc).map (fun d => d.parameters.length) = some 0 := by decide +kernel
theorem ok_M_Al_grow_d5877 : MdOK M_Al_grow_d5877 := ⟨(qm_3 (i := 108) rfl rfl), ini_java_util_ArrayList.1, ini_java_util_ArrayList.2, by decide +kernel⟩
theorem oki_M_Al_grow_d5877 : Cond.instanceMethod (mn M_Al_grow_d5877) ∈ UW := (qm_3 (i := 107) rfl rfl)
theorem okv_M_Al_grow_d5877 : MdV M_Al_grow_d5877 := ⟨(qm_3 (i := 107) rfl rfl), (qm_p (i := 1) (q := (⟨"java/util/ArrayList", "grow", "()[Ljava/lang/Object;"⟩, _)) rfl rfl)⟩
def M_Ab_init : Md := (⟨"java/util/AbstractSet", "<init>", "()V"⟩, prog_41_method_1_code, 1, none, 2, 80)
theorem ini_java_util_AbstractSet : Cond.initialized "java/util/AbstractSet" ∈ UW ∧ (("java/util/AbstractSet" : String) ≠ "java/lang/invoke/MethodHandle" ∧ ("java/util/AbstractSet" : String) ≠ "java/lang/invoke/VarHandle") := ⟨(qm_1 (i := 33) rfl rfl), by decide +kernel⟩
theorem np_M_Ab_init : (parseMethodDescriptor (mn M_Ab_init).desc).map (fun d => d.parameters.length) = some 0 := by decide +kernel
theorem ok_M_Ab_init : MdOK M_Ab_init := ⟨(qm_6 (i := 124) rfl rfl), ini_java_util_AbstractSet.1, ini_java_util_AbstractSet.2, by decide +kernel⟩
theorem oki_M_Ab_init : Cond.instanceMethod (mn M_Ab_init) ∈ UW := (qm_6 (i := 123) rfl rfl)
def M_Lm_init : Md := (⟨"java/util/LinkedHashMap", "<init>", "(IF)V"⟩, prog_54_method_14_code, 3, none, 4, 124)
theorem np_M_Lm_init : (parseMethodDescriptor (mn M_Lm_init).desc).map (fun d => d.parameters.length) = some 2 := by decide +kernel
theorem ok_M_Lm_init : MdOK M_Lm_init := ⟨(qm_6 (i := 130) rfl rfl), ini_java_util_LinkedHashMap.1, ini_java_util_LinkedHashMap.2, by decide +kernel⟩
theorem oki_M_Lm_init : Cond.instanceMethod (mn M_Lm_init) ∈ UW := (qm_6 (i := 129) rfl rfl)
def M_Lm_sequencedKeySet : Md := (⟨"java/util/LinkedHashMap", "sequencedKeySet", "()Ljava/util/SequencedSet;"⟩, prog_54_method_25_code, 3, (some (.object "java/util/SequencedSet")), 4, 122)
theorem np_M_Lm_sequencedKeySet : (parseMethodDescriptor (mn M_Lm_sequencedKeySet).desc).map (fun d => d.parameters.length) = some 0 := by decide +kernel
theorem ok_M_Lm_sequencedKeySet : MdOK M_Lm_sequencedKeySet := ⟨(qm_9 (i := 70) rfl rfl), ini_java_util_LinkedHashMap.1, ini_java_util_LinkedHashMap.2, by decide +kernel⟩
theorem oki_M_Lm_sequencedKeySet : Cond.instanceMethod (mn M_Lm_sequencedKeySet) ∈ UW := (qm_9 (i := 68) rfl rfl)
theorem okv_M_Lm_sequencedKeySet : MdV M_Lm_sequencedKeySet := ⟨(qm_9 (i := 68) rfl rfl), (qm_9 (i := 69) rfl rfl)⟩
def M_Lk_init : Md := (⟨"java/util/LinkedHashMap$LinkedKeyIterator", "<init>", "(Ljava/util/LinkedHashMap;Z)V"⟩, prog_57_method_1_code, 3, none, 2, 82)
theorem np_M_Lk_init : (parseMethodDescriptor (mn M_Lk_init).desc).map (fun d => d.parameters.length) = some 2 := by decide +kernel
theorem ok_M_Lk_init : MdOK M_Lk_init := ⟨(qm_9 (i := 131) rfl rfl), ini_java_util_LinkedHashMap_LinkedKeyIterator.1, ini_java_util_LinkedHashMap_LinkedKeyIterator.2, by decide +kernel⟩
theorem oki_M_Lk_init : Cond.instanceMethod (mn M_Lk_init) ∈ UW := (qm_9 (i := 130) rfl rfl)
def M_Nu_init : Md := (⟨"java/lang/Number", "<init>", "()V"⟩, prog_29_method_1_code, 1, none, 1, 60)
theorem ini_java_lang_Number : Cond.initialized "java/lang/Number" ∈ UW ∧ (("java/lang/Number" : String) ≠ "java/lang/invoke/MethodHandle" ∧ ("java/lang/Number" : String) ≠ "java/lang/invoke/VarHandle") := ⟨(qm_1 (i := 27) rfl rfl), by decide +kernel⟩
theorem np_M_Nu_init : (parseMethodDescriptor (mn M_Nu_init).desc).map (fun d => d.parameters.length) = some 0 := by decide +kernel
theorem ok_M_Nu_init : MdOK M_Nu_init := ⟨(qm_6 (i := 15) rfl rfl), ini_java_lang_Number.1, ini_java_lang_Number.2, by decide +kernel⟩
theorem oki_M_Nu_init : Cond.instanceMethod (mn M_Nu_init) ∈ UW := (qm_6 (i := 14) rfl rfl)
def M_Hm_hash : Md := (⟨"java/util/HashMap", "hash", "(Ljava/lang/Object;)I"⟩, prog_46_method_1_code, 2, some .int, 3, 100)
theorem np_M_Hm_hash : (parseMethodDescriptor (mn M_Hm_hash).desc).map (fun d => d.parameters.length) = some 1 := by decide +kernel
theorem ok_M_Hm_hash : MdOK M_Hm_hash := ⟨(qm_7 (i := 33) rfl rfl), ini_java_util_HashMap.1, ini_java_util_HashMap.2, by decide +kernel⟩
theorem oks_M_Hm_hash : Cond.static (mn M_Hm_hash) ∈ UW := (qm_7 (i := 32) rfl rfl)
def M_Hm_putVal : Md := (⟨"java/util/HashMap", "putVal", "(ILjava/lang/Object;Ljava/lang/Object;ZZ)Ljava/lang/Object;"⟩, prog_46_method_16_code, 13, (some (.object "java/lang/Object")), 4, 133)
theorem np_M_Hm_putVal : (parseMethodDescriptor (mn M_Hm_putVal).desc).map (fun d => d.parameters.length) = some 5 := by decide +kernel
theorem ok_M_Hm_putVal : MdOK M_Hm_putVal := ⟨(qm_7 (i := 114) rfl rfl), ini_java_util_HashMap.1, ini_java_util_HashMap.2, by decide +kernel⟩
theorem oki_M_Hm_putVal : Cond.instanceMethod (mn M_Hm_putVal) ∈ UW := (qm_7 (i := 111) rfl rfl)
def M_In_stringSize : Md := (⟨"java/lang/Integer", "stringSize", "(I)I"⟩, prog_24_method_13_code, 4, some .int, 1, 60)
theorem np_M_In_stringSize : (parseMethodDescriptor (mn M_In_stringSize).desc).map (fun d => d.parameters.length) = some 1 := by decide +kernel
theorem ok_M_In_stringSize : MdOK M_In_stringSize := ⟨(qm_4 (i := 109) rfl rfl), ini_java_lang_Integer.1, ini_java_lang_Integer.2, by decide +kernel⟩
theorem oks_M_In_stringSize : Cond.static (mn M_In_stringSize) ∈ UW := (qm_4 (i := 108) rfl rfl)
def M_As_ensureCapacityInternal : Md := (⟨"java/lang/AbstractStringBuilder", "ensureCapacityInternal", "(I)V"⟩, prog_18_method_9_code, 3, none, 4, 130)
theorem np_M_As_ensureCapacityInternal : (parseMethodDescriptor (mn M_As_ensureCapacityInternal).desc).map (fun d => d.parameters.length) = some 1 := by decide +kernel
theorem ok_M_As_ensureCapacityInternal : MdOK M_As_ensureCapacityInternal := ⟨(qm_4 (i := 9) rfl rfl), ini_java_lang_AbstractStringBuilder.1, ini_java_lang_AbstractStringBuilder.2, by decide +kernel⟩
theorem oki_M_As_ensureCapacityInternal : Cond.instanceMethod (mn M_As_ensureCapacityInternal) ∈ UW := (qm_4 (i := 8) rfl rfl)
def M_As_isLatin1 : Md := (⟨"java/lang/AbstractStringBuilder", "isLatin1", "()Z"⟩, prog_18_method_68_code, 1, some .boolean, 1, 60)
theorem np_M_As_isLatin1 : (parseMethodDescriptor (mn M_As_isLatin1).desc).map (fun d => d.parameters.length) = some 0 := by decide +kernel
theorem ok_M_As_isLatin1 : MdOK M_As_isLatin1 := ⟨(qm_4 (i := 30) rfl rfl), ini_java_lang_AbstractStringBuilder.1, ini_java_lang_AbstractStringBuilder.2, by decide +kernel⟩
theorem oki_M_As_isLatin1 : Cond.instanceMethod (mn M_As_isLatin1) ∈ UW := (qm_4 (i := 27) rfl rfl)
def M_In_getChars : Md := (⟨"java/lang/Integer", "getChars", "(II[B)I"⟩, prog_24_method_12_code, 7, some .int, 1, 60)
theorem np_M_In_getChars : (parseMethodDescriptor (mn M_In_getChars).desc).map (fun d => d.parameters.length) = some 3 := by decide +kernel
theorem ok_M_In_getChars : MdOK M_In_getChars := ⟨(qm_4 (i := 112) rfl rfl), ini_java_lang_Integer.1, ini_java_lang_Integer.2, by decide +kernel⟩
theorem oks_M_In_getChars : Cond.static (mn M_In_getChars) ∈ UW := (qm_4 (i := 111) rfl rfl)
def M_As_putStringAt : Md := (⟨"java/lang/AbstractStringBuilder", "putStringAt", "(ILjava/lang/String;)V"⟩, prog_18_method_73_code, 3, none, 2, 83)
theorem np_M_As_putStringAt : (parseMethodDescriptor (mn M_As_putStringAt).desc).map (fun d => d.parameters.length) = some 2 := by decide +kernel
theorem ok_M_As_putStringAt : MdOK M_As_putStringAt := ⟨(qm_4 (i := 69) rfl rfl), ini_java_lang_AbstractStringBuilder.1, ini_java_lang_AbstractStringBuilder.2, by decide +kernel⟩
theorem oki_M_As_putStringAt : Cond.instanceMethod (mn M_As_putStringAt) ∈ UW := (qm_4 (i := 68) rfl rfl)
def M_Sg_init_db425 : Md := (⟨"java/lang/String", "<init>", "(Ljava/lang/AbstractStringBuilder;Ljava/lang/Void;)V"⟩, prog_30_method_150_code, 5, none, 4, 127)
theorem np_M_Sg_init_db425 : (parseMethodDescriptor (mn M_Sg_init_db425).desc).map (fun d => d.parameters.length) = some 2 := by decide +kernel
theorem ok_M_Sg_init_db425 : MdOK M_Sg_init_db425 := ⟨(qm_4 (i := 193) rfl rfl), ini_java_lang_String.1, ini_java_lang_String.2, by decide +kernel⟩
theorem oki_M_Sg_init_db425 : Cond.instanceMethod (mn M_Sg_init_db425) ∈ UW := (qm_4 (i := 192) rfl rfl)
def M_Al_rangeCheckForAdd : Md := (⟨"java/util/ArrayList", "rangeCheckForAdd", "(I)V"⟩, prog_42_method_45_code, 2, none, 1, 60)
theorem np_M_Al_rangeCheckForAdd : (parseMethodDescriptor (mn M_Al_rangeCheckForAdd).desc).map (fun d => d.parameters.length) = some 1 := by decide +kernel
theorem ok_M_Al_rangeCheckForAdd : MdOK M_Al_rangeCheckForAdd := ⟨(qm_10 (i := 141) rfl rfl), ini_java_util_ArrayList.1, ini_java_util_ArrayList.2, by decide +kernel⟩
theorem oki_M_Al_rangeCheckForAdd : Cond.instanceMethod (mn M_Al_rangeCheckForAdd) ∈ UW := (qm_10 (i := 140) rfl rfl)
theorem okv_M_Al_rangeCheckForAdd : MdV M_Al_rangeCheckForAdd := ⟨(qm_10 (i := 140) rfl rfl), (qm_p (i := 22) (q := (⟨"java/util/ArrayList", "rangeCheckForAdd", "(I)V"⟩, _)) rfl rfl)⟩
def M_In_equals : Md := (⟨"java/lang/Integer", "equals", "(Ljava/lang/Object;)Z"⟩, prog_24_method_34_code, 2, some .boolean, 2, 80)
theorem np_M_In_equals : (parseMethodDescriptor (mn M_In_equals).desc).map (fun d => d.parameters.length) = some 1 := by decide +kernel
theorem ok_M_In_equals : MdOK M_In_equals := ⟨(qm_6 (i := 53) rfl rfl), ini_java_lang_Integer.1, ini_java_lang_Integer.2, by decide +kernel⟩
theorem oki_M_In_equals : Cond.instanceMethod (mn M_In_equals) ∈ UW := (qm_6 (i := 52) rfl rfl)
def M_Sl_canEncode : Md := (⟨"java/lang/StringLatin1", "canEncode", "(C)Z"⟩, prog_32_method_3_code, 1, some .boolean, 1, 60)
theorem np_M_Sl_canEncode : (parseMethodDescriptor (mn M_Sl_canEncode).desc).map (fun d => d.parameters.length) = some 1 := by decide +kernel
theorem ok_M_Sl_canEncode : MdOK M_Sl_canEncode := ⟨(qm_4 (i := 134) rfl rfl), ini_java_lang_StringLatin1.1, ini_java_lang_StringLatin1.2, by decide +kernel⟩
theorem oks_M_Sl_canEncode : Cond.static (mn M_Sl_canEncode) ∈ UW := (qm_4 (i := 133) rfl rfl)
def M_Al_grow_92f84 : Md := (⟨"java/util/ArrayList", "grow", "(I)[Ljava/lang/Object;"⟩, prog_42_method_6_code, 4, (some (.array (.object "java/lang/Object"))), 4, 125)
theorem np_M_Al_grow_92f84 : (parseMethodDescriptor (mn M_Al_grow_92f84).desc).map (fun d => d.parameters.length) = some 1 := by decide +kernel
theorem ok_M_Al_grow_92f84 : MdOK M_Al_grow_92f84 := ⟨(qm_3 (i := 112) rfl rfl), ini_java_util_ArrayList.1, ini_java_util_ArrayList.2, by decide +kernel⟩
theorem oki_M_Al_grow_92f84 : Cond.instanceMethod (mn M_Al_grow_92f84) ∈ UW := (qm_3 (i := 111) rfl rfl)
theorem okv_M_Al_grow_92f84 : MdV M_Al_grow_92f84 := ⟨(qm_3 (i := 111) rfl rfl), (qm_p (i := 2) (q := (⟨"java/util/ArrayList", "grow", "(I)[Ljava/lang/Object;"⟩, _)) rfl rfl)⟩
def M_Hm_init : Md := (⟨"java/util/HashMap", "<init>", "(IF)V"⟩, prog_46_method_5_code, 3, none, 3, 102)
theorem np_M_Hm_init : (parseMethodDescriptor (mn M_Hm_init).desc).map (fun d => d.parameters.length) = some 2 := by decide +kernel
theorem ok_M_Hm_init : MdOK M_Hm_init := ⟨(qm_6 (i := 133) rfl rfl), ini_java_util_HashMap.1, ini_java_util_HashMap.2, by decide +kernel⟩
theorem oki_M_Hm_init : Cond.instanceMethod (mn M_Hm_init) ∈ UW := (qm_6 (i := 132) rfl rfl)
def M_Lq_init : Md := (⟨"java/util/LinkedHashMap$LinkedKeySet", "<init>", "(Ljava/util/LinkedHashMap;Z)V"⟩, prog_58_method_1_code, 3, none, 3, 100)
theorem np_M_Lq_init : (parseMethodDescriptor (mn M_Lq_init).desc).map (fun d => d.parameters.length) = some 2 := by decide +kernel
theorem ok_M_Lq_init : MdOK M_Lq_init := ⟨(qm_9 (i := 75) rfl rfl), ini_java_util_LinkedHashMap_LinkedKeySet.1, ini_java_util_LinkedHashMap_LinkedKeySet.2, by decide +kernel⟩
theorem oki_M_Lq_init : Cond.instanceMethod (mn M_Lq_init) ∈ UW := (qm_9 (i := 74) rfl rfl)
def M_Lh_init : Md := (⟨"java/util/LinkedHashMap$LinkedHashIterator", "<init>", "(Ljava/util/LinkedHashMap;Z)V"⟩, prog_56_method_1_code, 3, none, 1, 60)
theorem np_M_Lh_init : (parseMethodDescriptor (mn M_Lh_init).desc).map (fun d => d.parameters.length) = some 2 := by decide +kernel
theorem ok_M_Lh_init : MdOK M_Lh_init := ⟨(qm_9 (i := 134) rfl rfl), ini_java_util_LinkedHashMap_LinkedHashIterator.1, ini_java_util_LinkedHashMap_LinkedHashIterator.2, by decide +kernel⟩
theorem oki_M_Lh_init : Cond.instanceMethod (mn M_Lh_init) ∈ UW := (qm_9 (i := 133) rfl rfl)
def M_In_hashCode_8abf5 : Md := (⟨"java/lang/Integer", "hashCode", "()I"⟩, prog_24_method_32_code, 1, some .int, 2, 80)
theorem np_M_In_hashCode_8abf5 : (parseMethodDescriptor (mn M_In_hashCode_8abf5).desc).map (fun d => d.parameters.length) = some 0 := by decide +kernel
theorem ok_M_In_hashCode_8abf5 : MdOK M_In_hashCode_8abf5 := ⟨(qm_7 (i := 54) rfl rfl), ini_java_lang_Integer.1, ini_java_lang_Integer.2, by decide +kernel⟩
theorem oki_M_In_hashCode_8abf5 : Cond.instanceMethod (mn M_In_hashCode_8abf5) ∈ UW := (qm_7 (i := 53) rfl rfl)
def M_Hm_resize : Md := (⟨"java/util/HashMap", "resize", "()[Ljava/util/HashMap$Node;"⟩, prog_46_method_17_code, 14, (some (.array (.object "java/util/HashMap$Node"))), 1, 60)
theorem np_M_Hm_resize : (parseMethodDescriptor (mn M_Hm_resize).desc).map (fun d => d.parameters.length) = some 0 := by decide +kernel
theorem ok_M_Hm_resize : MdOK M_Hm_resize := ⟨(qm_7 (i := 119) rfl rfl), ini_java_util_HashMap.1, ini_java_util_HashMap.2, by decide +kernel⟩
theorem oki_M_Hm_resize : Cond.instanceMethod (mn M_Hm_resize) ∈ UW := (qm_7 (i := 116) rfl rfl)
def M_Lm_newNode : Md := (⟨"java/util/LinkedHashMap", "newNode", "(ILjava/lang/Object;Ljava/lang/Object;Ljava/util/HashMap$Node;)Ljava/util/HashMap$Node;"⟩, prog_54_method_4_code, 6, (some (.object "java/util/HashMap$Node")), 3, 108)
theorem np_M_Lm_newNode : (parseMethodDescriptor (mn M_Lm_newNode).desc).map (fun d => d.parameters.length) = some 4 := by decide +kernel
theorem ok_M_Lm_newNode : MdOK M_Lm_newNode := ⟨(qm_8 (i := 179) rfl rfl), ini_java_util_LinkedHashMap.1, ini_java_util_LinkedHashMap.2, by decide +kernel⟩
theorem oki_M_Lm_newNode : Cond.instanceMethod (mn M_Lm_newNode) ∈ UW := (qm_8 (i := 178) rfl rfl)
def M_Lm_afterNodeInsertion : Md := (⟨"java/util/LinkedHashMap", "afterNodeInsertion", "(Z)V"⟩, prog_54_method_9_code, 4, none, 2, 81)
theorem np_M_Lm_afterNodeInsertion : (parseMethodDescriptor (mn M_Lm_afterNodeInsertion).desc).map (fun d => d.parameters.length) = some 1 := by decide +kernel
theorem ok_M_Lm_afterNodeInsertion : MdOK M_Lm_afterNodeInsertion := ⟨(qm_9 (i := 20) rfl rfl), ini_java_util_LinkedHashMap.1, ini_java_util_LinkedHashMap.2, by decide +kernel⟩
theorem oki_M_Lm_afterNodeInsertion : Cond.instanceMethod (mn M_Lm_afterNodeInsertion) ∈ UW := (qm_9 (i := 19) rfl rfl)
def M_Lm_afterNodeAccess : Md := (⟨"java/util/LinkedHashMap", "afterNodeAccess", "(Ljava/util/HashMap$Node;)V"⟩, prog_54_method_10_code, 7, none, 1, 60)
theorem np_M_Lm_afterNodeAccess : (parseMethodDescriptor (mn M_Lm_afterNodeAccess).desc).map (fun d => d.parameters.length) = some 1 := by decide +kernel
theorem ok_M_Lm_afterNodeAccess : MdOK M_Lm_afterNodeAccess := ⟨(qm_9 (i := 13) rfl rfl), ini_java_util_LinkedHashMap.1, ini_java_util_LinkedHashMap.2, by decide +kernel⟩
theorem oki_M_Lm_afterNodeAccess : Cond.instanceMethod (mn M_Lm_afterNodeAccess) ∈ UW := (qm_9 (i := 12) rfl rfl)
def M_As_newCapacity : Md := (⟨"java/lang/AbstractStringBuilder", "newCapacity", "(I)I"⟩, prog_18_method_10_code, 6, some .int, 3, 105)
theorem np_M_As_newCapacity : (parseMethodDescriptor (mn M_As_newCapacity).desc).map (fun d => d.parameters.length) = some 1 := by decide +kernel
theorem ok_M_As_newCapacity : MdOK M_As_newCapacity := ⟨(qm_4 (i := 13) rfl rfl), ini_java_lang_AbstractStringBuilder.1, ini_java_lang_AbstractStringBuilder.2, by decide +kernel⟩
theorem oki_M_As_newCapacity : Cond.instanceMethod (mn M_As_newCapacity) ∈ UW := (qm_4 (i := 12) rfl rfl)
def M_Ar_copyOf_9075b : Md := (⟨"java/util/Arrays", "copyOf", "([BI)[B"⟩, prog_44_method_121_code, 3, (some (.array .byte)), 2, 81)
theorem np_M_Ar_copyOf_9075b : (parseMethodDescriptor (mn M_Ar_copyOf_9075b).desc).map (fun d => d.parameters.length) = some 2 := by decide +kernel
theorem ok_M_Ar_copyOf_9075b : MdOK M_Ar_copyOf_9075b := ⟨(qm_4 (i := 18) rfl rfl), ini_java_util_Arrays.1, ini_java_util_Arrays.2, by decide +kernel⟩
theorem oks_M_Ar_copyOf_9075b : Cond.static (mn M_Ar_copyOf_9075b) ∈ UW := (qm_4 (i := 17) rfl rfl)
def M_As_inflateIfNeededFor : Md := (⟨"java/lang/AbstractStringBuilder", "inflateIfNeededFor", "(Ljava/lang/String;)V"⟩, prog_18_method_71_code, 2, none, 1, 60)
theorem np_M_As_inflateIfNeededFor : (parseMethodDescriptor (mn M_As_inflateIfNeededFor).desc).map (fun d => d.parameters.length) = some 1 := by decide +kernel
theorem ok_M_As_inflateIfNeededFor : MdOK M_As_inflateIfNeededFor := ⟨(qm_4 (i := 73) rfl rfl), ini_java_lang_AbstractStringBuilder.1, ini_java_lang_AbstractStringBuilder.2, by decide +kernel⟩
theorem oki_M_As_inflateIfNeededFor : Cond.instanceMethod (mn M_As_inflateIfNeededFor) ∈ UW := (qm_4 (i := 72) rfl rfl)
def M_Sg_getBytes : Md := (⟨"java/lang/String", "getBytes", "([BIB)V"⟩, prog_30_method_147_code, 4, none, 1, 60)
theorem np_M_Sg_getBytes : (parseMethodDescriptor (mn M_Sg_getBytes).desc).map (fun d => d.parameters.length) = some 3 := by decide +kernel
theorem ok_M_Sg_getBytes : MdOK M_Sg_getBytes := ⟨(qm_4 (i := 97) rfl rfl), ini_java_lang_String.1, ini_java_lang_String.2, by decide +kernel⟩
theorem oki_M_Sg_getBytes : Cond.instanceMethod (mn M_Sg_getBytes) ∈ UW := (qm_4 (i := 95) rfl rfl)
theorem okv_M_Sg_getBytes : MdV M_Sg_getBytes := ⟨(qm_4 (i := 95) rfl rfl), (qm_4 (i := 96) rfl rfl)⟩
def M_As_getValue : Md := (⟨"java/lang/AbstractStringBuilder", "getValue", "()[B"⟩, prog_18_method_64_code, 1, (some (.array .byte)), 1, 60)
theorem np_M_As_getValue : (parseMethodDescriptor (mn M_As_getValue).desc).map (fun d => d.parameters.length) = some 0 := by decide +kernel
theorem ok_M_As_getValue : MdOK M_As_getValue := ⟨(qm_4 (i := 199) rfl rfl), ini_java_lang_AbstractStringBuilder.1, ini_java_lang_AbstractStringBuilder.2, by decide +kernel⟩
theorem oki_M_As_getValue : Cond.instanceMethod (mn M_As_getValue) ∈ UW := (qm_4 (i := 196) rfl rfl)
def M_Ar_copyOfRange : Md := (⟨"java/util/Arrays", "copyOfRange", "([BII)[B"⟩, prog_44_method_132_code, 3, (some (.array .byte)), 3, 105)
theorem np_M_Ar_copyOfRange : (parseMethodDescriptor (mn M_Ar_copyOfRange).desc).map (fun d => d.parameters.length) = some 3 := by decide +kernel
theorem ok_M_Ar_copyOfRange : MdOK M_Ar_copyOfRange := ⟨(qm_4 (i := 204) rfl rfl), ini_java_util_Arrays.1, ini_java_util_Arrays.2, by decide +kernel⟩
theorem oks_M_Ar_copyOfRange : Cond.static (mn M_Ar_copyOfRange) ∈ UW := (qm_4 (i := 203) rfl rfl)
def M_Ss_newLength : Md := (⟨"jdk/internal/util/ArraysSupport", "newLength", "(III)I"⟩, prog_72_method_27_code, 4, some .int, 2, 82)
theorem ini_jdk_internal_util_ArraysSupport : Cond.initialized "jdk/internal/util/ArraysSupport" ∈ UW ∧ (("jdk/internal/util/ArraysSupport" : String) ≠ "java/lang/invoke/MethodHandle" ∧ ("jdk/internal/util/ArraysSupport" : String) ≠ "java/lang/invoke/VarHandle") := ⟨(qm_1 (i := 22) rfl rfl), by decide +kernel⟩
theorem np_M_Ss_newLength : (parseMethodDescriptor (mn M_Ss_newLength).desc).map (fun d => d.parameters.length) = some 3 := by decide +kernel
theorem ok_M_Ss_newLength : MdOK M_Ss_newLength := ⟨(qm_3 (i := 115) rfl rfl), ini_jdk_internal_util_ArraysSupport.1, ini_jdk_internal_util_ArraysSupport.2, by decide +kernel⟩
theorem oks_M_Ss_newLength : Cond.static (mn M_Ss_newLength) ∈ UW := (qm_3 (i := 114) rfl rfl)
def M_Ar_copyOf_1904c : Md := (⟨"java/util/Arrays", "copyOf", "([Ljava/lang/Object;I)[Ljava/lang/Object;"⟩, prog_44_method_119_code, 2, (some (.array (.object "java/lang/Object"))), 3, 104)
theorem np_M_Ar_copyOf_1904c : (parseMethodDescriptor (mn M_Ar_copyOf_1904c).desc).map (fun d => d.parameters.length) = some 2 := by decide +kernel
theorem ok_M_Ar_copyOf_1904c : MdOK M_Ar_copyOf_1904c := ⟨(qm_3 (i := 123) rfl rfl), ini_java_util_Arrays.1, ini_java_util_Arrays.2, by decide +kernel⟩
theorem oks_M_Ar_copyOf_1904c : Cond.static (mn M_Ar_copyOf_1904c) ∈ UW := (qm_3 (i := 122) rfl rfl)
def M_Am_init : Md := (⟨"java/util/AbstractMap", "<init>", "()V"⟩, prog_40_method_1_code, 1, none, 1, 60)
theorem ini_java_util_AbstractMap : Cond.initialized "java/util/AbstractMap" ∈ UW ∧ (("java/util/AbstractMap" : String) ≠ "java/lang/invoke/MethodHandle" ∧ ("java/util/AbstractMap" : String) ≠ "java/lang/invoke/VarHandle") := ⟨(qm_1 (i := 36) rfl rfl), by decide +kernel⟩
theorem np_M_Am_init : (parseMethodDescriptor (mn M_Am_init).desc).map (fun d => d.parameters.length) = some 0 := by decide +kernel
theorem ok_M_Am_init : MdOK M_Am_init := ⟨(qm_6 (i := 136) rfl rfl), ini_java_util_AbstractMap.1, ini_java_util_AbstractMap.2, by decide +kernel⟩
theorem oki_M_Am_init : Cond.instanceMethod (mn M_Am_init) ∈ UW := (qm_6 (i := 135) rfl rfl)
def M_Jxf58ca_isNaN : Md := (⟨"java/lang/Float", "isNaN", "(F)Z"⟩, prog_23_method_6_code, 1, some .boolean, 1, 60)
theorem ini_java_lang_Float : Cond.initialized "java/lang/Float" ∈ UW ∧ (("java/lang/Float" : String) ≠ "java/lang/invoke/MethodHandle" ∧ ("java/lang/Float" : String) ≠ "java/lang/invoke/VarHandle") := ⟨(qm_1 (i := 39) rfl rfl), by decide +kernel⟩
theorem np_M_Jxf58ca_isNaN : (parseMethodDescriptor (mn M_Jxf58ca_isNaN).desc).map (fun d => d.parameters.length) = some 1 := by decide +kernel
theorem ok_M_Jxf58ca_isNaN : MdOK M_Jxf58ca_isNaN := ⟨(qm_6 (i := 141) rfl rfl), ini_java_lang_Float.1, ini_java_lang_Float.2, by decide +kernel⟩
theorem oks_M_Jxf58ca_isNaN : Cond.static (mn M_Jxf58ca_isNaN) ∈ UW := (qm_6 (i := 140) rfl rfl)
def M_Hm_tableSizeFor : Md := (⟨"java/util/HashMap", "tableSizeFor", "(I)I"⟩, prog_46_method_4_code, 2, some .int, 2, 81)
theorem np_M_Hm_tableSizeFor : (parseMethodDescriptor (mn M_Hm_tableSizeFor).desc).map (fun d => d.parameters.length) = some 1 := by decide +kernel
theorem ok_M_Hm_tableSizeFor : MdOK M_Hm_tableSizeFor := ⟨(qm_6 (i := 144) rfl rfl), ini_java_util_HashMap.1, ini_java_util_HashMap.2, by decide +kernel⟩
theorem oks_M_Hm_tableSizeFor : Cond.static (mn M_Hm_tableSizeFor) ∈ UW := (qm_6 (i := 143) rfl rfl)
def M_In_hashCode_0f7a4 : Md := (⟨"java/lang/Integer", "hashCode", "(I)I"⟩, prog_24_method_33_code, 1, some .int, 1, 60)
theorem np_M_In_hashCode_0f7a4 : (parseMethodDescriptor (mn M_In_hashCode_0f7a4).desc).map (fun d => d.parameters.length) = some 1 := by decide +kernel
theorem ok_M_In_hashCode_0f7a4 : MdOK M_In_hashCode_0f7a4 := ⟨(qm_7 (i := 57) rfl rfl), ini_java_lang_Integer.1, ini_java_lang_Integer.2, by decide +kernel⟩
theorem oks_M_In_hashCode_0f7a4 : Cond.static (mn M_In_hashCode_0f7a4) ∈ UW := (qm_7 (i := 56) rfl rfl)
def M_Ln_init : Md := (⟨"java/util/LinkedHashMap$Entry", "<init>", "(ILjava/lang/Object;Ljava/lang/Object;Ljava/util/HashMap$Node;)V"⟩, prog_55_method_1_code, 5, none, 2, 84)
theorem ini_java_util_LinkedHashMap_Entry : Cond.initialized "java/util/LinkedHashMap$Entry" ∈ UW ∧ (("java/util/LinkedHashMap$Entry" : String) ≠ "java/lang/invoke/MethodHandle" ∧ ("java/util/LinkedHashMap$Entry" : String) ≠ "java/lang/invoke/VarHandle") := ⟨(qm_1 (i := 41) rfl rfl), by decide +kernel⟩
theorem np_M_Ln_init : (parseMethodDescriptor (mn M_Ln_init).desc).map (fun d => d.parameters.length) = some 4 := by decide +kernel
theorem ok_M_Ln_init : MdOK M_Ln_init := ⟨(qm_7 (i := 144) rfl rfl), ini_java_util_LinkedHashMap_Entry.1, ini_java_util_LinkedHashMap_Entry.2, by decide +kernel⟩
theorem oki_M_Ln_init : Cond.instanceMethod (mn M_Ln_init) ∈ UW := (qm_7 (i := 143) rfl rfl)
def M_Lm_linkNodeAtEnd : Md := (⟨"java/util/LinkedHashMap", "linkNodeAtEnd", "(Ljava/util/LinkedHashMap$Entry;)V"⟩, prog_54_method_1_code, 3, none, 1, 60)
theorem np_M_Lm_linkNodeAtEnd : (parseMethodDescriptor (mn M_Lm_linkNodeAtEnd).desc).map (fun d => d.parameters.length) = some 1 := by decide +kernel
theorem ok_M_Lm_linkNodeAtEnd : MdOK M_Lm_linkNodeAtEnd := ⟨(qm_8 (i := 183) rfl rfl), ini_java_util_LinkedHashMap.1, ini_java_util_LinkedHashMap.2, by decide +kernel⟩
theorem oki_M_Lm_linkNodeAtEnd : Cond.instanceMethod (mn M_Lm_linkNodeAtEnd) ∈ UW := (qm_8 (i := 182) rfl rfl)
theorem okv_M_Lm_linkNodeAtEnd : MdV M_Lm_linkNodeAtEnd := ⟨(qm_8 (i := 182) rfl rfl), (qm_p (i := 17) (q := (⟨"java/util/LinkedHashMap", "linkNodeAtEnd", "(Ljava/util/LinkedHashMap$Entry;)V"⟩, _)) rfl rfl)⟩
def M_Lm_removeEldestEntry : Md := (⟨"java/util/LinkedHashMap", "removeEldestEntry", "(Ljava/util/Map$Entry;)Z"⟩, prog_54_method_23_code, 2, some .boolean, 1, 60)
theorem np_M_Lm_removeEldestEntry : (parseMethodDescriptor (mn M_Lm_removeEldestEntry).desc).map (fun d => d.parameters.length) = some 1 := by decide +kernel
theorem ok_M_Lm_removeEldestEntry : MdOK M_Lm_removeEldestEntry := ⟨(qm_9 (i := 24) rfl rfl), ini_java_util_LinkedHashMap.1, ini_java_util_LinkedHashMap.2, by decide +kernel⟩
theorem oki_M_Lm_removeEldestEntry : Cond.instanceMethod (mn M_Lm_removeEldestEntry) ∈ UW := (qm_9 (i := 22) rfl rfl)
theorem okv_M_Lm_removeEldestEntry : MdV M_Lm_removeEldestEntry := ⟨(qm_9 (i := 22) rfl rfl), (qm_9 (i := 23) rfl rfl)⟩
def M_Ma_min : Md := (⟨"java/lang/Math", "min", "(II)I"⟩, prog_28_method_69_code, 2, some .int, 1, 60)
theorem np_M_Ma_min : (parseMethodDescriptor (mn M_Ma_min).desc).map (fun d => d.parameters.length) = some 2 := by decide +kernel
theorem ok_M_Ma_min : MdOK M_Ma_min := ⟨(qm_3 (i := 166) rfl rfl), ini_java_lang_Math.1, ini_java_lang_Math.2, by decide +kernel⟩
theorem oks_M_Ma_min : Cond.static (mn M_Ma_min) ∈ UW := (qm_3 (i := 165) rfl rfl)
def M_Ar_copyOfRangeByte : Md := (⟨"java/util/Arrays", "copyOfRangeByte", "([BII)[B"⟩, prog_44_method_133_code, 5, (some (.array .byte)), 2, 81)
theorem np_M_Ar_copyOfRangeByte : (parseMethodDescriptor (mn M_Ar_copyOfRangeByte).desc).map (fun d => d.parameters.length) = some 3 := by decide +kernel
theorem ok_M_Ar_copyOfRangeByte : MdOK M_Ar_copyOfRangeByte := ⟨(qm_4 (i := 207) rfl rfl), ini_java_util_Arrays.1, ini_java_util_Arrays.2, by decide +kernel⟩
theorem oks_M_Ar_copyOfRangeByte : Cond.static (mn M_Ar_copyOfRangeByte) ∈ UW := (qm_4 (i := 206) rfl rfl)
def M_Ss_hugeLength : Md := (⟨"jdk/internal/util/ArraysSupport", "hugeLength", "(II)I"⟩, prog_72_method_28_code, 3, some .int, 1, 60)
theorem np_M_Ss_hugeLength : (parseMethodDescriptor (mn M_Ss_hugeLength).desc).map (fun d => d.parameters.length) = some 2 := by decide +kernel
theorem ok_M_Ss_hugeLength : MdOK M_Ss_hugeLength := ⟨(qm_3 (i := 120) rfl rfl), ini_jdk_internal_util_ArraysSupport.1, ini_jdk_internal_util_ArraysSupport.2, by decide +kernel⟩
theorem oks_M_Ss_hugeLength : Cond.static (mn M_Ss_hugeLength) ∈ UW := (qm_3 (i := 119) rfl rfl)
def M_Ar_copyOf_6403c : Md := (⟨"java/util/Arrays", "copyOf", "([Ljava/lang/Object;ILjava/lang/Class;)[Ljava/lang/Object;"⟩, prog_44_method_120_code, 4, (some (.array (.object "java/lang/Object"))), 2, 81)
theorem np_M_Ar_copyOf_6403c : (parseMethodDescriptor (mn M_Ar_copyOf_6403c).desc).map (fun d => d.parameters.length) = some 3 := by decide +kernel
theorem ok_M_Ar_copyOf_6403c : MdOK M_Ar_copyOf_6403c := ⟨(qm_3 (i := 160) rfl rfl), ini_java_util_Arrays.1, ini_java_util_Arrays.2, by decide +kernel⟩
theorem oks_M_Ar_copyOf_6403c : Cond.static (mn M_Ar_copyOf_6403c) ∈ UW := (qm_3 (i := 159) rfl rfl)
def M_In_numberOfLeadingZeros : Md := (⟨"java/lang/Integer", "numberOfLeadingZeros", "(I)I"⟩, prog_24_method_47_code, 2, some .int, 1, 60)
theorem np_M_In_numberOfLeadingZeros : (parseMethodDescriptor (mn M_In_numberOfLeadingZeros).desc).map (fun d => d.parameters.length) = some 1 := by decide +kernel
theorem ok_M_In_numberOfLeadingZeros : MdOK M_In_numberOfLeadingZeros := ⟨(qm_6 (i := 147) rfl rfl), ini_java_lang_Integer.1, ini_java_lang_Integer.2, by decide +kernel⟩
theorem oks_M_In_numberOfLeadingZeros : Cond.static (mn M_In_numberOfLeadingZeros) ∈ UW := (qm_6 (i := 146) rfl rfl)
def M_Hn_init : Md := (⟨"java/util/HashMap$Node", "<init>", "(ILjava/lang/Object;Ljava/lang/Object;Ljava/util/HashMap$Node;)V"⟩, prog_50_method_1_code, 5, none, 1, 60)
theorem np_M_Hn_init : (parseMethodDescriptor (mn M_Hn_init).desc).map (fun d => d.parameters.length) = some 4 := by decide +kernel
theorem ok_M_Hn_init : MdOK M_Hn_init := ⟨(qm_7 (i := 147) rfl rfl), ini_java_util_HashMap_Node.1, ini_java_util_HashMap_Node.2, by decide +kernel⟩
theorem oki_M_Hn_init : Cond.instanceMethod (mn M_Hn_init) ∈ UW := (qm_7 (i := 146) rfl rfl)
def M_Ar_checkLength : Md := (⟨"java/util/Arrays", "checkLength", "(II)V"⟩, prog_44_method_131_code, 2, none, 1, 60)
theorem np_M_Ar_checkLength : (parseMethodDescriptor (mn M_Ar_checkLength).desc).map (fun d => d.parameters.length) = some 2 := by decide +kernel
theorem ok_M_Ar_checkLength : MdOK M_Ar_checkLength := ⟨(qm_4 (i := 210) rfl rfl), ini_java_util_Arrays.1, ini_java_util_Arrays.2, by decide +kernel⟩
theorem oks_M_Ar_checkLength : Cond.static (mn M_Ar_checkLength) ∈ UW := (qm_4 (i := 209) rfl rfl)
theorem oki_M_Sg_length : Cond.instanceMethod (mn M_Sg_length) ∈ UW := (qm_4 (i := 58) rfl rfl)
theorem oki_M_Sg_charAt : Cond.instanceMethod (mn M_Sg_charAt) ∈ UW := (qm_5 (i := 32) rfl rfl)
theorem oki_M_Sg_coder : Cond.instanceMethod (mn M_Sg_coder) ∈ UW := (qm_4 (i := 62) rfl rfl)
theorem oki_M_Sg_isLatin1 : Cond.instanceMethod (mn M_Sg_isLatin1) ∈ UW := (qm_5 (i := 36) rfl rfl)

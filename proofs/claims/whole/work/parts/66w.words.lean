abbrev wv_X0_init : List Cond := .code yX0_init cX0_init 1 none :: wsL_law
abbrev wv_X2_init : List Cond := .code yX2_init cX2_init 1 none :: wsL_law
abbrev wv_X1_init : List Cond := .code yX1_init cX1_init 1 none :: wsL_law
abbrev wv_X3_init : List Cond := .code yX3_init cX3_init 1 none :: wsL_law
abbrev wv_X4_init : List Cond := .code yX4_init cX4_init 1 none :: wsL_law
abbrev wv_X5_init : List Cond := .code yX5_init cX5_init 1 none :: wsL_law
theorem wk_10 : Cond.methodLink RX4 1 objectInit ∈ wsL_law := List.mem_of_getElem? (i := 10) (by decide +kernel)
theorem wk_11 : Cond.instanceMethod objectInit ∈ wsL_law := List.mem_of_getElem? (i := 11) (by decide +kernel)
theorem wk_12 : Cond.code objectInit ⟨#[0xb1]⟩ 1 none ∈ wsL_law := List.mem_of_getElem? (i := 12) (by decide +kernel)
theorem wk_13 : Cond.classLink RX4 7 RX0 ∈ wsL_law := List.mem_of_getElem? (i := 13) (by decide +kernel)
theorem wk_14 : Cond.instantiable RX0 11 ∈ wsL_law := List.mem_of_getElem? (i := 14) (by decide +kernel)
theorem wk_17 : Cond.arrayClass .int ∈ wsL_law := List.mem_of_getElem? (i := 17) (by decide +kernel)
theorem wk_19 : Cond.classLink RX4 20 RX2 ∈ wsL_law := List.mem_of_getElem? (i := 19) (by decide +kernel)
theorem wk_20 : Cond.instantiable RX2 4 ∈ wsL_law := List.mem_of_getElem? (i := 20) (by decide +kernel)
theorem wk_23 : Cond.classLink RX4 27 RX1 ∈ wsL_law := List.mem_of_getElem? (i := 23) (by decide +kernel)
theorem wk_24 : Cond.instantiable RX1 13 ∈ wsL_law := List.mem_of_getElem? (i := 24) (by decide +kernel)
theorem wk_27 : Cond.classLink RX4 34 RX3 ∈ wsL_law := List.mem_of_getElem? (i := 27) (by decide +kernel)
theorem wk_28 : Cond.instantiable RX3 5 ∈ wsL_law := List.mem_of_getElem? (i := 28) (by decide +kernel)
theorem wk_32 : Cond.instanceMethod yX0_init ∈ wsL_law := List.mem_of_getElem? (i := 32) (by decide +kernel)
theorem wk_33 : Cond.code yX0_init cX0_init 1 none ∈ wsL_law := List.mem_of_getElem? (i := 33) (by decide +kernel)
theorem wk_34 : Cond.methodLink RX0 3 objectInit ∈ wsL_law := List.mem_of_getElem? (i := 34) (by decide +kernel)
theorem wk_36 : Cond.arrayClass .boolean ∈ wsL_law := List.mem_of_getElem? (i := 36) (by decide +kernel)
theorem wk_44 : Cond.instanceMethod yX2_init ∈ wsL_law := List.mem_of_getElem? (i := 44) (by decide +kernel)
theorem wk_45 : Cond.code yX2_init cX2_init 1 none ∈ wsL_law := List.mem_of_getElem? (i := 45) (by decide +kernel)
theorem wk_46 : Cond.methodLink RX2 3 objectInit ∈ wsL_law := List.mem_of_getElem? (i := 46) (by decide +kernel)
theorem wk_50 : Cond.instanceMethod yX1_init ∈ wsL_law := List.mem_of_getElem? (i := 50) (by decide +kernel)
theorem wk_51 : Cond.code yX1_init cX1_init 1 none ∈ wsL_law := List.mem_of_getElem? (i := 51) (by decide +kernel)
theorem wk_52 : Cond.methodLink RX1 3 objectInit ∈ wsL_law := List.mem_of_getElem? (i := 52) (by decide +kernel)
theorem wk_61 : Cond.instanceMethod yX3_init ∈ wsL_law := List.mem_of_getElem? (i := 61) (by decide +kernel)
theorem wk_62 : Cond.code yX3_init cX3_init 1 none ∈ wsL_law := List.mem_of_getElem? (i := 62) (by decide +kernel)
theorem wk_63 : Cond.methodLink RX3 3 objectInit ∈ wsL_law := List.mem_of_getElem? (i := 63) (by decide +kernel)
theorem wk_72 : Cond.methodLink RX5 1 objectInit ∈ wsL_law := List.mem_of_getElem? (i := 72) (by decide +kernel)
theorem wk_88 : Cond.constant RX5 57 (40000) ∈ wsL_law := List.mem_of_getElem? (i := 88) (by decide +kernel)
theorem wk_91 : Cond.fieldLink RX5 64 "FairLoopsModel" "fairly" "[Z" ∈ wsL_law := List.mem_of_getElem? (i := 91) (by decide +kernel)

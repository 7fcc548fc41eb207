theorem wd_578 : Cond.methodLink "TonePlates$SetupReader" 206 yJ0_length_8abf5 ∈ lw_all := lw_allOf (List.mem_of_getElem? (i := 663) (by decide +kernel)) (by decide)
theorem wd_581 : Cond.code yJ0_length_8abf5 cJ0_length_8abf5 1 (some .int) ∈ lw_all := lw_allOf (List.mem_of_getElem? (i := 666) (by decide +kernel)) (by decide)
theorem wd_1449 : Cond.fieldLink RJ0 9 RJ0 "value" "[B" ∈ lw_all := lw_allOf (List.mem_of_getElem? (i := 1534) (by decide +kernel)) (by decide)
theorem wd_1449b : Cond.fieldLink RJ0 9 RJ0 "value" "[B" ∈ lw_all := lw_allOf (List.mem_of_getElem? (i := 1534) rfl) (by decide)

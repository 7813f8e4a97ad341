def RelTr (T : Nat) (size depth stands srcsize : Int32) (so sn kinds froms marks parts others followers begins text : Nat → Int32) (tree : Int32) : Prop := T = T
theorem RelTr_init {so sn kinds froms marks parts others followers begins text : Nat → Int32} : RelTr 0 0 0 0 0 so sn kinds froms marks parts others followers begins text 0 := rfl

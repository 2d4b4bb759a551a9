theorem hD_X3_bits : yX3_bits.cls ≠ "java/lang/invoke/MethodHandle" ∧ yX3_bits.cls ≠ "java/lang/invoke/VarHandle" ∧ (parseMethodDescriptor yX3_bits.desc).map (fun d => d.parameters.length) = some 1 := by decide +kernel
theorem hV_X3_blown : yX3_blown.cls = RX3 ∧ yX3_blown.cls ≠ "java/lang/invoke/MethodHandle" ∧ yX3_blown.cls ≠ "java/lang/invoke/VarHandle" ∧ (parseMethodDescriptor yX3_blown.desc).map (fun d => d.parameters.length) = some 2 := by decide +kernel
theorem hV_X3_countsAs : yX3_countsAs.cls = RX3 ∧ yX3_countsAs.cls ≠ "java/lang/invoke/MethodHandle" ∧ yX3_countsAs.cls ≠ "java/lang/invoke/VarHandle" ∧ (parseMethodDescriptor yX3_countsAs.desc).map (fun d => d.parameters.length) = some 1 := by decide +kernel
theorem hV_X3_everyChair : yX3_everyChair.cls = RX3 ∧ yX3_everyChair.cls ≠ "java/lang/invoke/MethodHandle" ∧ yX3_everyChair.cls ≠ "java/lang/invoke/VarHandle" ∧ (parseMethodDescriptor yX3_everyChair.desc).map (fun d => d.parameters.length) = some 0 := by decide +kernel
theorem hV_X3_failed : yX3_failed.cls = RX3 ∧ yX3_failed.cls ≠ "java/lang/invoke/MethodHandle" ∧ yX3_failed.cls ≠ "java/lang/invoke/VarHandle" ∧ (parseMethodDescriptor yX3_failed.desc).map (fun d => d.parameters.length) = some 1 := by decide +kernel
theorem hD_X3_in : yX3_in.cls ≠ "java/lang/invoke/MethodHandle" ∧ yX3_in.cls ≠ "java/lang/invoke/VarHandle" ∧ (parseMethodDescriptor yX3_in.desc).map (fun d => d.parameters.length) = some 3 := by decide +kernel
theorem hV_X3_isCarried : yX3_isCarried.cls = RX3 ∧ yX3_isCarried.cls ≠ "java/lang/invoke/MethodHandle" ∧ yX3_isCarried.cls ≠ "java/lang/invoke/VarHandle" ∧ (parseMethodDescriptor yX3_isCarried.desc).map (fun d => d.parameters.length) = some 0 := by decide +kernel
theorem hD_X3_isIn : yX3_isIn.cls ≠ "java/lang/invoke/MethodHandle" ∧ yX3_isIn.cls ≠ "java/lang/invoke/VarHandle" ∧ (parseMethodDescriptor yX3_isIn.desc).map (fun d => d.parameters.length) = some 2 := by decide +kernel
theorem hD_X3_lost : yX3_lost.cls ≠ "java/lang/invoke/MethodHandle" ∧ yX3_lost.cls ≠ "java/lang/invoke/VarHandle" ∧ (parseMethodDescriptor yX3_lost.desc).map (fun d => d.parameters.length) = some 0 := by decide +kernel
theorem hV_X3_meets : yX3_meets.cls = RX3 ∧ yX3_meets.cls ≠ "java/lang/invoke/MethodHandle" ∧ yX3_meets.cls ≠ "java/lang/invoke/VarHandle" ∧ (parseMethodDescriptor yX3_meets.desc).map (fun d => d.parameters.length) = some 1 := by decide +kernel
theorem hV_X3_noChair : yX3_noChair.cls = RX3 ∧ yX3_noChair.cls ≠ "java/lang/invoke/MethodHandle" ∧ yX3_noChair.cls ≠ "java/lang/invoke/VarHandle" ∧ (parseMethodDescriptor yX3_noChair.desc).map (fun d => d.parameters.length) = some 1 := by decide +kernel
theorem hD_X3_noSheet : yX3_noSheet.cls ≠ "java/lang/invoke/MethodHandle" ∧ yX3_noSheet.cls ≠ "java/lang/invoke/VarHandle" ∧ (parseMethodDescriptor yX3_noSheet.desc).map (fun d => d.parameters.length) = some 1 := by decide +kernel
theorem hV_X3_refused : yX3_refused.cls = RX3 ∧ yX3_refused.cls ≠ "java/lang/invoke/MethodHandle" ∧ yX3_refused.cls ≠ "java/lang/invoke/VarHandle" ∧ (parseMethodDescriptor yX3_refused.desc).map (fun d => d.parameters.length) = some 1 := by decide +kernel
theorem hV_X3_votesIn : yX3_votesIn.cls = RX3 ∧ yX3_votesIn.cls ≠ "java/lang/invoke/MethodHandle" ∧ yX3_votesIn.cls ≠ "java/lang/invoke/VarHandle" ∧ (parseMethodDescriptor yX3_votesIn.desc).map (fun d => d.parameters.length) = some 1 := by decide +kernel
theorem hV_X3_votesOf : yX3_votesOf.cls = RX3 ∧ yX3_votesOf.cls ≠ "java/lang/invoke/MethodHandle" ∧ yX3_votesOf.cls ≠ "java/lang/invoke/VarHandle" ∧ (parseMethodDescriptor yX3_votesOf.desc).map (fun d => d.parameters.length) = some 1 := by decide +kernel
theorem hV_X3_votesOpen : yX3_votesOpen.cls = RX3 ∧ yX3_votesOpen.cls ≠ "java/lang/invoke/MethodHandle" ∧ yX3_votesOpen.cls ≠ "java/lang/invoke/VarHandle" ∧ (parseMethodDescriptor yX3_votesOpen.desc).map (fun d => d.parameters.length) = some 1 := by decide +kernel
theorem hV_X3_whoIs : yX3_whoIs.cls = RX3 ∧ yX3_whoIs.cls ≠ "java/lang/invoke/MethodHandle" ∧ yX3_whoIs.cls ≠ "java/lang/invoke/VarHandle" ∧ (parseMethodDescriptor yX3_whoIs.desc).map (fun d => d.parameters.length) = some 1 := by decide +kernel
set_option maxHeartbeats 4000000 in
set_option maxRecDepth 100000 in
theorem c_X3_in (l : Launch) (D : va_G) (cI cS : ClassId) (v : Int32) (a : Nat) (b : Nat) (ha : a < 2 ^ 31) (hb1 : b < 2 ^ 31) : Met l yX3_in wsX3_in ({ frames := 0, cells := 0, slots := 0, locals := 0 }) (PR D cI cS [.long v.toInt64, .long (lN a), .long (lN b)] []) (vp_Si (fun r => r = bI (rgB a b v))) 0 0 (fun _ => False) := by
  refine startR (by decide) rfl (Nat.le_of_ble_eq_true rfl) ?_
  intro p e s m below meth c hx hb hr hts hown hlk hml hG hP ls hl
  have hl : lv_has ls 6 [(0, .long v.toInt64), (2, .long (lN a)), (4, .long (lN b))] := hl
  have hF : CallFix p m c cX3_in 6 s _ wsX3_in RX3 := ⟨hx, hb, hml, hown, hts⟩
  refine lv_lload_n hx hb dX3_in_0 rfl (lv_at hl 0 rfl) ?_
  refine lv_lload_n hx hb dX3_in_1 rfl (lv_at hl 1 rfl) ?_
  refine W.lcmp hx hb dX3_in_2 ?_
  refine lv_if_lt (tgt := 17) hx hb dX3_in_3 (by decide) (fun c_3 => ?_) (fun c_3 => ?_)
  ·
    replace c_3 : v.toInt < ((a : Nat) : Int) := (lgc_lt (Int32.toInt_toInt64 _) (lN_toInt (n := a) (by omega))).mp c_3
    refine lv_iconst (v := nI 0) hx hb dX3_in_17 (by decide) ?_
    exact xretRz hx hb hr hlk dX3_in_18 (false) rfl (by first | exact congrArg bI (rgB_y (by omega) (by omega)).symm | exact congrArg bI (rgB_n1 (by omega)).symm | exact congrArg bI (rgB_n2 (by omega)).symm)
  ·
    replace c_3 : ¬ v.toInt < ((a : Nat) : Int) := (not_congr (lgc_lt (Int32.toInt_toInt64 _) (lN_toInt (n := a) (by omega)))).mp c_3
    refine lv_lload_n hx hb dX3_in_6 rfl (lv_at hl 0 rfl) ?_
    refine lv_lload hx hb dX3_in_7 (lv_at hl 2 rfl) ?_
    refine W.lcmp hx hb dX3_in_9 ?_
    refine lv_if_gt (tgt := 17) hx hb dX3_in_10 (by decide) (fun c_10 => ?_) (fun c_10 => ?_)
    ·
      replace c_10 : ((b : Nat) : Int) < v.toInt := (lgc_gt (Int32.toInt_toInt64 _) (lN_toInt (n := b) (by omega))).mp c_10
      refine lv_iconst (v := nI 0) hx hb dX3_in_17 (by decide) ?_
      exact xretRz hx hb hr hlk dX3_in_18 (false) rfl (by first | exact congrArg bI (rgB_y (by omega) (by omega)).symm | exact congrArg bI (rgB_n1 (by omega)).symm | exact congrArg bI (rgB_n2 (by omega)).symm)
    ·
      replace c_10 : ¬ ((b : Nat) : Int) < v.toInt := (not_congr (lgc_gt (Int32.toInt_toInt64 _) (lN_toInt (n := b) (by omega)))).mp c_10
      refine lv_iconst (v := nI 1) hx hb dX3_in_13 (by decide) ?_
      refine lv_goto (tgt := 18) hx hb dX3_in_14 (by decide) ?_
      exact xretRz hx hb hr hlk dX3_in_18 (true) rfl (by first | exact congrArg bI (rgB_y (by omega) (by omega)).symm | exact congrArg bI (rgB_n1 (by omega)).symm | exact congrArg bI (rgB_n2 (by omega)).symm)

set_option maxHeartbeats 4000000 in
set_option maxRecDepth 100000 in
theorem c_X3_inM (l : Launch) (D : va_G) (cI cS : ClassId) (v : Int32) (b : Nat) (hb1 : b < 2 ^ 31) : Met l yX3_in wsX3_in ({ frames := 0, cells := 0, slots := 0, locals := 0 }) (PR D cI cS [.long v.toInt64, .long (-1), .long (lN b)] []) (vp_Si (fun r => r = bI (rgB (-1) b v))) 0 0 (fun _ => False) := by
  refine startR (by decide) rfl (Nat.le_of_ble_eq_true rfl) ?_
  intro p e s m below meth c hx hb hr hts hown hlk hml hG hP ls hl
  have hl : lv_has ls 6 [(0, .long v.toInt64), (2, .long (-1)), (4, .long (lN b))] := hl
  have hF : CallFix p m c cX3_in 6 s _ wsX3_in RX3 := ⟨hx, hb, hml, hown, hts⟩
  refine lv_lload_n hx hb dX3_in_0 rfl (lv_at hl 0 rfl) ?_
  refine lv_lload_n hx hb dX3_in_1 rfl (lv_at hl 1 rfl) ?_
  refine W.lcmp hx hb dX3_in_2 ?_
  refine lv_if_lt (tgt := 17) hx hb dX3_in_3 (by decide) (fun c_3 => ?_) (fun c_3 => ?_)
  ·
    replace c_3 : v.toInt < (-1) := (lgc_lt (Int32.toInt_toInt64 _) (show ((-1) : Int64).toInt = (-1) by decide)).mp c_3
    refine lv_iconst (v := nI 0) hx hb dX3_in_17 (by decide) ?_
    exact xretRz hx hb hr hlk dX3_in_18 (false) rfl (by first | exact congrArg bI (rgB_y (by omega) (by omega)).symm | exact congrArg bI (rgB_n1 (by omega)).symm | exact congrArg bI (rgB_n2 (by omega)).symm)
  ·
    replace c_3 : ¬ v.toInt < (-1) := (not_congr (lgc_lt (Int32.toInt_toInt64 _) (show ((-1) : Int64).toInt = (-1) by decide))).mp c_3
    refine lv_lload_n hx hb dX3_in_6 rfl (lv_at hl 0 rfl) ?_
    refine lv_lload hx hb dX3_in_7 (lv_at hl 2 rfl) ?_
    refine W.lcmp hx hb dX3_in_9 ?_
    refine lv_if_gt (tgt := 17) hx hb dX3_in_10 (by decide) (fun c_10 => ?_) (fun c_10 => ?_)
    ·
      replace c_10 : ((b : Nat) : Int) < v.toInt := (lgc_gt (Int32.toInt_toInt64 _) (lN_toInt (n := b) (by omega))).mp c_10
      refine lv_iconst (v := nI 0) hx hb dX3_in_17 (by decide) ?_
      exact xretRz hx hb hr hlk dX3_in_18 (false) rfl (by first | exact congrArg bI (rgB_y (by omega) (by omega)).symm | exact congrArg bI (rgB_n1 (by omega)).symm | exact congrArg bI (rgB_n2 (by omega)).symm)
    ·
      replace c_10 : ¬ ((b : Nat) : Int) < v.toInt := (not_congr (lgc_gt (Int32.toInt_toInt64 _) (lN_toInt (n := b) (by omega)))).mp c_10
      refine lv_iconst (v := nI 1) hx hb dX3_in_13 (by decide) ?_
      refine lv_goto (tgt := 18) hx hb dX3_in_14 (by decide) ?_
      exact xretRz hx hb hr hlk dX3_in_18 (true) rfl (by first | exact congrArg bI (rgB_y (by omega) (by omega)).symm | exact congrArg bI (rgB_n1 (by omega)).symm | exact congrArg bI (rgB_n2 (by omega)).symm)

set_option maxHeartbeats 4000000 in
set_option maxRecDepth 100000 in
theorem c_X3_inK (l : Launch) (D : va_G) (cI cS : ClassId) (v : Int32) (n : Nat) (hn : n ≤ 8) : Met l yX3_in wsX3_in ({ frames := 0, cells := 0, slots := 0, locals := 0 }) (PR D cI cS [.long v.toInt64, .long (lN 0), .long ((lN n) - (lN 1))] []) (vp_Si (fun r => r = bI (hasB n v))) 0 0 (fun _ => False) := by
  refine startR (by decide) rfl (Nat.le_of_ble_eq_true rfl) ?_
  intro p e s m below meth c hx hb hr hts hown hlk hml hG hP ls hl
  have hl : lv_has ls 6 [(0, .long v.toInt64), (2, .long (lN 0)), (4, .long ((lN n) - (lN 1)))] := hl
  have hF : CallFix p m c cX3_in 6 s _ wsX3_in RX3 := ⟨hx, hb, hml, hown, hts⟩
  refine lv_lload_n hx hb dX3_in_0 rfl (lv_at hl 0 rfl) ?_
  refine lv_lload_n hx hb dX3_in_1 rfl (lv_at hl 1 rfl) ?_
  refine W.lcmp hx hb dX3_in_2 ?_
  refine lv_if_lt (tgt := 17) hx hb dX3_in_3 (by decide) (fun c_3 => ?_) (fun c_3 => ?_)
  ·
    replace c_3 : v.toInt < ((0 : Nat) : Int) := (lgc_lt (Int32.toInt_toInt64 _) (lN_toInt (n := 0) (by omega))).mp c_3
    refine lv_iconst (v := nI 0) hx hb dX3_in_17 (by decide) ?_
    exact xretRz hx hb hr hlk dX3_in_18 (false) rfl (by first | exact congrArg bI (Eq.symm (decide_eq_true (by omega))) | exact congrArg bI (Eq.symm (decide_eq_false (by omega))))
  ·
    replace c_3 : ¬ v.toInt < ((0 : Nat) : Int) := (not_congr (lgc_lt (Int32.toInt_toInt64 _) (lN_toInt (n := 0) (by omega)))).mp c_3
    refine lv_lload_n hx hb dX3_in_6 rfl (lv_at hl 0 rfl) ?_
    refine lv_lload hx hb dX3_in_7 (lv_at hl 2 rfl) ?_
    refine W.lcmp hx hb dX3_in_9 ?_
    refine lv_if_gt (tgt := 17) hx hb dX3_in_10 (by decide) (fun c_10 => ?_) (fun c_10 => ?_)
    ·
      replace c_10 : ((n : Int) - 1) < v.toInt := (lgc_gt (Int32.toInt_toInt64 _) (lN_hi (by omega))).mp c_10
      refine lv_iconst (v := nI 0) hx hb dX3_in_17 (by decide) ?_
      exact xretRz hx hb hr hlk dX3_in_18 (false) rfl (by first | exact congrArg bI (Eq.symm (decide_eq_true (by omega))) | exact congrArg bI (Eq.symm (decide_eq_false (by omega))))
    ·
      replace c_10 : ¬ ((n : Int) - 1) < v.toInt := (not_congr (lgc_gt (Int32.toInt_toInt64 _) (lN_hi (by omega)))).mp c_10
      refine lv_iconst (v := nI 1) hx hb dX3_in_13 (by decide) ?_
      refine lv_goto (tgt := 18) hx hb dX3_in_14 (by decide) ?_
      exact xretRz hx hb hr hlk dX3_in_18 (true) rfl (by first | exact congrArg bI (Eq.symm (decide_eq_true (by omega))) | exact congrArg bI (Eq.symm (decide_eq_false (by omega))))

set_option maxHeartbeats 4000000 in
set_option maxRecDepth 100000 in
theorem c_X3_inK2 (l : Launch) (D : va_G) (cI cS : ClassId) (v : Int32) (n : Nat) (hn : n ≤ 60) : Met l yX3_in wsX3_in ({ frames := 0, cells := 0, slots := 0, locals := 0 }) (PR D cI cS [.long v.toInt64, .long (lN 0), .long ((lN n) - (lN 1))] []) (vp_Si (fun r => r = bI (hldB n v (nI 1)))) 0 0 (fun _ => False) := by
  refine startR (by decide) rfl (Nat.le_of_ble_eq_true rfl) ?_
  intro p e s m below meth c hx hb hr hts hown hlk hml hG hP ls hl
  have hl : lv_has ls 6 [(0, .long v.toInt64), (2, .long (lN 0)), (4, .long ((lN n) - (lN 1)))] := hl
  have hF : CallFix p m c cX3_in 6 s _ wsX3_in RX3 := ⟨hx, hb, hml, hown, hts⟩
  refine lv_lload_n hx hb dX3_in_0 rfl (lv_at hl 0 rfl) ?_
  refine lv_lload_n hx hb dX3_in_1 rfl (lv_at hl 1 rfl) ?_
  refine W.lcmp hx hb dX3_in_2 ?_
  refine lv_if_lt (tgt := 17) hx hb dX3_in_3 (by decide) (fun c_3 => ?_) (fun c_3 => ?_)
  ·
    replace c_3 : v.toInt < ((0 : Nat) : Int) := (lgc_lt (Int32.toInt_toInt64 _) (lN_toInt (n := 0) (by omega))).mp c_3
    refine lv_iconst (v := nI 0) hx hb dX3_in_17 (by decide) ?_
    exact xretRz hx hb hr hlk dX3_in_18 (false) rfl (by first | exact congrArg bI (hld1_y (by omega) (by omega)).symm | exact congrArg bI (hld1_n (by omega)).symm)
  ·
    replace c_3 : ¬ v.toInt < ((0 : Nat) : Int) := (not_congr (lgc_lt (Int32.toInt_toInt64 _) (lN_toInt (n := 0) (by omega)))).mp c_3
    refine lv_lload_n hx hb dX3_in_6 rfl (lv_at hl 0 rfl) ?_
    refine lv_lload hx hb dX3_in_7 (lv_at hl 2 rfl) ?_
    refine W.lcmp hx hb dX3_in_9 ?_
    refine lv_if_gt (tgt := 17) hx hb dX3_in_10 (by decide) (fun c_10 => ?_) (fun c_10 => ?_)
    ·
      replace c_10 : ((n : Int) - 1) < v.toInt := (lgc_gt (Int32.toInt_toInt64 _) (lN_hi (by omega))).mp c_10
      refine lv_iconst (v := nI 0) hx hb dX3_in_17 (by decide) ?_
      exact xretRz hx hb hr hlk dX3_in_18 (false) rfl (by first | exact congrArg bI (hld1_y (by omega) (by omega)).symm | exact congrArg bI (hld1_n (by omega)).symm)
    ·
      replace c_10 : ¬ ((n : Int) - 1) < v.toInt := (not_congr (lgc_gt (Int32.toInt_toInt64 _) (lN_hi (by omega)))).mp c_10
      refine lv_iconst (v := nI 1) hx hb dX3_in_13 (by decide) ?_
      refine lv_goto (tgt := 18) hx hb dX3_in_14 (by decide) ?_
      exact xretRz hx hb hr hlk dX3_in_18 (true) rfl (by first | exact congrArg bI (hld1_y (by omega) (by omega)).symm | exact congrArg bI (hld1_n (by omega)).symm)

set_option maxHeartbeats 4000000 in
set_option maxRecDepth 100000 in
theorem c_X3_lost (l : Launch) (D : va_G) (cI cS : ClassId)   : Met l yX3_lost wsX3_lost ({ frames := 0, cells := 0, slots := 0, locals := 0 }) (PR D cI cS [] []) (vp_Sl (fun r => r = lostL)) 0 0 (fun _ => False) := by
  refine startR (by decide) rfl (Nat.le_of_ble_eq_true rfl) ?_
  intro p e s m below meth c hx hb hr hts hown hlk hml hG hP ls hl
  have hl : lv_has ls 0 [] := hl
  have hF : CallFix p m c cX3_lost 0 s _ wsX3_lost RX3 := ⟨hx, hb, hml, hown, hts⟩
  refine lv_ldc2 (v := -9223372036854775808) hx hb hown (hts (.constantLong RX3 55 (-9223372036854775808)) (by decide +kernel)) dX3_lost_0 ?_
  exact xretRl hx hb hr hlk dX3_lost_3 (by rfl)

set_option maxHeartbeats 4000000 in
set_option maxRecDepth 100000 in
theorem c_X3_isIn (l : Launch) (D : va_G) (cI cS : ClassId) (a : Nat) (k : Nat) (ha : a < 256) (hk : k < 8) : Met l yX3_isIn wsX3_isIn ({ frames := 0, cells := 0, slots := 0, locals := 0 }) (PR D cI cS [.int (nI a), .int (nI k)] []) (vp_Si (fun r => r = bI (a.testBit k))) 0 0 (fun _ => False) := by
  refine startR (by decide) rfl (Nat.le_of_ble_eq_true rfl) ?_
  intro p e s m below meth c hx hb hr hts hown hlk hml hG hP ls hl
  have hl : lv_has ls 2 [(0, .int (nI a)), (1, .int (nI k))] := hl
  have hF : CallFix p m c cX3_isIn 2 s _ wsX3_isIn RX3 := ⟨hx, hb, hml, hown, hts⟩
  refine lv_iload_n hx hb dX3_isIn_0 rfl (lv_at hl 0 rfl) ?_
  refine lv_iload_n hx hb dX3_isIn_1 rfl (lv_at hl 1 rfl) ?_
  refine lv_ishr hx hb dX3_isIn_2 ?_
  refine lv_iconst (v := nI 1) hx hb dX3_isIn_3 (by decide) ?_
  refine lv_iand hx hb dX3_isIn_4 ?_
  refine xtop (x' := bI (a.testBit k)) (by exact bit_b a ha k hk) ?_
  refine lv_iconst (v := nI 1) hx hb dX3_isIn_5 (by decide) ?_
  refine lv_icmp_ne (tgt := 13) hx hb dX3_isIn_6 (by decide) (fun c_6 => ?_) (fun c_6 => ?_)
  ·
    replace c_6 := bI_n1.mp c_6
    refine lv_iconst (v := nI 0) hx hb dX3_isIn_13 (by decide) ?_
    exact xretRz hx hb hr hlk dX3_isIn_14 (false) rfl (by rw [c_6]; rfl)
  ·
    replace c_6 := bI_1.mp c_6
    refine lv_iconst (v := nI 1) hx hb dX3_isIn_9 (by decide) ?_
    refine lv_goto (tgt := 14) hx hb dX3_isIn_10 (by decide) ?_
    exact xretRz hx hb hr hlk dX3_isIn_14 (true) rfl (by rw [c_6]; rfl)

set_option maxHeartbeats 4000000 in
set_option maxRecDepth 100000 in
theorem c_X3_bits (l : Launch) (D : va_G) (cI cS : ClassId) (a : Nat) (ha : a < 256) : Met l yX3_bits wsX3_bits ({ frames := 0, cells := 0, slots := 0, locals := 0 }) (PR D cI cS [.int (nI a)] []) (vp_Si (fun r => r = nI (popN a))) 0 0 (fun _ => False) := by
  refine startR (by decide) rfl (Nat.le_of_ble_eq_true rfl) ?_
  intro p e s m below meth c hx hb hr hts hown hlk hml hG hP ls hl
  have hl : lv_has ls 3 [(0, .int (nI a))] := hl
  have hF : CallFix p m c cX3_bits 3 s _ wsX3_bits RX3 := ⟨hx, hb, hml, hown, hts⟩
  refine lv_iconst (v := nI 0) hx hb dX3_bits_0 (by decide) ?_
  refine lv_istore_n (lv' := [(1, .int (nI 0)), (0, .int (nI a))]) hx hb dX3_bits_1 rfl hl (by decide) rfl (fun ls hl => ?_)
  refine lv_iload_n hx hb dX3_bits_2 rfl (lv_at hl 1 rfl) ?_
  refine lv_istore_n (lv' := [(2, .int (nI a)), (1, .int (nI 0)), (0, .int (nI a))]) hx hb dX3_bits_3 rfl hl (by decide) rfl (fun ls hl => ?_)
  have K4 : ∀ (fuel : Nat) (i : Nat) (x2 : Int32) (x1 : Int32), x2 = nI (a / 2 ^ i) → x1 = nI (sumN (fun j => if a.testBit j then 1 else 0) i) → (i ≤ 8) → (9 - i) < fuel → ∀ ls : Array Slot, lv_has ls 3 [(2, .int x2), (1, .int x1), (0, .int (nI a))] → W p l e ({ frames := 0, cells := 0, slots := 0, locals := 0 }) s m (([.int (nI a)] : List Value).toArray) below meth c s.heap [] 0 0 (MQ below (vp_Si (fun r => r = nI (popN a))) (([.int (nI a)] : List Value).toArray) s 0 0 (fun _ => False)) (F0 m 4 ls []) := by
    intro fuel
    induction fuel with
    | zero => intro i x2 x1 e_x2 e_x1 hi hmu; exact absurd hmu (Nat.not_lt_zero _)
    | succ fuel ih =>
      intro i x2 x1 e_x2 e_x1 hi hmu ls hl
      subst e_x2
      subst e_x1
      have hq : a / 2 ^ i ≤ a := Nat.div_le_self _ _
      refine lv_iload_n hx hb dX3_bits_4 rfl (lv_at hl 0 rfl) ?_
      refine lv_if_le (tgt := 21) hx hb dX3_bits_5 (by decide) (fun c_5 => ?_) (fun c_5 => ?_)
      ·
        replace c_5 := (nI_leI (a := a / 2 ^ i) (b := 0) (by omega) (by omega)).mp c_5
        refine lv_iload_n hx hb dX3_bits_21 rfl (lv_at hl 1 rfl) ?_
        exact xretR hx hb hr hlk dX3_bits_22 (by rw [bits_e a ha i (by omega) (Nat.le_zero.mp c_5)])
      ·
        replace c_5 := (not_congr (nI_leI (a := a / 2 ^ i) (b := 0) (by omega) (by omega))).mp c_5
        have hi7 : i < 8 := by
          rcases Nat.lt_or_ge i 8 with h9 | h9
          · exact h9
          · have h8 : i = 8 := by omega
            subst h8
            have := bits_8 ha
            omega
        refine lv_iload_n hx hb dX3_bits_8 rfl (lv_at hl 1 rfl) ?_
        refine lv_iload_n hx hb dX3_bits_9 rfl (lv_at hl 0 rfl) ?_
        refine lv_iconst (v := nI 1) hx hb dX3_bits_10 (by decide) ?_
        refine lv_iand hx hb dX3_bits_11 ?_
        refine xtop (x' := nI ((a / 2 ^ i) &&& 1)) (nI_and _ _) ?_
        refine xtop (x' := nI (a / 2 ^ i % 2)) (by rw [Nat.and_one_is_mod]) ?_
        refine xaddN hx hb dX3_bits_12 ?_
        refine lv_istore_n (lv' := [(1, .int (nI (sumN (fun j => if a.testBit j then 1 else 0) i + (a / 2 ^ i % 2)))), (2, .int (nI (a / 2 ^ i))), (0, .int (nI a))]) hx hb dX3_bits_13 rfl hl (by decide) rfl (fun ls hl => ?_)
        refine lv_iload_n hx hb dX3_bits_14 rfl (lv_at hl 1 rfl) ?_
        refine lv_iconst (v := nI 1) hx hb dX3_bits_15 (by decide) ?_
        refine lv_ishr hx hb dX3_bits_16 ?_
        refine xtop (x' := nI (a / 2 ^ i / 2)) (by exact shr1 _ (by omega)) ?_
        refine lv_istore_n (lv' := [(2, .int (nI (a / 2 ^ i / 2))), (1, .int (nI (sumN (fun j => if a.testBit j then 1 else 0) i + (a / 2 ^ i % 2)))), (0, .int (nI a))]) hx hb dX3_bits_17 rfl hl (by decide) rfl (fun ls hl => ?_)
        refine lv_goto (tgt := 4) hx hb dX3_bits_18 (by decide) ?_
        exact ih (i + 1) (nI (a / 2 ^ i / 2)) (nI (sumN (fun j => if a.testBit j then 1 else 0) i + (a / 2 ^ i % 2))) (by rw [div2]) (by rw [bits_s]) (by omega) (by omega) ls (lv_sub hl [0, 1, 2] rfl)
  exact K4 _ 0 (nI a) (nI 0) (by first | rfl | omega | (rw [Nat.pow_zero, Nat.div_one])) (by first | rfl | omega | (rw [Nat.pow_zero, Nat.div_one])) (by first | rfl | omega | (rw [Nat.pow_zero, Nat.div_one])) (Nat.lt_succ_self _) ls (lv_sub hl [0, 1, 2] rfl)

set_option maxHeartbeats 4000000 in
set_option maxRecDepth 100000 in
theorem c_X3_share (l : Launch) (D : va_G) (cI cS : ClassId) (up : Nat) (low : Nat) (v : Nat) (hup : up < 2 ^ 31) (hlow0 : 0 < low) (hlow : low < 2 ^ 31) (hv : v < 2 ^ 31) : Met l yX3_share wsX3_share ({ frames := 0, cells := 0, slots := 0, locals := 0 }) (PR D cI cS [.long (lN up), .long (lN low), .int (nI v)] []) (vp_Sl (fun r => r = lN (shN up low v))) 0 0 (fun _ => False) := by
  refine startR (by decide) rfl (Nat.le_of_ble_eq_true rfl) ?_
  intro p e s m below meth c hx hb hr hts hown hlk hml hG hP ls hl
  have hl : lv_has ls 11 [(0, .long (lN up)), (2, .long (lN low)), (4, .int (nI v))] := hl
  have hF : CallFix p m c cX3_share 11 s _ wsX3_share RX3 := ⟨hx, hb, hml, hown, hts⟩
  refine lv_lload_n hx hb dX3_share_0 rfl (lv_at hl 0 rfl) ?_
  refine lv_lstore (lv' := [(5, .long (lN up)), (0, .long (lN up)), (2, .long (lN low)), (4, .int (nI v))]) hx hb dX3_share_1 hl (by decide) rfl (fun ls hl => ?_)
  refine lv_lload_n hx hb dX3_share_3 rfl (lv_at hl 2 rfl) ?_
  refine lv_lstore (lv' := [(7, .long (lN low)), (5, .long (lN up)), (0, .long (lN up)), (2, .long (lN low)), (4, .int (nI v))]) hx hb dX3_share_4 hl (by decide) rfl (fun ls hl => ?_)
  have K6 : ∀ (fuel : Nat) (a : Nat) (b : Nat), (a < 2 ^ 31) → (b < 2 ^ 31) → (Nat.gcd a b = Nat.gcd up low) → b < fuel → ∀ ls : Array Slot, lv_has ls 11 [(7, .long (lN b)), (5, .long (lN a)), (0, .long (lN up)), (2, .long (lN low)), (4, .int (nI v))] → W p l e ({ frames := 0, cells := 0, slots := 0, locals := 0 }) s m (([.long (lN up), .long (lN low), .int (nI v)] : List Value).toArray) below meth c s.heap [] 0 0 (MQ below (vp_Sl (fun r => r = lN (shN up low v))) (([.long (lN up), .long (lN low), .int (nI v)] : List Value).toArray) s 0 0 (fun _ => False)) (F0 m 6 ls []) := by
    intro fuel
    induction fuel with
    | zero => intro a b ha hb1 hg hmu; exact absurd hmu (Nat.not_lt_zero _)
    | succ fuel ih =>
      intro a b ha hb1 hg hmu ls hl
      refine lv_lload hx hb dX3_share_6 (lv_at hl 0 rfl) ?_
      refine lv_lconst (v := lN 0) hx hb dX3_share_8 rfl ?_
      refine W.lcmp hx hb dX3_share_9 ?_
      refine lv_if_eq (tgt := 31) hx hb dX3_share_10 (by decide) (fun c_10 => ?_) (fun c_10 => ?_)
      ·
        replace c_10 : ((b : Nat) : Int) = ((0 : Nat) : Int) := (lgc_eq (lN_toInt (n := b) (by omega)) (lN_toInt (n := 0) (by omega))).mp c_10
        have hb0 : b = 0 := by omega
        subst hb0
        rw [Nat.gcd_zero_right] at hg
        have hg0 : 0 < Nat.gcd up low := Nat.gcd_pos_of_pos_right _ hlow0
        have ha0 : 0 < a := by omega
        refine lv_iload hx hb dX3_share_31 (lv_at hl 4 rfl) ?_
        refine lv_if_ne (tgt := 40) hx hb dX3_share_33 (by decide) (fun c_33 => ?_) (fun c_33 => ?_)
        ·
          replace c_33 := (not_congr (nI_eq (a := v) (b := 0) (by omega) (by omega))).mp c_33
          refine lv_lload_n hx hb dX3_share_40 rfl (lv_at hl 3 rfl) ?_
          refine lv_lload hx hb dX3_share_41 (lv_at hl 1 rfl) ?_
          refine xldivN (x := low) (y := a) (by omega) (by omega) (by omega) hx hb dX3_share_43 ?_
          exact xretRl hx hb hr hlk dX3_share_44 (by unfold shN; rw [hg]; simp [c_10, c_33])
        ·
          replace c_33 := (nI_eq (a := v) (b := 0) (by omega) (by omega)).mp c_33
          refine lv_lload_n hx hb dX3_share_36 rfl (lv_at hl 2 rfl) ?_
          refine lv_goto (tgt := 41) hx hb dX3_share_37 (by decide) ?_
          refine lv_lload hx hb dX3_share_41 (lv_at hl 1 rfl) ?_
          refine xldivN (x := up) (y := a) (by omega) (by omega) (by omega) hx hb dX3_share_43 ?_
          exact xretRl hx hb hr hlk dX3_share_44 (by unfold shN; rw [hg]; simp [c_10, c_33])
      ·
        replace c_10 : ¬ ((b : Nat) : Int) = ((0 : Nat) : Int) := (not_congr (lgc_eq (lN_toInt (n := b) (by omega)) (lN_toInt (n := 0) (by omega)))).mp c_10
        refine lv_lload hx hb dX3_share_13 (lv_at hl 1 rfl) ?_
        refine lv_lload hx hb dX3_share_15 (lv_at hl 0 rfl) ?_
        refine xlremN (x := a) (y := b) (by omega) (by omega) (by omega) hx hb dX3_share_17 ?_
        refine lv_lstore (lv' := [(9, .long (lN (a % b))), (7, .long (lN b)), (5, .long (lN a)), (0, .long (lN up)), (2, .long (lN low)), (4, .int (nI v))]) hx hb dX3_share_18 hl (by decide) rfl (fun ls hl => ?_)
        refine lv_lload hx hb dX3_share_20 (lv_at hl 1 rfl) ?_
        refine lv_lstore (lv' := [(5, .long (lN b)), (9, .long (lN (a % b))), (7, .long (lN b)), (0, .long (lN up)), (2, .long (lN low)), (4, .int (nI v))]) hx hb dX3_share_22 hl (by decide) rfl (fun ls hl => ?_)
        refine lv_lload hx hb dX3_share_24 (lv_at hl 1 rfl) ?_
        refine lv_lstore (lv' := [(7, .long (lN (a % b))), (5, .long (lN b)), (9, .long (lN (a % b))), (0, .long (lN up)), (2, .long (lN low)), (4, .int (nI v))]) hx hb dX3_share_26 hl (by decide) rfl (fun ls hl => ?_)
        refine lv_goto (tgt := 6) hx hb dX3_share_28 (by decide) ?_
        exact ih b (a % b)  (by omega) (by have h9 := Nat.mod_lt a (y := b) (by omega); omega) (by rw [← hg, Nat.gcd_comm a b, Nat.gcd_rec b a, Nat.gcd_comm]) (by have h9 := Nat.mod_lt a (y := b) (by omega); omega) ls (lv_sub hl [0, 1, 3, 4, 5] rfl)
  exact K6 _ up low  (by first | rfl | exact Nat.zero_le _ | omega | assumption) (by first | rfl | exact Nat.zero_le _ | omega | assumption) (by first | rfl | exact Nat.zero_le _ | omega | assumption) (Nat.lt_succ_self _) ls (lv_sub hl [0, 1, 2, 3, 4] rfl)

set_option maxHeartbeats 4000000 in
set_option maxRecDepth 100000 in
theorem c_X3_refused (l : Launch) (D : va_G) (cI cS : ClassId) (ad : Nat → Nat) (fa : Nat) (n : Nat) (fo : Nat) (ki : Nat → Nat) (st : Nat → Nat) (we : Nat → Nat) (lo : Nat → Nat) (ra : Nat) (rch : Nat) (q0 : Nat → Int32) (q1 : Nat → Int32) (q2 : Nat → Int32) (q3 : Nat → Int32) (fk : Nat) (fc : Nat → Nat) (rd : Nat) (rc : Nat → Nat) (rv : Nat → Nat) (sh : Nat → Bool) (sle : Nat → Nat) (sla : Nat → Nat) (bg : Nat → Int32) (hd : Nat → Int32) (tr : Int32) (v : Int32) (hnd : nd (adM ad)) : Met l yX3_refused wsX3_refused ({ frames := 0, cells := 0, slots := 0, locals := 0 }) (PR D cI cS [.ref (ad 0), .int v] (wM cI ad fa n fo ki st we lo ra rch q0 q1 q2 q3 fk fc rd rc rv sh sle sla bg hd tr)) (va_Qi (fun r (zz : Unit) => r = v) (fun (zz : Unit) t => va_P D vwCl (wM cI ad 0 n fo ki st we lo ra rch q0 q1 q2 q3 fk fc rd rc rv sh sle sla bg hd tr) t.heap) (AW (adM ad))) 0 0 (AW (adM ad)) := by
  refine startM (by decide) rfl (Nat.le_of_ble_eq_true rfl) hnd rfl ?_
  intro p e s m below meth c hx hb hr hts hown hlk hml hG hP hD hS ls hl
  have hl : lv_has ls 2 [(0, .ref (ad 0)), (1, .int v)] := hl
  have f57 := hts (.fieldLink RX3 57 "ChairBallotModel" "fault" "I") (by decide +kernel)
  have yX3 : ∀ w ∈ u_ws RX3 TX3 23, w.before _ s = true := fun w h => hts w ((by decide +kernel : ∀ w ∈ wsX30, w ∈ wsX3_refused) w h)
  have hF : CallFix p m c cX3_refused 2 s _ wsX3_refused RX3 := ⟨hx, hb, hml, hown, hts⟩
  refine lv_aload_n hx hb dX3_refused_0 rfl (lv_at hl 0 rfl) ?_
  refine lv_iconst (v := nI 0) hx hb dX3_refused_1 (by decide) ?_
  refine va_put (D := D) (ci := 3) (v := .int (nI 0)) (ty := .int) (C := RX3) (T := TX3) (N := 23) hx hb yX3 (fun _ h => h) tyX3 tyX3_ok nmX3 hown hG.1 hP hD hS 0 rfl rfl 0 (by decide) f57 (fun _ h => h) rfl (by decide +kernel) rfl rfl (Nat.le_of_ble_eq_true rfl) dX3_refused_2 (fun H locs hP hD hS => ?_)
  have hP : va_P D vwCl (wM cI ad 0 n fo ki st we lo ra rch q0 q1 q2 q3 fk fc rd rc rv sh sle sla bg hd tr) H := hP
  have hD : va_D (AW (adM ad)) (wM cI ad 0 n fo ki st we lo ra rch q0 q1 q2 q3 fk fc rd rc rv sh sle sla bg hd tr) := hD
  refine lv_iload_n hx hb dX3_refused_5 rfl (lv_at hl 1 rfl) ?_
  exact xretM hx hb hr hlk dX3_refused_6 hS () (by rfl) (fun t ht => by rw [ht]; exact hP)

set_option maxHeartbeats 4000000 in
set_option maxRecDepth 100000 in
theorem c_X3_failed (l : Launch) (D : va_G) (cI cS : ClassId) (ad : Nat → Nat) (fa : Nat) (n : Nat) (fo : Nat) (ki : Nat → Nat) (st : Nat → Nat) (we : Nat → Nat) (lo : Nat → Nat) (ra : Nat) (rch : Nat) (q0 : Nat → Int32) (q1 : Nat → Int32) (q2 : Nat → Int32) (q3 : Nat → Int32) (fk : Nat) (fc : Nat → Nat) (rd : Nat) (rc : Nat → Nat) (rv : Nat → Nat) (sh : Nat → Bool) (sle : Nat → Nat) (sla : Nat → Nat) (bg : Nat → Int32) (hd : Nat → Int32) (tr : Int32) (w : Nat) (hnd : nd (adM ad)) : Met l yX3_failed wsX3_failed ({ frames := 0, cells := 0, slots := 0, locals := 0 }) (PR D cI cS [.ref (ad 0), .int (nI w)] (wM cI ad fa n fo ki st we lo ra rch q0 q1 q2 q3 fk fc rd rc rv sh sle sla bg hd tr)) (va_Qi (fun r (zz : Unit) => r = (-10) - nI w) (fun (zz : Unit) t => va_P D vwCl (wM cI ad w n fo ki st we lo ra rch q0 q1 q2 q3 fk fc rd rc rv sh sle sla bg hd tr) t.heap) (AW (adM ad))) 0 0 (AW (adM ad)) := by
  refine startM (by decide) rfl (Nat.le_of_ble_eq_true rfl) hnd rfl ?_
  intro p e s m below meth c hx hb hr hts hown hlk hml hG hP hD hS ls hl
  have hl : lv_has ls 2 [(0, .ref (ad 0)), (1, .int (nI w))] := hl
  have f57 := hts (.fieldLink RX3 57 "ChairBallotModel" "fault" "I") (by decide +kernel)
  have yX3 : ∀ w ∈ u_ws RX3 TX3 23, w.before _ s = true := fun w h => hts w ((by decide +kernel : ∀ w ∈ wsX30, w ∈ wsX3_failed) w h)
  have hF : CallFix p m c cX3_failed 2 s _ wsX3_failed RX3 := ⟨hx, hb, hml, hown, hts⟩
  refine lv_aload_n hx hb dX3_failed_0 rfl (lv_at hl 0 rfl) ?_
  refine lv_iload_n hx hb dX3_failed_1 rfl (lv_at hl 1 rfl) ?_
  refine va_put (D := D) (ci := 3) (v := .int (nI w)) (ty := .int) (C := RX3) (T := TX3) (N := 23) hx hb yX3 (fun _ h => h) tyX3 tyX3_ok nmX3 hown hG.1 hP hD hS 0 rfl rfl 0 (by decide) f57 (fun _ h => h) rfl (by decide +kernel) rfl rfl (Nat.le_of_ble_eq_true rfl) dX3_failed_2 (fun H locs hP hD hS => ?_)
  have hP : va_P D vwCl (wM cI ad w n fo ki st we lo ra rch q0 q1 q2 q3 fk fc rd rc rv sh sle sla bg hd tr) H := hP
  have hD : va_D (AW (adM ad)) (wM cI ad w n fo ki st we lo ra rch q0 q1 q2 q3 fk fc rd rc rv sh sle sla bg hd tr) := hD
  refine lv_bipush (v := (-10)) hx hb dX3_failed_5 (by decide) ?_
  refine lv_iload_n hx hb dX3_failed_7 rfl (lv_at hl 1 rfl) ?_
  refine lv_isub hx hb dX3_failed_8 ?_
  exact xretM hx hb hr hlk dX3_failed_9 hS () (by rfl) (fun t ht => by rw [ht]; exact hP)

set_option maxHeartbeats 4000000 in
set_option maxRecDepth 100000 in
theorem c_X3_failedLong (l : Launch) (D : va_G) (cI cS : ClassId) (ad : Nat → Nat) (fa : Nat) (n : Nat) (fo : Nat) (ki : Nat → Nat) (st : Nat → Nat) (we : Nat → Nat) (lo : Nat → Nat) (ra : Nat) (rch : Nat) (q0 : Nat → Int32) (q1 : Nat → Int32) (q2 : Nat → Int32) (q3 : Nat → Int32) (fk : Nat) (fc : Nat → Nat) (rd : Nat) (rc : Nat → Nat) (rv : Nat → Nat) (sh : Nat → Bool) (sle : Nat → Nat) (sla : Nat → Nat) (bg : Nat → Int32) (hd : Nat → Int32) (tr : Int32) (w : Nat) (hnd : nd (adM ad)) : Met l yX3_failedLong wsX3_failedLong ({ frames := 1, cells := 0, slots := 0, locals := 19 }) (PR D cI cS [.ref (ad 0), .int (nI w)] (wM cI ad fa n fo ki st we lo ra rch q0 q1 q2 q3 fk fc rd rc rv sh sle sla bg hd tr)) (va_Ql (fun r (zz : Unit) => r = lostL) (fun (zz : Unit) t => va_P D vwCl (wM cI ad w n fo ki st we lo ra rch q0 q1 q2 q3 fk fc rd rc rv sh sle sla bg hd tr) t.heap) (AW (adM ad))) 0 0 (AW (adM ad)) := by
  refine startM (by decide) rfl (Nat.le_of_ble_eq_true rfl) hnd rfl ?_
  intro p e s m below meth c hx hb hr hts hown hlk hml hG hP hD hS ls hl
  have hl : lv_has ls 2 [(0, .ref (ad 0)), (1, .int (nI w))] := hl
  have f57 := hts (.fieldLink RX3 57 "ChairBallotModel" "fault" "I") (by decide +kernel)
  have yX3 : ∀ w ∈ u_ws RX3 TX3 23, w.before _ s = true := fun w h => hts w ((by decide +kernel : ∀ w ∈ wsX30, w ∈ wsX3_failedLong) w h)
  have hF : CallFix p m c cX3_failedLong 2 s _ wsX3_failedLong RX3 := ⟨hx, hb, hml, hown, hts⟩
  refine lv_aload_n hx hb dX3_failedLong_0 rfl (lv_at hl 0 rfl) ?_
  refine lv_iload_n hx hb dX3_failedLong_1 rfl (lv_at hl 1 rfl) ?_
  refine va_put (D := D) (ci := 3) (v := .int (nI w)) (ty := .int) (C := RX3) (T := TX3) (N := 23) hx hb yX3 (fun _ h => h) tyX3 tyX3_ok nmX3 hown hG.1 hP hD hS 0 rfl rfl 0 (by decide) f57 (fun _ h => h) rfl (by decide +kernel) rfl rfl (Nat.le_of_ble_eq_true rfl) dX3_failedLong_2 (fun H locs hP hD hS => ?_)
  have hP : va_P D vwCl (wM cI ad w n fo ki st we lo ra rch q0 q1 q2 q3 fk fc rd rc rv sh sle sla bg hd tr) H := hP
  have hD : va_D (AW (adM ad)) (wM cI ad w n fo ki st we lo ra rch q0 q1 q2 q3 fk fc rd rc rv sh sle sla bg hd tr) := hD
  refine xrdl (va_runS (As := []) (rest := []) hF (c_X3_lost l D cI cS  ) (va_cwS 0 hts gX3_failedLong_X3_lost rfl rfl rfl hD_X3_lost ⟨Nat.le_of_ble_eq_true rfl, Nat.le_of_ble_eq_true rfl⟩) (PR.pre hG (hP.sub (ws' := []) [] rfl)) rfl rfl hl.1 rfl (lv_room (Nat.le_of_ble_eq_true rfl)) dX3_failedLong_5 ⟨Nat.le_refl _, Nat.le_refl _⟩) ?_
  exact xretMl hx hb hr hlk dX3_failedLong_8 hS () (by rfl) (fun t ht => by rw [ht]; exact hP)

set_option maxHeartbeats 4000000 in
set_option maxRecDepth 100000 in
theorem c_X3_noChair (l : Launch) (D : va_G) (cI cS : ClassId) (ad : Nat → Nat) (fa : Nat) (n : Nat) (fo : Nat) (ki : Nat → Nat) (st : Nat → Nat) (we : Nat → Nat) (lo : Nat → Nat) (ra : Nat) (rch : Nat) (q0 : Nat → Int32) (q1 : Nat → Int32) (q2 : Nat → Int32) (q3 : Nat → Int32) (fk : Nat) (fc : Nat → Nat) (rd : Nat) (rc : Nat → Nat) (rv : Nat → Nat) (sh : Nat → Bool) (sle : Nat → Nat) (sla : Nat → Nat) (bg : Nat → Int32) (hd : Nat → Int32) (tr : Int32) (k : Int32) (hn : n ≤ 8) : Met l yX3_noChair wsX3_noChair ({ frames := 1, cells := 0, slots := 0, locals := 25 }) (PR D cI cS [.ref (ad 0), .int k] (wM cI ad fa n fo ki st we lo ra rch q0 q1 q2 q3 fk fc rd rc rv sh sle sla bg hd tr)) (vp_Si (fun r => r = bI (!hasB n k))) 0 0 (fun _ => False) := by
  refine startR (by decide) rfl (Nat.le_of_ble_eq_true rfl) ?_
  intro p e s m below meth c hx hb hr hts hown hlk hml hG hP ls hl
  have hl : lv_has ls 2 [(0, .ref (ad 0)), (1, .int k)] := hl
  have f65 := hts (.fieldLink RX3 65 "ChairBallotModel" "chairs" "I") (by decide +kernel)
  have yX3 : ∀ w ∈ u_ws RX3 TX3 23, w.before _ s = true := fun w h => hts w ((by decide +kernel : ∀ w ∈ wsX30, w ∈ wsX3_noChair) w h)
  have hF : CallFix p m c cX3_noChair 2 s _ wsX3_noChair RX3 := ⟨hx, hb, hml, hown, hts⟩
  refine lv_iload_n hx hb dX3_noChair_0 rfl (lv_at hl 1 rfl) ?_
  refine lv_i2l (v := k.toInt64) hx hb dX3_noChair_1 rfl ?_
  refine lv_lconst (v := lN 0) hx hb dX3_noChair_2 rfl ?_
  refine lv_aload_n hx hb dX3_noChair_3 rfl (lv_at hl 0 rfl) ?_
  refine va_get (D := D) (ci := 3) (v := .int (nI n)) (C := RX3) (T := TX3) (N := 23) hx hb yX3 (fun _ h => h) hown hG.1 hP 0 rfl rfl 1 (by decide) f65 (fun _ h => h) rfl dX3_noChair_4 ?_
  refine lv_i2l (v := lN n) hx hb dX3_noChair_7 (nI_l (by omega)) ?_
  refine lv_lconst (v := lN 1) hx hb dX3_noChair_8 rfl ?_
  refine lv_lsub hx hb dX3_noChair_9 ?_
  refine xrd (va_runS (As := [.long k.toInt64, .long (lN 0), .long ((lN n) - (lN 1))]) (rest := []) hF (c_X3_inK l D cI cS k n (by first | assumption | omega)) (va_cwS 3 hts gX3_noChair_X3_in rfl rfl rfl hD_X3_in ⟨Nat.le_of_ble_eq_true rfl, Nat.le_of_ble_eq_true rfl⟩) (PR.pre hG (hP.sub (ws' := []) [] rfl)) rfl rfl hl.1 rfl (lv_room (Nat.le_of_ble_eq_true rfl)) dX3_noChair_10 ⟨Nat.le_refl _, Nat.le_refl _⟩) ?_
  refine lv_if_ne (tgt := 20) hx hb dX3_noChair_13 (by decide) (fun c_13 => ?_) (fun c_13 => ?_)
  ·
    replace c_13 := bI_n0.mp c_13
    refine lv_iconst (v := nI 0) hx hb dX3_noChair_20 (by decide) ?_
    exact xretRz hx hb hr hlk dX3_noChair_21 (false) rfl (by simp [c_13, bI_true, bI_false])
  ·
    replace c_13 := bI_0.mp c_13
    refine lv_iconst (v := nI 1) hx hb dX3_noChair_16 (by decide) ?_
    refine lv_goto (tgt := 21) hx hb dX3_noChair_17 (by decide) ?_
    exact xretRz hx hb hr hlk dX3_noChair_21 (true) rfl (by simp [c_13, bI_true, bI_false])

set_option maxHeartbeats 4000000 in
set_option maxRecDepth 100000 in
theorem c_X3_everyChair (l : Launch) (D : va_G) (cI cS : ClassId) (ad : Nat → Nat) (fa : Nat) (n : Nat) (fo : Nat) (ki : Nat → Nat) (st : Nat → Nat) (we : Nat → Nat) (lo : Nat → Nat) (ra : Nat) (rch : Nat) (q0 : Nat → Int32) (q1 : Nat → Int32) (q2 : Nat → Int32) (q3 : Nat → Int32) (fk : Nat) (fc : Nat → Nat) (rd : Nat) (rc : Nat → Nat) (rv : Nat → Nat) (sh : Nat → Bool) (sle : Nat → Nat) (sla : Nat → Nat) (bg : Nat → Int32) (hd : Nat → Int32) (tr : Int32) (hn : n ≤ 8) : Met l yX3_everyChair wsX3_everyChair ({ frames := 0, cells := 0, slots := 0, locals := 0 }) (PR D cI cS [.ref (ad 0)] (wM cI ad fa n fo ki st we lo ra rch q0 q1 q2 q3 fk fc rd rc rv sh sle sla bg hd tr)) (vp_Si (fun r => r = nI (2 ^ n - 1))) 0 0 (fun _ => False) := by
  refine startR (by decide) rfl (Nat.le_of_ble_eq_true rfl) ?_
  intro p e s m below meth c hx hb hr hts hown hlk hml hG hP ls hl
  have hl : lv_has ls 1 [(0, .ref (ad 0))] := hl
  have f65 := hts (.fieldLink RX3 65 "ChairBallotModel" "chairs" "I") (by decide +kernel)
  have yX3 : ∀ w ∈ u_ws RX3 TX3 23, w.before _ s = true := fun w h => hts w ((by decide +kernel : ∀ w ∈ wsX30, w ∈ wsX3_everyChair) w h)
  have hF : CallFix p m c cX3_everyChair 1 s _ wsX3_everyChair RX3 := ⟨hx, hb, hml, hown, hts⟩
  refine lv_iconst (v := nI 1) hx hb dX3_everyChair_0 (by decide) ?_
  refine lv_aload_n hx hb dX3_everyChair_1 rfl (lv_at hl 0 rfl) ?_
  refine va_get (D := D) (ci := 3) (v := .int (nI n)) (C := RX3) (T := TX3) (N := 23) hx hb yX3 (fun _ h => h) hown hG.1 hP 0 rfl rfl 1 (by decide) f65 (fun _ h => h) rfl dX3_everyChair_2 ?_
  refine lv_ishl hx hb dX3_everyChair_5 ?_
  refine xtop (x' := nI (2 ^ n)) (by exact shl1 n (by omega)) ?_
  refine lv_iconst (v := nI 1) hx hb dX3_everyChair_6 (by decide) ?_
  refine xsubN (x := 2 ^ n) (y := 1) hx hb (by exact Nat.one_le_two_pow) dX3_everyChair_7 ?_
  exact xretR hx hb hr hlk dX3_everyChair_8 (by rfl)

set_option maxHeartbeats 4000000 in
set_option maxRecDepth 100000 in
theorem c_X3_noSheet (l : Launch) (D : va_G) (cI cS : ClassId) (k : Int32)  : Met l yX3_noSheet wsX3_noSheet ({ frames := 1, cells := 0, slots := 0, locals := 25 }) (PR D cI cS [.int k] []) (vp_Si (fun r => r = bI (!rgB 0 3 k))) 0 0 (fun _ => False) := by
  refine startR (by decide) rfl (Nat.le_of_ble_eq_true rfl) ?_
  intro p e s m below meth c hx hb hr hts hown hlk hml hG hP ls hl
  have hl : lv_has ls 1 [(0, .int k)] := hl
  have hF : CallFix p m c cX3_noSheet 1 s _ wsX3_noSheet RX3 := ⟨hx, hb, hml, hown, hts⟩
  refine lv_iload_n hx hb dX3_noSheet_0 rfl (lv_at hl 0 rfl) ?_
  refine lv_i2l (v := k.toInt64) hx hb dX3_noSheet_1 rfl ?_
  refine lv_lconst (v := lN 0) hx hb dX3_noSheet_2 rfl ?_
  refine lv_ldc2 (v := 3) hx hb hown (hts (.constantLong RX3 138 (3)) (by decide +kernel)) dX3_noSheet_3 ?_
  refine xtopl (x' := lN 3) rfl ?_
  refine xrd (va_runS (As := [.long k.toInt64, .long (lN 0), .long (lN 3)]) (rest := []) hF (c_X3_in l D cI cS k 0 3 (by first | assumption | omega) (by first | assumption | omega)) (va_cwS 3 hts gX3_noSheet_X3_in rfl rfl rfl hD_X3_in ⟨Nat.le_of_ble_eq_true rfl, Nat.le_of_ble_eq_true rfl⟩) (PR.pre hG (hP.sub (ws' := []) [] rfl)) rfl rfl hl.1 rfl (lv_room (Nat.le_of_ble_eq_true rfl)) dX3_noSheet_6 ⟨Nat.le_refl _, Nat.le_refl _⟩) ?_
  refine xtop (x' := bI (rgB 0 3 k)) rfl ?_
  refine lv_if_ne (tgt := 16) hx hb dX3_noSheet_9 (by decide) (fun c_9 => ?_) (fun c_9 => ?_)
  ·
    replace c_9 := bI_n0.mp c_9
    refine lv_iconst (v := nI 0) hx hb dX3_noSheet_16 (by decide) ?_
    exact xretRz hx hb hr hlk dX3_noSheet_17 (false) rfl (by simp [c_9, bI_true, bI_false])
  ·
    replace c_9 := bI_0.mp c_9
    refine lv_iconst (v := nI 1) hx hb dX3_noSheet_12 (by decide) ?_
    refine lv_goto (tgt := 17) hx hb dX3_noSheet_13 (by decide) ?_
    exact xretRz hx hb hr hlk dX3_noSheet_17 (true) rfl (by simp [c_9, bI_true, bI_false])

set_option maxHeartbeats 4000000 in
set_option maxRecDepth 100000 in
theorem c_X3_isBeyond (l : Launch) (D : va_G) (cI cS : ClassId) (i : Int32) (ct : Int32) (le : Nat) (hle : le ≤ 60) : Met l yX3_isBeyond wsX3_isBeyond ({ frames := 0, cells := 0, slots := 0, locals := 0 }) (PR D cI cS [.int i, .long ct.toInt64, .int (nI le)] []) (vp_Si (fun r => r = bI (!hldB le i ct))) 0 0 (fun _ => False) := by
  refine startR (by decide) rfl (Nat.le_of_ble_eq_true rfl) ?_
  intro p e s m below meth c hx hb hr hts hown hlk hml hG hP ls hl
  have hl : lv_has ls 4 [(0, .int i), (1, .long ct.toInt64), (3, .int (nI le))] := hl
  have hF : CallFix p m c cX3_isBeyond 4 s _ wsX3_isBeyond RX3 := ⟨hx, hb, hml, hown, hts⟩
  refine lv_iload_n hx hb dX3_isBeyond_0 rfl (lv_at hl 0 rfl) ?_
  refine lv_if_lt (tgt := 20) hx hb dX3_isBeyond_1 (by decide) (fun c_1 => ?_) (fun c_1 => ?_)
  ·
    replace c_1 : i.toInt < 0 := (i32_ltc (b := 0) (by omega)).mp c_1
    refine lv_iconst (v := nI 1) hx hb dX3_isBeyond_20 (by decide) ?_
    refine lv_goto (tgt := 25) hx hb dX3_isBeyond_21 (by decide) ?_
    exact xretRz hx hb hr hlk dX3_isBeyond_25 (true) rfl (by first | (rw [show hldB le i ct = true from decide_eq_true (by omega)]; rfl) | (rw [show hldB le i ct = false from decide_eq_false (by omega)]; rfl))
  ·
    replace c_1 : ¬ i.toInt < 0 := (not_congr (i32_ltc (b := 0) (by omega))).mp c_1
    refine lv_lload_n hx hb dX3_isBeyond_4 rfl (lv_at hl 1 rfl) ?_
    refine lv_lconst (v := lN 0) hx hb dX3_isBeyond_5 rfl ?_
    refine W.lcmp hx hb dX3_isBeyond_6 ?_
    refine lv_if_lt (tgt := 20) hx hb dX3_isBeyond_7 (by decide) (fun c_7 => ?_) (fun c_7 => ?_)
    ·
      replace c_7 : ct.toInt < ((0 : Nat) : Int) := (lgc_lt (Int32.toInt_toInt64 _) (lN_toInt (n := 0) (by omega))).mp c_7
      refine lv_iconst (v := nI 1) hx hb dX3_isBeyond_20 (by decide) ?_
      refine lv_goto (tgt := 25) hx hb dX3_isBeyond_21 (by decide) ?_
      exact xretRz hx hb hr hlk dX3_isBeyond_25 (true) rfl (by first | (rw [show hldB le i ct = true from decide_eq_true (by omega)]; rfl) | (rw [show hldB le i ct = false from decide_eq_false (by omega)]; rfl))
    ·
      replace c_7 : ¬ ct.toInt < ((0 : Nat) : Int) := (not_congr (lgc_lt (Int32.toInt_toInt64 _) (lN_toInt (n := 0) (by omega)))).mp c_7
      refine lv_iload_n hx hb dX3_isBeyond_10 rfl (lv_at hl 0 rfl) ?_
      refine lv_i2l (v := i.toInt64) hx hb dX3_isBeyond_11 rfl ?_
      refine lv_lload_n hx hb dX3_isBeyond_12 rfl (lv_at hl 1 rfl) ?_
      refine lv_ladd hx hb dX3_isBeyond_13 ?_
      refine lv_iload_n hx hb dX3_isBeyond_14 rfl (lv_at hl 2 rfl) ?_
      refine lv_i2l (v := lN le) hx hb dX3_isBeyond_15 (nI_l (by omega)) ?_
      refine W.lcmp hx hb dX3_isBeyond_16 ?_
      refine lv_if_le (tgt := 24) hx hb dX3_isBeyond_17 (by decide) (fun c_17 => ?_) (fun c_17 => ?_)
      ·
        replace c_17 : (i.toInt + ct.toInt) ≤ ((le : Nat) : Int) := (lgc_le (ij_add i ct) (lN_toInt (n := le) (by omega))).mp c_17
        refine lv_iconst (v := nI 0) hx hb dX3_isBeyond_24 (by decide) ?_
        exact xretRz hx hb hr hlk dX3_isBeyond_25 (false) rfl (by first | (rw [show hldB le i ct = true from decide_eq_true (by omega)]; rfl) | (rw [show hldB le i ct = false from decide_eq_false (by omega)]; rfl))
      ·
        replace c_17 : ¬ (i.toInt + ct.toInt) ≤ ((le : Nat) : Int) := (not_congr (lgc_le (ij_add i ct) (lN_toInt (n := le) (by omega)))).mp c_17
        refine lv_iconst (v := nI 1) hx hb dX3_isBeyond_20 (by decide) ?_
        refine lv_goto (tgt := 25) hx hb dX3_isBeyond_21 (by decide) ?_
        exact xretRz hx hb hr hlk dX3_isBeyond_25 (true) rfl (by first | (rw [show hldB le i ct = true from decide_eq_true (by omega)]; rfl) | (rw [show hldB le i ct = false from decide_eq_false (by omega)]; rfl))

set_option maxHeartbeats 4000000 in
set_option maxRecDepth 100000 in
theorem c_X3_isBeyondN (l : Launch) (D : va_G) (cI cS : ClassId) (i : Int32) (ct : Nat) (le : Nat) (hle : le ≤ 60) (hc : ct < 2 ^ 31) : Met l yX3_isBeyond wsX3_isBeyond ({ frames := 0, cells := 0, slots := 0, locals := 0 }) (PR D cI cS [.int i, .long (lN ct), .int (nI le)] []) (vp_Si (fun r => r = bI (!hldB le i (nI ct)))) 0 0 (fun _ => False) := by
  have h := c_X3_isBeyond l D cI cS i (nI ct) le hle
  rw [nI_l hc] at h
  exact h

set_option maxHeartbeats 4000000 in
set_option maxRecDepth 100000 in
theorem c_X3_votesOpen (l : Launch) (D : va_G) (cI cS : ClassId) (ad : Nat → Nat) (fa : Nat) (n : Nat) (fo : Nat) (ki : Nat → Nat) (st : Nat → Nat) (we : Nat → Nat) (lo : Nat → Nat) (ra : Nat) (rch : Nat) (q0 : Nat → Int32) (q1 : Nat → Int32) (q2 : Nat → Int32) (q3 : Nat → Int32) (fk : Nat) (fc : Nat → Nat) (rd : Nat) (rc : Nat → Nat) (rv : Nat → Nat) (sh : Nat → Bool) (sle : Nat → Nat) (sla : Nat → Nat) (bg : Nat → Int32) (hd : Nat → Int32) (tr : Int32) (j : Nat) (hn : n ≤ 8) (hj : j < n) (hki : ∀ j, ki j ≤ 2) (hwe : ∀ j, we j ≤ 9) : Met l yX3_votesOpen wsX3_votesOpen ({ frames := 0, cells := 0, slots := 0, locals := 0 }) (PR D cI cS [.ref (ad 0), .int (nI j)] (wM cI ad fa n fo ki st we lo ra rch q0 q1 q2 q3 fk fc rd rc rv sh sle sla bg hd tr)) (vp_Si (fun r => r = nI (vtA (ki j) (we j)))) 0 0 (fun _ => False) := by
  refine startR (by decide) rfl (Nat.le_of_ble_eq_true rfl) ?_
  intro p e s m below meth c hx hb hr hts hown hlk hml hG hP ls hl
  have hl : lv_has ls 3 [(0, .ref (ad 0)), (1, .int (nI j))] := hl
  have f16 := hts (.fieldLink RX3 16 "ChairBallotModel" "weightOf" "[I") (by decide +kernel)
  have f7 := hts (.fieldLink RX3 7 "ChairBallotModel" "kindOf" "[I") (by decide +kernel)
  have yX3 : ∀ w ∈ u_ws RX3 TX3 23, w.before _ s = true := fun w h => hts w ((by decide +kernel : ∀ w ∈ wsX30, w ∈ wsX3_votesOpen) w h)
  have hF : CallFix p m c cX3_votesOpen 3 s _ wsX3_votesOpen RX3 := ⟨hx, hb, hml, hown, hts⟩
  have hkj := hki j
  have hwj := hwe j
  refine lv_aload_n hx hb dX3_votesOpen_0 rfl (lv_at hl 0 rfl) ?_
  refine va_get (D := D) (ci := 3) (v := .ref (ad 3)) (C := RX3) (T := TX3) (N := 23) hx hb yX3 (fun _ h => h) hown hG.1 hP 0 rfl rfl 5 (by decide) f16 (fun _ h => h) rfl dX3_votesOpen_1 ?_
  refine lv_iload_n hx hb dX3_votesOpen_4 rfl (lv_at hl 1 rfl) ?_
  refine xaldN hx hb hG hP 3 rfl (j) rfl (by omega) (by decide) dX3_votesOpen_5 ?_
  refine lv_iconst (v := nI 1) hx hb dX3_votesOpen_6 (by decide) ?_
  refine xaddN hx hb dX3_votesOpen_7 ?_
  refine lv_istore_n (lv' := [(2, .int (nI (we j + 1))), (0, .ref (ad 0)), (1, .int (nI j))]) hx hb dX3_votesOpen_8 rfl hl (by decide) rfl (fun ls hl => ?_)
  refine lv_aload_n hx hb dX3_votesOpen_9 rfl (lv_at hl 1 rfl) ?_
  refine va_get (D := D) (ci := 3) (v := .ref (ad 1)) (C := RX3) (T := TX3) (N := 23) hx hb yX3 (fun _ h => h) hown hG.1 hP 0 rfl rfl 3 (by decide) f7 (fun _ h => h) rfl dX3_votesOpen_10 ?_
  refine lv_iload_n hx hb dX3_votesOpen_13 rfl (lv_at hl 2 rfl) ?_
  refine xaldN hx hb hG hP 1 rfl (j) rfl (by omega) (by decide) dX3_votesOpen_14 ?_
  refine lv_if_ne (tgt := 27) hx hb dX3_votesOpen_15 (by decide) (fun c_15 => ?_) (fun c_15 => ?_)
  ·
    replace c_15 := (not_congr (nI_eq (a := ki j) (b := 0) (by omega) (by omega))).mp c_15
    refine lv_aload_n hx hb dX3_votesOpen_27 rfl (lv_at hl 1 rfl) ?_
    refine va_get (D := D) (ci := 3) (v := .ref (ad 1)) (C := RX3) (T := TX3) (N := 23) hx hb yX3 (fun _ h => h) hown hG.1 hP 0 rfl rfl 3 (by decide) f7 (fun _ h => h) rfl dX3_votesOpen_28 ?_
    refine lv_iload_n hx hb dX3_votesOpen_31 rfl (lv_at hl 2 rfl) ?_
    refine xaldN hx hb hG hP 1 rfl (j) rfl (by omega) (by decide) dX3_votesOpen_32 ?_
    refine lv_iconst (v := nI 1) hx hb dX3_votesOpen_33 (by decide) ?_
    refine lv_icmp_ne (tgt := 41) hx hb dX3_votesOpen_34 (by decide) (fun c_34 => ?_) (fun c_34 => ?_)
    ·
      replace c_34 := (not_congr (nI_eq (a := ki j) (b := 1) (by omega) (by omega))).mp c_34
      refine lv_iload_n hx hb dX3_votesOpen_41 rfl (lv_at hl 0 rfl) ?_
      refine lv_iconst (v := nI 2) hx hb dX3_votesOpen_42 (by decide) ?_
      refine xdivN (x := we j + 1) (y := 2) (by omega) (by omega) (by omega) hx hb dX3_votesOpen_43 ?_
      exact xretR hx hb hr hlk dX3_votesOpen_44 (by simp [vtA, c_15, c_34])
    ·
      replace c_34 := (nI_eq (a := ki j) (b := 1) (by omega) (by omega)).mp c_34
      refine lv_iload_n hx hb dX3_votesOpen_37 rfl (lv_at hl 0 rfl) ?_
      refine lv_goto (tgt := 44) hx hb dX3_votesOpen_38 (by decide) ?_
      exact xretR hx hb hr hlk dX3_votesOpen_44 (by simp [vtA, c_15, c_34])
  ·
    replace c_15 := (nI_eq (a := ki j) (b := 0) (by omega) (by omega)).mp c_15
    refine lv_aload_n hx hb dX3_votesOpen_18 rfl (lv_at hl 1 rfl) ?_
    refine va_get (D := D) (ci := 3) (v := .ref (ad 3)) (C := RX3) (T := TX3) (N := 23) hx hb yX3 (fun _ h => h) hown hG.1 hP 0 rfl rfl 5 (by decide) f16 (fun _ h => h) rfl dX3_votesOpen_19 ?_
    refine lv_iload_n hx hb dX3_votesOpen_22 rfl (lv_at hl 2 rfl) ?_
    refine xaldN hx hb hG hP 3 rfl (j) rfl (by omega) (by decide) dX3_votesOpen_23 ?_
    refine lv_goto (tgt := 44) hx hb dX3_votesOpen_24 (by decide) ?_
    exact xretR hx hb hr hlk dX3_votesOpen_44 (by simp [vtA, c_15])

set_option maxHeartbeats 4000000 in
set_option maxRecDepth 100000 in
theorem c_X3_votesOf (l : Launch) (D : va_G) (cI cS : ClassId) (ad : Nat → Nat) (fa : Nat) (n : Nat) (fo : Nat) (ki : Nat → Nat) (st : Nat → Nat) (we : Nat → Nat) (lo : Nat → Nat) (ra : Nat) (rch : Nat) (q0 : Nat → Int32) (q1 : Nat → Int32) (q2 : Nat → Int32) (q3 : Nat → Int32) (fk : Nat) (fc : Nat → Nat) (rd : Nat) (rc : Nat → Nat) (rv : Nat → Nat) (sh : Nat → Bool) (sle : Nat → Nat) (sla : Nat → Nat) (bg : Nat → Int32) (hd : Nat → Int32) (tr : Int32) (j : Nat) (hn : n ≤ 8) (hfo : fo < 256) (hj : j < n) (hki : ∀ j, ki j ≤ 2) (hwe : ∀ j, we j ≤ 9) : Met l yX3_votesOf wsX3_votesOf ({ frames := 1, cells := 0, slots := 0, locals := 22 }) (PR D cI cS [.ref (ad 0), .int (nI j)] (wM cI ad fa n fo ki st we lo ra rch q0 q1 q2 q3 fk fc rd rc rv sh sle sla bg hd tr)) (vp_Si (fun r => r = nI (voN fo ki we j))) 0 0 (fun _ => False) := by
  refine startR (by decide) rfl (Nat.le_of_ble_eq_true rfl) ?_
  intro p e s m below meth c hx hb hr hts hown hlk hml hG hP ls hl
  have hl : lv_has ls 2 [(0, .ref (ad 0)), (1, .int (nI j))] := hl
  have f114 := hts (.fieldLink RX3 114 "ChairBallotModel" "folded" "I") (by decide +kernel)
  have yX3 : ∀ w ∈ u_ws RX3 TX3 23, w.before _ s = true := fun w h => hts w ((by decide +kernel : ∀ w ∈ wsX30, w ∈ wsX3_votesOf) w h)
  have hF : CallFix p m c cX3_votesOf 2 s _ wsX3_votesOf RX3 := ⟨hx, hb, hml, hown, hts⟩
  refine lv_aload_n hx hb dX3_votesOf_0 rfl (lv_at hl 0 rfl) ?_
  refine va_get (D := D) (ci := 3) (v := .int (nI fo)) (C := RX3) (T := TX3) (N := 23) hx hb yX3 (fun _ h => h) hown hG.1 hP 0 rfl rfl 2 (by decide) f114 (fun _ h => h) rfl dX3_votesOf_1 ?_
  refine lv_iload_n hx hb dX3_votesOf_4 rfl (lv_at hl 1 rfl) ?_
  refine xrd (va_runS (As := [.int (nI fo), .int (nI j)]) (rest := []) hF (c_X3_isIn l D cI cS fo j (by first | assumption | omega) (by first | assumption | omega)) (va_cwS 2 hts gX3_votesOf_X3_isIn rfl rfl rfl hD_X3_isIn ⟨Nat.le_of_ble_eq_true rfl, Nat.le_of_ble_eq_true rfl⟩) (PR.pre hG (hP.sub (ws' := []) [] rfl)) rfl rfl hl.1 rfl (lv_room (Nat.le_of_ble_eq_true rfl)) dX3_votesOf_5 ⟨Nat.le_refl _, Nat.le_refl _⟩) ?_
  refine lv_if_eq (tgt := 15) hx hb dX3_votesOf_8 (by decide) (fun c_8 => ?_) (fun c_8 => ?_)
  ·
    replace c_8 := bI_0.mp c_8
    refine lv_aload_n hx hb dX3_votesOf_15 rfl (lv_at hl 0 rfl) ?_
    refine lv_iload_n hx hb dX3_votesOf_16 rfl (lv_at hl 1 rfl) ?_
    refine xrd (va_runV (As := [.int (nI j)]) (rest := []) hF (c_X3_votesOpen l D cI cS ad fa n fo ki st we lo ra rch q0 q1 q2 q3 fk fc rd rc rv sh sle sla bg hd tr j (by first | assumption | omega) (by first | assumption | omega) (by first | assumption | omega) (by first | assumption | omega)) (cwV 1 hts gX3_votesOf_X3_votesOpen rfl rfl rfl hV_X3_votesOpen ⟨Nat.le_of_ble_eq_true rfl, Nat.le_of_ble_eq_true rfl⟩) (PR.preV hG hP (ci := 3) rfl rfl) rfl rfl hl.1 rfl (lv_room (Nat.le_of_ble_eq_true rfl)) dX3_votesOf_17 ⟨Nat.le_refl _, Nat.le_refl _⟩) ?_
    exact xretR hx hb hr hlk dX3_votesOf_20 (by simp [voN, c_8])
  ·
    replace c_8 := bI_n0.mp c_8
    refine lv_iconst (v := nI 0) hx hb dX3_votesOf_11 (by decide) ?_
    refine lv_goto (tgt := 20) hx hb dX3_votesOf_12 (by decide) ?_
    exact xretR hx hb hr hlk dX3_votesOf_20 (by simp [voN, c_8])

set_option maxHeartbeats 4000000 in
set_option maxRecDepth 100000 in
theorem c_X3_meets (l : Launch) (D : va_G) (cI cS : ClassId) (ad : Nat → Nat) (fa : Nat) (n : Nat) (fo : Nat) (ki : Nat → Nat) (st : Nat → Nat) (we : Nat → Nat) (lo : Nat → Nat) (ra : Nat) (rch : Nat) (q0 : Nat → Int32) (q1 : Nat → Int32) (q2 : Nat → Int32) (q3 : Nat → Int32) (fk : Nat) (fc : Nat → Nat) (rd : Nat) (rc : Nat → Nat) (rv : Nat → Nat) (sh : Nat → Bool) (sle : Nat → Nat) (sla : Nat → Nat) (bg : Nat → Int32) (hd : Nat → Int32) (tr : Int32) (j : Nat) (hn : n ≤ 8) (hfo : fo < 256) (hj : j < n) (hlo : ∀ j, lo j ≤ 3) : Met l yX3_meets wsX3_meets ({ frames := 1, cells := 0, slots := 0, locals := 21 }) (PR D cI cS [.ref (ad 0), .int (nI j)] (wM cI ad fa n fo ki st we lo ra rch q0 q1 q2 q3 fk fc rd rc rv sh sle sla bg hd tr)) (vp_Si (fun r => r = bI (mtB n fo lo j))) 0 0 (fun _ => False) := by
  refine startR (by decide) rfl (Nat.le_of_ble_eq_true rfl) ?_
  intro p e s m below meth c hx hb hr hts hown hlk hml hG hP ls hl
  have hl : lv_has ls 3 [(0, .ref (ad 0)), (1, .int (nI j))] := hl
  have f65 := hts (.fieldLink RX3 65 "ChairBallotModel" "chairs" "I") (by decide +kernel)
  have f114 := hts (.fieldLink RX3 114 "ChairBallotModel" "folded" "I") (by decide +kernel)
  have f19 := hts (.fieldLink RX3 19 "ChairBallotModel" "facesOf" "[I") (by decide +kernel)
  have yX3 : ∀ w ∈ u_ws RX3 TX3 23, w.before _ s = true := fun w h => hts w ((by decide +kernel : ∀ w ∈ wsX30, w ∈ wsX3_meets) w h)
  have hF : CallFix p m c cX3_meets 3 s _ wsX3_meets RX3 := ⟨hx, hb, hml, hown, hts⟩
  have hlj := hlo j
  have hlj1 := hlo (j + 1)
  refine lv_iload_n hx hb dX3_meets_0 rfl (lv_at hl 1 rfl) ?_
  refine lv_if_lt (tgt := 42) hx hb dX3_meets_1 (by decide) (fun c_1 => ?_) (fun c_1 => ?_)
  · exact absurd c_1 (nI_nn (by omega))
  ·
    refine lv_iload_n hx hb dX3_meets_4 rfl (lv_at hl 1 rfl) ?_
    refine lv_iconst (v := nI 1) hx hb dX3_meets_5 (by decide) ?_
    refine xaddN hx hb dX3_meets_6 ?_
    refine lv_aload_n hx hb dX3_meets_7 rfl (lv_at hl 0 rfl) ?_
    refine va_get (D := D) (ci := 3) (v := .int (nI n)) (C := RX3) (T := TX3) (N := 23) hx hb yX3 (fun _ h => h) hown hG.1 hP 0 rfl rfl 1 (by decide) f65 (fun _ h => h) rfl dX3_meets_8 ?_
    refine lv_icmp_ge (tgt := 42) hx hb dX3_meets_11 (by decide) (fun c_11 => ?_) (fun c_11 => ?_)
    ·
      replace c_11 := (nI_leI (a := n) (b := j + 1) (by omega) (by omega)).mp c_11
      have hlt : ¬ j + 1 < n := by omega
      refine lv_iconst (v := nI 0) hx hb dX3_meets_42 (by decide) ?_
      refine lv_istore_n (lv' := [(2, .int (nI 0)), (0, .ref (ad 0)), (1, .int (nI j))]) hx hb dX3_meets_43 rfl hl (by decide) rfl (fun ls hl => ?_)
      refine lv_iload_n hx hb dX3_meets_44 rfl (lv_at hl 0 rfl) ?_
      refine lv_if_eq (tgt := 74) hx hb dX3_meets_45 (by decide) (fun c_45 => ?_) (fun c_45 => ?_)
      ·
        refine lv_iconst (v := nI 0) hx hb dX3_meets_74 (by decide) ?_
        exact xretRz hx hb hr hlk dX3_meets_75 (false) rfl (by simp [mtB, bI_true, bI_false, c_1, c_11, hlt, c_45])
      · exact absurd (by decide) c_45
    ·
      replace c_11 := (not_congr (nI_leI (a := n) (b := j + 1) (by omega) (by omega))).mp c_11
      have hlt : j + 1 < n := by omega
      refine lv_aload_n hx hb dX3_meets_14 rfl (lv_at hl 0 rfl) ?_
      refine va_get (D := D) (ci := 3) (v := .int (nI fo)) (C := RX3) (T := TX3) (N := 23) hx hb yX3 (fun _ h => h) hown hG.1 hP 0 rfl rfl 2 (by decide) f114 (fun _ h => h) rfl dX3_meets_15 ?_
      refine lv_iload_n hx hb dX3_meets_18 rfl (lv_at hl 1 rfl) ?_
      refine xrd (va_runS (As := [.int (nI fo), .int (nI j)]) (rest := []) hF (c_X3_isIn l D cI cS fo j (by first | assumption | omega) (by first | assumption | omega)) (va_cwS 2 hts gX3_meets_X3_isIn rfl rfl rfl hD_X3_isIn ⟨Nat.le_of_ble_eq_true rfl, Nat.le_of_ble_eq_true rfl⟩) (PR.pre hG (hP.sub (ws' := []) [] rfl)) rfl rfl hl.1 rfl (lv_room (Nat.le_of_ble_eq_true rfl)) dX3_meets_19 ⟨Nat.le_refl _, Nat.le_refl _⟩) ?_
      refine lv_if_ne (tgt := 42) hx hb dX3_meets_22 (by decide) (fun c_22 => ?_) (fun c_22 => ?_)
      ·
        replace c_22 := bI_n0.mp c_22
        refine lv_iconst (v := nI 0) hx hb dX3_meets_42 (by decide) ?_
        refine lv_istore_n (lv' := [(2, .int (nI 0)), (0, .ref (ad 0)), (1, .int (nI j))]) hx hb dX3_meets_43 rfl hl (by decide) rfl (fun ls hl => ?_)
        refine lv_iload_n hx hb dX3_meets_44 rfl (lv_at hl 0 rfl) ?_
        refine lv_if_eq (tgt := 74) hx hb dX3_meets_45 (by decide) (fun c_45 => ?_) (fun c_45 => ?_)
        ·
          refine lv_iconst (v := nI 0) hx hb dX3_meets_74 (by decide) ?_
          exact xretRz hx hb hr hlk dX3_meets_75 (false) rfl (by simp [mtB, bI_true, bI_false, c_1, c_11, hlt, c_22, c_45])
        · exact absurd (by decide) c_45
      ·
        replace c_22 := bI_0.mp c_22
        refine lv_aload_n hx hb dX3_meets_25 rfl (lv_at hl 0 rfl) ?_
        refine va_get (D := D) (ci := 3) (v := .int (nI fo)) (C := RX3) (T := TX3) (N := 23) hx hb yX3 (fun _ h => h) hown hG.1 hP 0 rfl rfl 2 (by decide) f114 (fun _ h => h) rfl dX3_meets_26 ?_
        refine lv_iload_n hx hb dX3_meets_29 rfl (lv_at hl 1 rfl) ?_
        refine lv_iconst (v := nI 1) hx hb dX3_meets_30 (by decide) ?_
        refine xaddN hx hb dX3_meets_31 ?_
        refine xrd (va_runS (As := [.int (nI fo), .int (nI (j + 1))]) (rest := []) hF (c_X3_isIn l D cI cS fo (j + 1) (by first | assumption | omega) (by first | assumption | omega)) (va_cwS 2 hts gX3_meets_X3_isIn rfl rfl rfl hD_X3_isIn ⟨Nat.le_of_ble_eq_true rfl, Nat.le_of_ble_eq_true rfl⟩) (PR.pre hG (hP.sub (ws' := []) [] rfl)) rfl rfl hl.1 rfl (lv_room (Nat.le_of_ble_eq_true rfl)) dX3_meets_32 ⟨Nat.le_refl _, Nat.le_refl _⟩) ?_
        refine lv_if_ne (tgt := 42) hx hb dX3_meets_35 (by decide) (fun c_35 => ?_) (fun c_35 => ?_)
        ·
          replace c_35 := bI_n0.mp c_35
          refine lv_iconst (v := nI 0) hx hb dX3_meets_42 (by decide) ?_
          refine lv_istore_n (lv' := [(2, .int (nI 0)), (0, .ref (ad 0)), (1, .int (nI j))]) hx hb dX3_meets_43 rfl hl (by decide) rfl (fun ls hl => ?_)
          refine lv_iload_n hx hb dX3_meets_44 rfl (lv_at hl 0 rfl) ?_
          refine lv_if_eq (tgt := 74) hx hb dX3_meets_45 (by decide) (fun c_45 => ?_) (fun c_45 => ?_)
          ·
            refine lv_iconst (v := nI 0) hx hb dX3_meets_74 (by decide) ?_
            exact xretRz hx hb hr hlk dX3_meets_75 (false) rfl (by simp [mtB, bI_true, bI_false, c_1, c_11, hlt, c_22, c_35, c_45])
          · exact absurd (by decide) c_45
        ·
          replace c_35 := bI_0.mp c_35
          refine lv_iconst (v := nI 1) hx hb dX3_meets_38 (by decide) ?_
          refine lv_goto (tgt := 43) hx hb dX3_meets_39 (by decide) ?_
          refine lv_istore_n (lv' := [(2, .int (nI 1)), (0, .ref (ad 0)), (1, .int (nI j))]) hx hb dX3_meets_43 rfl hl (by decide) rfl (fun ls hl => ?_)
          refine lv_iload_n hx hb dX3_meets_44 rfl (lv_at hl 0 rfl) ?_
          refine lv_if_eq (tgt := 74) hx hb dX3_meets_45 (by decide) (fun c_45 => ?_) (fun c_45 => ?_)
          · exact absurd c_45 (by decide)
          ·
            refine lv_aload_n hx hb dX3_meets_48 rfl (lv_at hl 1 rfl) ?_
            refine va_get (D := D) (ci := 3) (v := .ref (ad 4)) (C := RX3) (T := TX3) (N := 23) hx hb yX3 (fun _ h => h) hown hG.1 hP 0 rfl rfl 6 (by decide) f19 (fun _ h => h) rfl dX3_meets_49 ?_
            refine lv_iload_n hx hb dX3_meets_52 rfl (lv_at hl 2 rfl) ?_
            refine xaldN hx hb hG hP 4 rfl (j) rfl (by omega) (by decide) dX3_meets_53 ?_
            refine lv_iconst (v := nI 1) hx hb dX3_meets_54 (by decide) ?_
            refine lv_icmp_ne (tgt := 74) hx hb dX3_meets_55 (by decide) (fun c_55 => ?_) (fun c_55 => ?_)
            ·
              replace c_55 := (not_congr (nI_eq (a := lo j) (b := 1) (by omega) (by omega))).mp c_55
              refine lv_iconst (v := nI 0) hx hb dX3_meets_74 (by decide) ?_
              exact xretRz hx hb hr hlk dX3_meets_75 (false) rfl (by simp [mtB, bI_true, bI_false, c_1, c_11, hlt, c_22, c_35, c_45, c_55])
            ·
              replace c_55 := (nI_eq (a := lo j) (b := 1) (by omega) (by omega)).mp c_55
              refine lv_aload_n hx hb dX3_meets_58 rfl (lv_at hl 1 rfl) ?_
              refine va_get (D := D) (ci := 3) (v := .ref (ad 4)) (C := RX3) (T := TX3) (N := 23) hx hb yX3 (fun _ h => h) hown hG.1 hP 0 rfl rfl 6 (by decide) f19 (fun _ h => h) rfl dX3_meets_59 ?_
              refine lv_iload_n hx hb dX3_meets_62 rfl (lv_at hl 2 rfl) ?_
              refine lv_iconst (v := nI 1) hx hb dX3_meets_63 (by decide) ?_
              refine xaddN hx hb dX3_meets_64 ?_
              refine xaldN hx hb hG hP 4 rfl (j + 1) rfl (by omega) (by decide) dX3_meets_65 ?_
              refine lv_iconst (v := nI 3) hx hb dX3_meets_66 (by decide) ?_
              refine lv_icmp_ne (tgt := 74) hx hb dX3_meets_67 (by decide) (fun c_67 => ?_) (fun c_67 => ?_)
              ·
                replace c_67 := (not_congr (nI_eq (a := lo (j + 1)) (b := 3) (by omega) (by omega))).mp c_67
                refine lv_iconst (v := nI 0) hx hb dX3_meets_74 (by decide) ?_
                exact xretRz hx hb hr hlk dX3_meets_75 (false) rfl (by simp [mtB, bI_true, bI_false, c_1, c_11, hlt, c_22, c_35, c_45, c_55, c_67])
              ·
                replace c_67 := (nI_eq (a := lo (j + 1)) (b := 3) (by omega) (by omega)).mp c_67
                refine lv_iconst (v := nI 1) hx hb dX3_meets_70 (by decide) ?_
                refine lv_goto (tgt := 75) hx hb dX3_meets_71 (by decide) ?_
                exact xretRz hx hb hr hlk dX3_meets_75 (true) rfl (by simp [mtB, bI_true, bI_false, c_1, c_11, hlt, c_22, c_35, c_45, c_55, c_67])

set_option maxHeartbeats 4000000 in
set_option maxRecDepth 100000 in
theorem c_X3_meetsM (l : Launch) (D : va_G) (cI cS : ClassId) (ad : Nat → Nat) (fa : Nat) (n : Nat) (fo : Nat) (ki : Nat → Nat) (st : Nat → Nat) (we : Nat → Nat) (lo : Nat → Nat) (ra : Nat) (rch : Nat) (q0 : Nat → Int32) (q1 : Nat → Int32) (q2 : Nat → Int32) (q3 : Nat → Int32) (fk : Nat) (fc : Nat → Nat) (rd : Nat) (rc : Nat → Nat) (rv : Nat → Nat) (sh : Nat → Bool) (sle : Nat → Nat) (sla : Nat → Nat) (bg : Nat → Int32) (hd : Nat → Int32) (tr : Int32) (hn : n ≤ 8) : Met l yX3_meets wsX3_meets ({ frames := 1, cells := 0, slots := 0, locals := 21 }) (PR D cI cS [.ref (ad 0), .int (-1)] (wM cI ad fa n fo ki st we lo ra rch q0 q1 q2 q3 fk fc rd rc rv sh sle sla bg hd tr)) (vp_Si (fun r => r = bI false)) 0 0 (fun _ => False) := by
  refine startR (by decide) rfl (Nat.le_of_ble_eq_true rfl) ?_
  intro p e s m below meth c hx hb hr hts hown hlk hml hG hP ls hl
  have hl : lv_has ls 3 [(0, .ref (ad 0)), (1, .int (-1))] := hl
  have f65 := hts (.fieldLink RX3 65 "ChairBallotModel" "chairs" "I") (by decide +kernel)
  have f114 := hts (.fieldLink RX3 114 "ChairBallotModel" "folded" "I") (by decide +kernel)
  have f19 := hts (.fieldLink RX3 19 "ChairBallotModel" "facesOf" "[I") (by decide +kernel)
  have yX3 : ∀ w ∈ u_ws RX3 TX3 23, w.before _ s = true := fun w h => hts w ((by decide +kernel : ∀ w ∈ wsX30, w ∈ wsX3_meets) w h)
  have hF : CallFix p m c cX3_meets 3 s _ wsX3_meets RX3 := ⟨hx, hb, hml, hown, hts⟩
  refine lv_iload_n hx hb dX3_meets_0 rfl (lv_at hl 1 rfl) ?_
  refine lv_if_lt (tgt := 42) hx hb dX3_meets_1 (by decide) (fun c_1 => ?_) (fun c_1 => ?_)
  ·
    refine lv_iconst (v := nI 0) hx hb dX3_meets_42 (by decide) ?_
    refine lv_istore_n (lv' := [(2, .int (nI 0)), (0, .ref (ad 0)), (1, .int (-1))]) hx hb dX3_meets_43 rfl hl (by decide) rfl (fun ls hl => ?_)
    refine lv_iload_n hx hb dX3_meets_44 rfl (lv_at hl 0 rfl) ?_
    refine lv_if_eq (tgt := 74) hx hb dX3_meets_45 (by decide) (fun c_45 => ?_) (fun c_45 => ?_)
    ·
      refine lv_iconst (v := nI 0) hx hb dX3_meets_74 (by decide) ?_
      exact xretRz hx hb hr hlk dX3_meets_75 (false) rfl (by rfl)
    · exact absurd (by decide) c_45
  · exact absurd (by decide) c_1

set_option maxHeartbeats 4000000 in
set_option maxRecDepth 100000 in
theorem c_X3_countsAs (l : Launch) (D : va_G) (cI cS : ClassId) (ad : Nat → Nat) (fa : Nat) (n : Nat) (fo : Nat) (ki : Nat → Nat) (st : Nat → Nat) (we : Nat → Nat) (lo : Nat → Nat) (ra : Nat) (rch : Nat) (q0 : Nat → Int32) (q1 : Nat → Int32) (q2 : Nat → Int32) (q3 : Nat → Int32) (fk : Nat) (fc : Nat → Nat) (rd : Nat) (rc : Nat → Nat) (rv : Nat → Nat) (sh : Nat → Bool) (sle : Nat → Nat) (sla : Nat → Nat) (bg : Nat → Int32) (hd : Nat → Int32) (tr : Int32) (j : Nat) (hn : n ≤ 8) (hfo : fo < 256) (hj : j < n) (hst : ∀ j, st j ≤ 3) (hlo : ∀ j, lo j ≤ 3) : Met l yX3_countsAs wsX3_countsAs ({ frames := 2, cells := 0, slots := 0, locals := 43 }) (PR D cI cS [.ref (ad 0), .int (nI j)] (wM cI ad fa n fo ki st we lo ra rch q0 q1 q2 q3 fk fc rd rc rv sh sle sla bg hd tr)) (vp_Si (fun r => r = nI (sdN n fo st lo j))) 0 0 (fun _ => False) := by
  refine startR (by decide) rfl (Nat.le_of_ble_eq_true rfl) ?_
  intro p e s m below meth c hx hb hr hts hown hlk hml hG hP ls hl
  have hl : lv_has ls 3 [(0, .ref (ad 0)), (1, .int (nI j))] := hl
  have f114 := hts (.fieldLink RX3 114 "ChairBallotModel" "folded" "I") (by decide +kernel)
  have f13 := hts (.fieldLink RX3 13 "ChairBallotModel" "stripeOf" "[I") (by decide +kernel)
  have f19 := hts (.fieldLink RX3 19 "ChairBallotModel" "facesOf" "[I") (by decide +kernel)
  have yX3 : ∀ w ∈ u_ws RX3 TX3 23, w.before _ s = true := fun w h => hts w ((by decide +kernel : ∀ w ∈ wsX30, w ∈ wsX3_countsAs) w h)
  have hF : CallFix p m c cX3_countsAs 3 s _ wsX3_countsAs RX3 := ⟨hx, hb, hml, hown, hts⟩
  have hlj := hlo j
  have hsj := hst j
  have hsj1 := hst (j + 1)
  refine lv_aload_n hx hb dX3_countsAs_0 rfl (lv_at hl 0 rfl) ?_
  refine va_get (D := D) (ci := 3) (v := .int (nI fo)) (C := RX3) (T := TX3) (N := 23) hx hb yX3 (fun _ h => h) hown hG.1 hP 0 rfl rfl 2 (by decide) f114 (fun _ h => h) rfl dX3_countsAs_1 ?_
  refine lv_iload_n hx hb dX3_countsAs_4 rfl (lv_at hl 1 rfl) ?_
  refine xrd (va_runS (As := [.int (nI fo), .int (nI j)]) (rest := []) hF (c_X3_isIn l D cI cS fo j (by first | assumption | omega) (by first | assumption | omega)) (va_cwS 2 hts gX3_countsAs_X3_isIn rfl rfl rfl hD_X3_isIn ⟨Nat.le_of_ble_eq_true rfl, Nat.le_of_ble_eq_true rfl⟩) (PR.pre hG (hP.sub (ws' := []) [] rfl)) rfl rfl hl.1 rfl (lv_room (Nat.le_of_ble_eq_true rfl)) dX3_countsAs_5 ⟨Nat.le_refl _, Nat.le_refl _⟩) ?_
  refine lv_if_eq (tgt := 13) hx hb dX3_countsAs_8 (by decide) (fun c_8 => ?_) (fun c_8 => ?_)
  ·
    replace c_8 := bI_0.mp c_8
    refine lv_aload_n hx hb dX3_countsAs_13 rfl (lv_at hl 0 rfl) ?_
    refine lv_iload_n hx hb dX3_countsAs_14 rfl (lv_at hl 1 rfl) ?_
    refine xrd (va_runV (As := [.int (nI j)]) (rest := []) hF (c_X3_meets l D cI cS ad fa n fo ki st we lo ra rch q0 q1 q2 q3 fk fc rd rc rv sh sle sla bg hd tr j (by first | assumption | omega) (by first | assumption | omega) (by first | assumption | omega) (by first | assumption | omega)) (cwV 1 hts gX3_countsAs_X3_meets rfl rfl rfl hV_X3_meets ⟨Nat.le_of_ble_eq_true rfl, Nat.le_of_ble_eq_true rfl⟩) (PR.preV hG hP (ci := 3) rfl rfl) rfl rfl hl.1 rfl (lv_room (Nat.le_of_ble_eq_true rfl)) dX3_countsAs_15 ⟨Nat.le_refl _, Nat.le_refl _⟩) ?_
    refine lv_if_eq (tgt := 27) hx hb dX3_countsAs_18 (by decide) (fun c_18 => ?_) (fun c_18 => ?_)
    ·
      replace c_18 := bI_0.mp c_18
      cases j with
      | zero =>
        refine lv_aload_n hx hb dX3_countsAs_27 rfl (lv_at hl 0 rfl) ?_
        refine lv_iload_n hx hb dX3_countsAs_28 rfl (lv_at hl 1 rfl) ?_
        refine lv_iconst (v := nI 1) hx hb dX3_countsAs_29 (by decide) ?_
        refine lv_isub hx hb dX3_countsAs_30 ?_
        refine xtop (x' := (-1)) (by rfl) ?_
        refine xrd (va_runV (As := [.int (-1)]) (rest := []) hF (c_X3_meetsM l D cI cS ad fa n fo ki st we lo ra rch q0 q1 q2 q3 fk fc rd rc rv sh sle sla bg hd tr (by first | assumption | omega)) (cwV 1 hts gX3_countsAs_X3_meets rfl rfl rfl hV_X3_meets ⟨Nat.le_of_ble_eq_true rfl, Nat.le_of_ble_eq_true rfl⟩) (PR.preV hG hP (ci := 3) rfl rfl) rfl rfl hl.1 rfl (lv_room (Nat.le_of_ble_eq_true rfl)) dX3_countsAs_31 ⟨Nat.le_refl _, Nat.le_refl _⟩) ?_
        refine lv_if_eq (tgt := 43) hx hb dX3_countsAs_34 (by decide) (fun c_34 => ?_) (fun c_34 => ?_)
        ·
          refine lv_bipush (v := (-9)) hx hb dX3_countsAs_43 (by decide) ?_
          refine lv_istore_n (lv' := [(2, .int (-9)), (0, .ref (ad 0)), (1, .int (nI 0))]) hx hb dX3_countsAs_45 rfl hl (by decide) rfl (fun ls hl => ?_)
          refine lv_iload_n hx hb dX3_countsAs_46 rfl (lv_at hl 0 rfl) ?_
          refine lv_if_lt (tgt := 71) hx hb dX3_countsAs_47 (by decide) (fun c_47 => ?_) (fun c_47 => ?_)
          ·
            refine lv_aload_n hx hb dX3_countsAs_71 rfl (lv_at hl 1 rfl) ?_
            refine va_get (D := D) (ci := 3) (v := .ref (ad 4)) (C := RX3) (T := TX3) (N := 23) hx hb yX3 (fun _ h => h) hown hG.1 hP 0 rfl rfl 6 (by decide) f19 (fun _ h => h) rfl dX3_countsAs_72 ?_
            refine lv_iload_n hx hb dX3_countsAs_75 rfl (lv_at hl 2 rfl) ?_
            refine xaldN hx hb hG hP 4 rfl (0) rfl (by omega) (by decide) dX3_countsAs_76 ?_
            refine lv_if_ne (tgt := 84) hx hb dX3_countsAs_77 (by decide) (fun c_77 => ?_) (fun c_77 => ?_)
            ·
              replace c_77 := (not_congr (nI_eq (a := lo 0) (b := 0) (by omega) (by omega))).mp c_77
              refine lv_aload_n hx hb dX3_countsAs_84 rfl (lv_at hl 1 rfl) ?_
              refine va_get (D := D) (ci := 3) (v := .ref (ad 4)) (C := RX3) (T := TX3) (N := 23) hx hb yX3 (fun _ h => h) hown hG.1 hP 0 rfl rfl 6 (by decide) f19 (fun _ h => h) rfl dX3_countsAs_85 ?_
              refine lv_iload_n hx hb dX3_countsAs_88 rfl (lv_at hl 2 rfl) ?_
              refine xaldN hx hb hG hP 4 rfl (0) rfl (by omega) (by decide) dX3_countsAs_89 ?_
              refine lv_iconst (v := nI 2) hx hb dX3_countsAs_90 (by decide) ?_
              refine lv_icmp_ne (tgt := 98) hx hb dX3_countsAs_91 (by decide) (fun c_91 => ?_) (fun c_91 => ?_)
              ·
                replace c_91 := (not_congr (nI_eq (a := lo 0) (b := 2) (by omega) (by omega))).mp c_91
                refine lv_iconst (v := nI 0) hx hb dX3_countsAs_98 (by decide) ?_
                exact xretR hx hb hr hlk dX3_countsAs_99 (by simp [sdN, c_8, c_18, c_34, c_47, c_77, c_91])
              ·
                replace c_91 := (nI_eq (a := lo 0) (b := 2) (by omega) (by omega)).mp c_91
                refine lv_iconst (v := nI 2) hx hb dX3_countsAs_94 (by decide) ?_
                refine lv_goto (tgt := 99) hx hb dX3_countsAs_95 (by decide) ?_
                exact xretR hx hb hr hlk dX3_countsAs_99 (by simp [sdN, c_8, c_18, c_34, c_47, c_77, c_91])
            ·
              replace c_77 := (nI_eq (a := lo 0) (b := 0) (by omega) (by omega)).mp c_77
              refine lv_iconst (v := nI 1) hx hb dX3_countsAs_80 (by decide) ?_
              refine lv_goto (tgt := 99) hx hb dX3_countsAs_81 (by decide) ?_
              exact xretR hx hb hr hlk dX3_countsAs_99 (by simp [sdN, c_8, c_18, c_34, c_47, c_77])
          · exact absurd (by decide) c_47
        · exact absurd (by decide) c_34
      | succ j =>
        have hsj0 := hst j
        refine lv_aload_n hx hb dX3_countsAs_27 rfl (lv_at hl 0 rfl) ?_
        refine lv_iload_n hx hb dX3_countsAs_28 rfl (lv_at hl 1 rfl) ?_
        refine lv_iconst (v := nI 1) hx hb dX3_countsAs_29 (by decide) ?_
        refine lv_isub hx hb dX3_countsAs_30 ?_
        refine xtop (x' := nI j) (by exact pk_m1s j) ?_
        refine xrd (va_runV (As := [.int (nI j)]) (rest := []) hF (c_X3_meets l D cI cS ad fa n fo ki st we lo ra rch q0 q1 q2 q3 fk fc rd rc rv sh sle sla bg hd tr j (by first | assumption | omega) (by first | assumption | omega) (by first | assumption | omega) (by first | assumption | omega)) (cwV 1 hts gX3_countsAs_X3_meets rfl rfl rfl hV_X3_meets ⟨Nat.le_of_ble_eq_true rfl, Nat.le_of_ble_eq_true rfl⟩) (PR.preV hG hP (ci := 3) rfl rfl) rfl rfl hl.1 rfl (lv_room (Nat.le_of_ble_eq_true rfl)) dX3_countsAs_31 ⟨Nat.le_refl _, Nat.le_refl _⟩) ?_
        refine lv_if_eq (tgt := 43) hx hb dX3_countsAs_34 (by decide) (fun c_34 => ?_) (fun c_34 => ?_)
        ·
          replace c_34 := bI_0.mp c_34
          refine lv_bipush (v := (-9)) hx hb dX3_countsAs_43 (by decide) ?_
          refine lv_istore_n (lv' := [(2, .int (-9)), (0, .ref (ad 0)), (1, .int (nI (j + 1)))]) hx hb dX3_countsAs_45 rfl hl (by decide) rfl (fun ls hl => ?_)
          refine lv_iload_n hx hb dX3_countsAs_46 rfl (lv_at hl 0 rfl) ?_
          refine lv_if_lt (tgt := 71) hx hb dX3_countsAs_47 (by decide) (fun c_47 => ?_) (fun c_47 => ?_)
          ·
            refine lv_aload_n hx hb dX3_countsAs_71 rfl (lv_at hl 1 rfl) ?_
            refine va_get (D := D) (ci := 3) (v := .ref (ad 4)) (C := RX3) (T := TX3) (N := 23) hx hb yX3 (fun _ h => h) hown hG.1 hP 0 rfl rfl 6 (by decide) f19 (fun _ h => h) rfl dX3_countsAs_72 ?_
            refine lv_iload_n hx hb dX3_countsAs_75 rfl (lv_at hl 2 rfl) ?_
            refine xaldN hx hb hG hP 4 rfl (j + 1) rfl (by omega) (by decide) dX3_countsAs_76 ?_
            refine lv_if_ne (tgt := 84) hx hb dX3_countsAs_77 (by decide) (fun c_77 => ?_) (fun c_77 => ?_)
            ·
              replace c_77 := (not_congr (nI_eq (a := lo (j + 1)) (b := 0) (by omega) (by omega))).mp c_77
              refine lv_aload_n hx hb dX3_countsAs_84 rfl (lv_at hl 1 rfl) ?_
              refine va_get (D := D) (ci := 3) (v := .ref (ad 4)) (C := RX3) (T := TX3) (N := 23) hx hb yX3 (fun _ h => h) hown hG.1 hP 0 rfl rfl 6 (by decide) f19 (fun _ h => h) rfl dX3_countsAs_85 ?_
              refine lv_iload_n hx hb dX3_countsAs_88 rfl (lv_at hl 2 rfl) ?_
              refine xaldN hx hb hG hP 4 rfl (j + 1) rfl (by omega) (by decide) dX3_countsAs_89 ?_
              refine lv_iconst (v := nI 2) hx hb dX3_countsAs_90 (by decide) ?_
              refine lv_icmp_ne (tgt := 98) hx hb dX3_countsAs_91 (by decide) (fun c_91 => ?_) (fun c_91 => ?_)
              ·
                replace c_91 := (not_congr (nI_eq (a := lo (j + 1)) (b := 2) (by omega) (by omega))).mp c_91
                refine lv_iconst (v := nI 0) hx hb dX3_countsAs_98 (by decide) ?_
                exact xretR hx hb hr hlk dX3_countsAs_99 (by simp [sdN, c_8, c_18, c_34, c_47, c_77, c_91])
              ·
                replace c_91 := (nI_eq (a := lo (j + 1)) (b := 2) (by omega) (by omega)).mp c_91
                refine lv_iconst (v := nI 2) hx hb dX3_countsAs_94 (by decide) ?_
                refine lv_goto (tgt := 99) hx hb dX3_countsAs_95 (by decide) ?_
                exact xretR hx hb hr hlk dX3_countsAs_99 (by simp [sdN, c_8, c_18, c_34, c_47, c_77, c_91])
            ·
              replace c_77 := (nI_eq (a := lo (j + 1)) (b := 0) (by omega) (by omega)).mp c_77
              refine lv_iconst (v := nI 1) hx hb dX3_countsAs_80 (by decide) ?_
              refine lv_goto (tgt := 99) hx hb dX3_countsAs_81 (by decide) ?_
              exact xretR hx hb hr hlk dX3_countsAs_99 (by simp [sdN, c_8, c_18, c_34, c_47, c_77])
          · exact absurd (by decide) c_47
        ·
          replace c_34 := bI_n0.mp c_34
          refine lv_iload_n hx hb dX3_countsAs_37 rfl (lv_at hl 1 rfl) ?_
          refine lv_iconst (v := nI 1) hx hb dX3_countsAs_38 (by decide) ?_
          refine lv_isub hx hb dX3_countsAs_39 ?_
          refine xtop (x' := nI j) (by exact pk_m1s j) ?_
          refine lv_goto (tgt := 45) hx hb dX3_countsAs_40 (by decide) ?_
          refine lv_istore_n (lv' := [(2, .int (nI j)), (0, .ref (ad 0)), (1, .int (nI (j + 1)))]) hx hb dX3_countsAs_45 rfl hl (by decide) rfl (fun ls hl => ?_)
          refine lv_iload_n hx hb dX3_countsAs_46 rfl (lv_at hl 0 rfl) ?_
          refine lv_if_lt (tgt := 71) hx hb dX3_countsAs_47 (by decide) (fun c_47 => ?_) (fun c_47 => ?_)
          · exact absurd c_47 (nI_nn (by omega))
          ·
            refine lv_aload_n hx hb dX3_countsAs_50 rfl (lv_at hl 1 rfl) ?_
            refine va_get (D := D) (ci := 3) (v := .ref (ad 2)) (C := RX3) (T := TX3) (N := 23) hx hb yX3 (fun _ h => h) hown hG.1 hP 0 rfl rfl 4 (by decide) f13 (fun _ h => h) rfl dX3_countsAs_51 ?_
            refine lv_iload_n hx hb dX3_countsAs_54 rfl (lv_at hl 2 rfl) ?_
            refine xaldN hx hb hG hP 2 rfl (j + 1) rfl (by omega) (by decide) dX3_countsAs_55 ?_
            refine lv_aload_n hx hb dX3_countsAs_56 rfl (lv_at hl 1 rfl) ?_
            refine va_get (D := D) (ci := 3) (v := .ref (ad 2)) (C := RX3) (T := TX3) (N := 23) hx hb yX3 (fun _ h => h) hown hG.1 hP 0 rfl rfl 4 (by decide) f13 (fun _ h => h) rfl dX3_countsAs_57 ?_
            refine lv_iload_n hx hb dX3_countsAs_60 rfl (lv_at hl 0 rfl) ?_
            refine xaldN hx hb hG hP 2 rfl (j) rfl (by omega) (by decide) dX3_countsAs_61 ?_
            refine lv_icmp_ne (tgt := 69) hx hb dX3_countsAs_62 (by decide) (fun c_62 => ?_) (fun c_62 => ?_)
            ·
              replace c_62 := (not_congr (nI_eq (a := st (j + 1)) (b := st j) (by omega) (by omega))).mp c_62
              refine lv_iconst (v := nI 2) hx hb dX3_countsAs_69 (by decide) ?_
              exact xretR hx hb hr hlk dX3_countsAs_70 (by simp [sdN, c_8, c_18, c_34, c_47, c_62])
            ·
              replace c_62 := (nI_eq (a := st (j + 1)) (b := st j) (by omega) (by omega)).mp c_62
              refine lv_iconst (v := nI 1) hx hb dX3_countsAs_65 (by decide) ?_
              refine lv_goto (tgt := 70) hx hb dX3_countsAs_66 (by decide) ?_
              exact xretR hx hb hr hlk dX3_countsAs_70 (by simp [sdN, c_8, c_18, c_34, c_47, c_62])
    ·
      replace c_18 := bI_n0.mp c_18
      have hj1 : j + 1 < n := mtB_lt c_18
      refine lv_iload_n hx hb dX3_countsAs_21 rfl (lv_at hl 1 rfl) ?_
      refine lv_iconst (v := nI 1) hx hb dX3_countsAs_22 (by decide) ?_
      refine xaddN hx hb dX3_countsAs_23 ?_
      refine lv_goto (tgt := 45) hx hb dX3_countsAs_24 (by decide) ?_
      refine lv_istore_n (lv' := [(2, .int (nI (j + 1))), (0, .ref (ad 0)), (1, .int (nI j))]) hx hb dX3_countsAs_45 rfl hl (by decide) rfl (fun ls hl => ?_)
      refine lv_iload_n hx hb dX3_countsAs_46 rfl (lv_at hl 0 rfl) ?_
      refine lv_if_lt (tgt := 71) hx hb dX3_countsAs_47 (by decide) (fun c_47 => ?_) (fun c_47 => ?_)
      · exact absurd c_47 (nI_nn (by omega))
      ·
        refine lv_aload_n hx hb dX3_countsAs_50 rfl (lv_at hl 1 rfl) ?_
        refine va_get (D := D) (ci := 3) (v := .ref (ad 2)) (C := RX3) (T := TX3) (N := 23) hx hb yX3 (fun _ h => h) hown hG.1 hP 0 rfl rfl 4 (by decide) f13 (fun _ h => h) rfl dX3_countsAs_51 ?_
        refine lv_iload_n hx hb dX3_countsAs_54 rfl (lv_at hl 2 rfl) ?_
        refine xaldN hx hb hG hP 2 rfl (j) rfl (by omega) (by decide) dX3_countsAs_55 ?_
        refine lv_aload_n hx hb dX3_countsAs_56 rfl (lv_at hl 1 rfl) ?_
        refine va_get (D := D) (ci := 3) (v := .ref (ad 2)) (C := RX3) (T := TX3) (N := 23) hx hb yX3 (fun _ h => h) hown hG.1 hP 0 rfl rfl 4 (by decide) f13 (fun _ h => h) rfl dX3_countsAs_57 ?_
        refine lv_iload_n hx hb dX3_countsAs_60 rfl (lv_at hl 0 rfl) ?_
        refine xaldN hx hb hG hP 2 rfl (j + 1) rfl (by omega) (by decide) dX3_countsAs_61 ?_
        refine lv_icmp_ne (tgt := 69) hx hb dX3_countsAs_62 (by decide) (fun c_62 => ?_) (fun c_62 => ?_)
        ·
          replace c_62 := (not_congr (nI_eq (a := st j) (b := st (j + 1)) (by omega) (by omega))).mp c_62
          refine lv_iconst (v := nI 2) hx hb dX3_countsAs_69 (by decide) ?_
          exact xretR hx hb hr hlk dX3_countsAs_70 (by simp [sdN, c_8, c_18, c_47, c_62])
        ·
          replace c_62 := (nI_eq (a := st j) (b := st (j + 1)) (by omega) (by omega)).mp c_62
          refine lv_iconst (v := nI 1) hx hb dX3_countsAs_65 (by decide) ?_
          refine lv_goto (tgt := 70) hx hb dX3_countsAs_66 (by decide) ?_
          exact xretR hx hb hr hlk dX3_countsAs_70 (by simp [sdN, c_8, c_18, c_47, c_62])
  ·
    replace c_8 := bI_n0.mp c_8
    refine lv_iconst (v := nI 0) hx hb dX3_countsAs_11 (by decide) ?_
    exact xretR hx hb hr hlk dX3_countsAs_12 (by simp [sdN, c_8])

set_option maxHeartbeats 4000000 in
set_option maxRecDepth 100000 in
theorem c_X3_ofChair (l : Launch) (D : va_G) (cI cS : ClassId) (ad : Nat → Nat) (fa : Nat) (n : Nat) (fo : Nat) (ki : Nat → Nat) (st : Nat → Nat) (we : Nat → Nat) (lo : Nat → Nat) (ra : Nat) (rch : Nat) (q0 : Nat → Int32) (q1 : Nat → Int32) (q2 : Nat → Int32) (q3 : Nat → Int32) (fk : Nat) (fc : Nat → Nat) (rd : Nat) (rc : Nat → Nat) (rv : Nat → Nat) (sh : Nat → Bool) (sle : Nat → Nat) (sla : Nat → Nat) (bg : Nat → Int32) (hd : Nat → Int32) (tr : Int32) (k : Int32) (what : Int32) (hn : n ≤ 8) (hfo : fo < 256) (hki : ∀ j, ki j ≤ 2) (hwe : ∀ j, we j ≤ 9) (hst : ∀ j, st j ≤ 3) (hlo : ∀ j, lo j ≤ 3) : Met l yX3_ofChair wsX3_ofChair ({ frames := 3, cells := 0, slots := 0, locals := 65 }) (PR D cI cS [.ref (ad 0), .int k, .int what] (wM cI ad fa n fo ki st we lo ra rch q0 q1 q2 q3 fk fc rd rc rv sh sle sla bg hd tr)) (vp_Si (fun r => r = A_ofChair n fo ki st we lo k what)) 0 0 (fun _ => False) := by
  refine startR (by decide) rfl (Nat.le_of_ble_eq_true rfl) ?_
  intro p e s m below meth c hx hb hr hts hown hlk hml hG hP ls hl
  have hl : lv_has ls 3 [(0, .ref (ad 0)), (1, .int k), (2, .int what)] := hl
  have f7 := hts (.fieldLink RX3 7 "ChairBallotModel" "kindOf" "[I") (by decide +kernel)
  have f13 := hts (.fieldLink RX3 13 "ChairBallotModel" "stripeOf" "[I") (by decide +kernel)
  have f16 := hts (.fieldLink RX3 16 "ChairBallotModel" "weightOf" "[I") (by decide +kernel)
  have f19 := hts (.fieldLink RX3 19 "ChairBallotModel" "facesOf" "[I") (by decide +kernel)
  have f114 := hts (.fieldLink RX3 114 "ChairBallotModel" "folded" "I") (by decide +kernel)
  have yX3 : ∀ w ∈ u_ws RX3 TX3 23, w.before _ s = true := fun w h => hts w ((by decide +kernel : ∀ w ∈ wsX30, w ∈ wsX3_ofChair) w h)
  have hF : CallFix p m c cX3_ofChair 3 s _ wsX3_ofChair RX3 := ⟨hx, hb, hml, hown, hts⟩
  refine lv_aload_n hx hb dX3_ofChair_0 rfl (lv_at hl 0 rfl) ?_
  refine lv_iload_n hx hb dX3_ofChair_1 rfl (lv_at hl 1 rfl) ?_
  refine xrd (va_runV (As := [.int k]) (rest := []) hF (c_X3_noChair l D cI cS ad fa n fo ki st we lo ra rch q0 q1 q2 q3 fk fc rd rc rv sh sle sla bg hd tr k (by first | assumption | omega)) (cwV 1 hts gX3_ofChair_X3_noChair rfl rfl rfl hV_X3_noChair ⟨Nat.le_of_ble_eq_true rfl, Nat.le_of_ble_eq_true rfl⟩) (PR.preV hG hP (ci := 3) rfl rfl) rfl rfl hl.1 rfl (lv_room (Nat.le_of_ble_eq_true rfl)) dX3_ofChair_2 ⟨Nat.le_refl _, Nat.le_refl _⟩) ?_
  refine lv_if_eq (tgt := 10) hx hb dX3_ofChair_5 (by decide) (fun c_5 => ?_) (fun c_5 => ?_)
  ·
    replace c_5 := bI_0.mp c_5
    replace c_5 := (by simpa using c_5 : (hasB n k) = true)
    obtain ⟨j, hj, rfl⟩ := hasB_t c_5
    have hclj := cl8 (j := j) (by omega)
    refine lv_iload_n hx hb dX3_ofChair_10 rfl (lv_at hl 2 rfl) ?_
    by_cases c_11_0 : what = nI 0
    ·
      refine lv_tableIn (off := 41) (tgt := 52) hx hb dX3_ofChair_11 (by rw [c_11_0]; decide) (by rw [c_11_0]; decide) (by rw [c_11_0]; decide) (by decide) ?_
      refine lv_aload_n hx hb dX3_ofChair_52 rfl (lv_at hl 0 rfl) ?_
      refine va_get (D := D) (ci := 3) (v := .ref (ad 1)) (C := RX3) (T := TX3) (N := 23) hx hb yX3 (fun _ h => h) hown hG.1 hP 0 rfl rfl 3 (by decide) f7 (fun _ h => h) rfl dX3_ofChair_53 ?_
      refine lv_iload_n hx hb dX3_ofChair_56 rfl (lv_at hl 1 rfl) ?_
      refine xaldN hx hb hG hP 1 rfl (j) rfl (by omega) (by decide) dX3_ofChair_57 ?_
      exact xretR hx hb hr hlk dX3_ofChair_58 (by simp [A_ofChair, nIeq, bI_true, bI_false, c_5, hclj, c_11_0])
    by_cases c_11_1 : what = nI 1
    ·
      refine lv_tableIn (off := 48) (tgt := 59) hx hb dX3_ofChair_11 (by rw [c_11_1]; decide) (by rw [c_11_1]; decide) (by rw [c_11_1]; decide) (by decide) ?_
      refine lv_aload_n hx hb dX3_ofChair_59 rfl (lv_at hl 0 rfl) ?_
      refine va_get (D := D) (ci := 3) (v := .ref (ad 2)) (C := RX3) (T := TX3) (N := 23) hx hb yX3 (fun _ h => h) hown hG.1 hP 0 rfl rfl 4 (by decide) f13 (fun _ h => h) rfl dX3_ofChair_60 ?_
      refine lv_iload_n hx hb dX3_ofChair_63 rfl (lv_at hl 1 rfl) ?_
      refine xaldN hx hb hG hP 2 rfl (j) rfl (by omega) (by decide) dX3_ofChair_64 ?_
      exact xretR hx hb hr hlk dX3_ofChair_65 (by simp [A_ofChair, nIeq, bI_true, bI_false, c_5, hclj, c_11_1])
    by_cases c_11_2 : what = nI 2
    ·
      refine lv_tableIn (off := 55) (tgt := 66) hx hb dX3_ofChair_11 (by rw [c_11_2]; decide) (by rw [c_11_2]; decide) (by rw [c_11_2]; decide) (by decide) ?_
      refine lv_aload_n hx hb dX3_ofChair_66 rfl (lv_at hl 0 rfl) ?_
      refine va_get (D := D) (ci := 3) (v := .ref (ad 3)) (C := RX3) (T := TX3) (N := 23) hx hb yX3 (fun _ h => h) hown hG.1 hP 0 rfl rfl 5 (by decide) f16 (fun _ h => h) rfl dX3_ofChair_67 ?_
      refine lv_iload_n hx hb dX3_ofChair_70 rfl (lv_at hl 1 rfl) ?_
      refine xaldN hx hb hG hP 3 rfl (j) rfl (by omega) (by decide) dX3_ofChair_71 ?_
      exact xretR hx hb hr hlk dX3_ofChair_72 (by simp [A_ofChair, nIeq, bI_true, bI_false, c_5, hclj, c_11_2])
    by_cases c_11_3 : what = nI 3
    ·
      refine lv_tableIn (off := 62) (tgt := 73) hx hb dX3_ofChair_11 (by rw [c_11_3]; decide) (by rw [c_11_3]; decide) (by rw [c_11_3]; decide) (by decide) ?_
      refine lv_aload_n hx hb dX3_ofChair_73 rfl (lv_at hl 0 rfl) ?_
      refine va_get (D := D) (ci := 3) (v := .ref (ad 4)) (C := RX3) (T := TX3) (N := 23) hx hb yX3 (fun _ h => h) hown hG.1 hP 0 rfl rfl 6 (by decide) f19 (fun _ h => h) rfl dX3_ofChair_74 ?_
      refine lv_iload_n hx hb dX3_ofChair_77 rfl (lv_at hl 1 rfl) ?_
      refine xaldN hx hb hG hP 4 rfl (j) rfl (by omega) (by decide) dX3_ofChair_78 ?_
      exact xretR hx hb hr hlk dX3_ofChair_79 (by simp [A_ofChair, nIeq, bI_true, bI_false, c_5, hclj, c_11_3])
    by_cases c_11_4 : what = nI 4
    ·
      refine lv_tableIn (off := 69) (tgt := 80) hx hb dX3_ofChair_11 (by rw [c_11_4]; decide) (by rw [c_11_4]; decide) (by rw [c_11_4]; decide) (by decide) ?_
      refine lv_aload_n hx hb dX3_ofChair_80 rfl (lv_at hl 0 rfl) ?_
      refine va_get (D := D) (ci := 3) (v := .int (nI fo)) (C := RX3) (T := TX3) (N := 23) hx hb yX3 (fun _ h => h) hown hG.1 hP 0 rfl rfl 2 (by decide) f114 (fun _ h => h) rfl dX3_ofChair_81 ?_
      refine lv_iload_n hx hb dX3_ofChair_84 rfl (lv_at hl 1 rfl) ?_
      refine lv_ishr hx hb dX3_ofChair_85 ?_
      refine lv_iconst (v := nI 1) hx hb dX3_ofChair_86 (by decide) ?_
      refine lv_iand hx hb dX3_ofChair_87 ?_
      refine xtop (x' := bI (fo.testBit j)) (by exact bit_b fo hfo j (by omega)) ?_
      exact xretR hx hb hr hlk dX3_ofChair_88 (by simp [A_ofChair, nIeq, bI_true, bI_false, c_5, hclj, c_11_4])
    by_cases c_11_5 : what = nI 5
    ·
      refine lv_tableIn (off := 78) (tgt := 89) hx hb dX3_ofChair_11 (by rw [c_11_5]; decide) (by rw [c_11_5]; decide) (by rw [c_11_5]; decide) (by decide) ?_
      refine lv_aload_n hx hb dX3_ofChair_89 rfl (lv_at hl 0 rfl) ?_
      refine lv_iload_n hx hb dX3_ofChair_90 rfl (lv_at hl 1 rfl) ?_
      refine xrd (va_runV (As := [.int (nI j)]) (rest := []) hF (c_X3_votesOf l D cI cS ad fa n fo ki st we lo ra rch q0 q1 q2 q3 fk fc rd rc rv sh sle sla bg hd tr j (by first | assumption | omega) (by first | assumption | omega) (by first | assumption | omega) (by first | assumption | omega) (by first | assumption | omega)) (cwV 1 hts gX3_ofChair_X3_votesOf rfl rfl rfl hV_X3_votesOf ⟨Nat.le_of_ble_eq_true rfl, Nat.le_of_ble_eq_true rfl⟩) (PR.preV hG hP (ci := 3) rfl rfl) rfl rfl hl.1 rfl (lv_room (Nat.le_of_ble_eq_true rfl)) dX3_ofChair_91 ⟨Nat.le_refl _, Nat.le_refl _⟩) ?_
      exact xretR hx hb hr hlk dX3_ofChair_94 (by simp [A_ofChair, nIeq, bI_true, bI_false, c_5, hclj, c_11_5])
    by_cases c_11_6 : what = nI 6
    ·
      refine lv_tableIn (off := 84) (tgt := 95) hx hb dX3_ofChair_11 (by rw [c_11_6]; decide) (by rw [c_11_6]; decide) (by rw [c_11_6]; decide) (by decide) ?_
      refine lv_aload_n hx hb dX3_ofChair_95 rfl (lv_at hl 0 rfl) ?_
      refine lv_iload_n hx hb dX3_ofChair_96 rfl (lv_at hl 1 rfl) ?_
      refine xrd (va_runV (As := [.int (nI j)]) (rest := []) hF (c_X3_countsAs l D cI cS ad fa n fo ki st we lo ra rch q0 q1 q2 q3 fk fc rd rc rv sh sle sla bg hd tr j (by first | assumption | omega) (by first | assumption | omega) (by first | assumption | omega) (by first | assumption | omega) (by first | assumption | omega)) (cwV 1 hts gX3_ofChair_X3_countsAs rfl rfl rfl hV_X3_countsAs ⟨Nat.le_of_ble_eq_true rfl, Nat.le_of_ble_eq_true rfl⟩) (PR.preV hG hP (ci := 3) rfl rfl) rfl rfl hl.1 rfl (lv_room (Nat.le_of_ble_eq_true rfl)) dX3_ofChair_97 ⟨Nat.le_refl _, Nat.le_refl _⟩) ?_
      exact xretR hx hb hr hlk dX3_ofChair_100 (by simp [A_ofChair, nIeq, bI_true, bI_false, c_5, hclj, c_11_6])
    refine lv_tableOut (tgt := 101) hx hb dX3_ofChair_11 (by exact xtabN (N := 7) (by decide) (fun j hj => by match j, hj with | 0, _ => exact c_11_0 | 1, _ => exact c_11_1 | 2, _ => exact c_11_2 | 3, _ => exact c_11_3 | 4, _ => exact c_11_4 | 5, _ => exact c_11_5 | 6, _ => exact c_11_6)) (by decide) ?_
    refine lv_bipush (v := (-2)) hx hb dX3_ofChair_101 (by decide) ?_
    exact xretR hx hb hr hlk dX3_ofChair_103 (by simp [A_ofChair, nIeq, bI_true, bI_false, c_5, hclj, c_11_0, c_11_1, c_11_2, c_11_3, c_11_4, c_11_5, c_11_6])
  ·
    replace c_5 := bI_n0.mp c_5
    replace c_5 := (by simpa using c_5 : (hasB n k) = false)
    refine lv_iconst (v := (-1)) hx hb dX3_ofChair_8 (by decide) ?_
    exact xretR hx hb hr hlk dX3_ofChair_9 (by simp [A_ofChair, nIeq, bI_true, bI_false, c_5])

set_option maxHeartbeats 4000000 in
set_option maxRecDepth 100000 in
theorem c_X3_paint (l : Launch) (D : va_G) (cI cS : ClassId) (ad : Nat → Nat) (fa : Nat) (n : Nat) (fo : Nat) (ki : Nat → Nat) (st : Nat → Nat) (we : Nat → Nat) (lo : Nat → Nat) (ra : Nat) (rch : Nat) (q0 : Nat → Int32) (q1 : Nat → Int32) (q2 : Nat → Int32) (q3 : Nat → Int32) (fk : Nat) (fc : Nat → Nat) (rd : Nat) (rc : Nat → Nat) (rv : Nat → Nat) (sh : Nat → Bool) (sle : Nat → Nat) (sla : Nat → Nat) (bg : Nat → Int32) (hd : Nat → Int32) (tr : Int32) (k : Int32) (v : Int32) (hnd : nd (adM ad)) (hn : n ≤ 8) (hst : ∀ j, st j ≤ 3) : Met l yX3_paint wsX3_paint ({ frames := 2, cells := 0, slots := 0, locals := 46 }) (PR D cI cS [.ref (ad 0), .int k, .int v] (wM cI ad fa n fo ki st we lo ra rch q0 q1 q2 q3 fk fc rd rc rv sh sle sla bg hd tr)) (va_Qi (fun r (zz : Unit) => r = A_paint n st k v) (fun (zz : Unit) t => va_P D vwCl (wM cI ad fa n fo ki (S_paint n st k v) we lo ra rch q0 q1 q2 q3 fk fc rd rc rv sh sle sla bg hd tr) t.heap) (AW (adM ad))) 0 0 (AW (adM ad)) := by
  refine startM (by decide) rfl (Nat.le_of_ble_eq_true rfl) hnd rfl ?_
  intro p e s m below meth c hx hb hr hts hown hlk hml hG hP hD hS ls hl
  have hl : lv_has ls 4 [(0, .ref (ad 0)), (1, .int k), (2, .int v)] := hl
  have f13 := hts (.fieldLink RX3 13 "ChairBallotModel" "stripeOf" "[I") (by decide +kernel)
  have yX3 : ∀ w ∈ u_ws RX3 TX3 23, w.before _ s = true := fun w h => hts w ((by decide +kernel : ∀ w ∈ wsX30, w ∈ wsX3_paint) w h)
  have hF : CallFix p m c cX3_paint 4 s _ wsX3_paint RX3 := ⟨hx, hb, hml, hown, hts⟩
  refine lv_aload_n hx hb dX3_paint_0 rfl (lv_at hl 0 rfl) ?_
  refine lv_iload_n hx hb dX3_paint_1 rfl (lv_at hl 1 rfl) ?_
  refine xrd (va_runV (As := [.int k]) (rest := []) hF (c_X3_noChair l D cI cS ad fa n fo ki st we lo ra rch q0 q1 q2 q3 fk fc rd rc rv sh sle sla bg hd tr k (by first | assumption | omega)) (cwV 1 hts gX3_paint_X3_noChair rfl rfl rfl hV_X3_noChair ⟨Nat.le_of_ble_eq_true rfl, Nat.le_of_ble_eq_true rfl⟩) (PR.preV hG hP (ci := 3) rfl rfl) rfl rfl hl.1 rfl (lv_room (Nat.le_of_ble_eq_true rfl)) dX3_paint_2 ⟨Nat.le_refl _, Nat.le_refl _⟩) ?_
  refine lv_if_eq (tgt := 10) hx hb dX3_paint_5 (by decide) (fun c_5 => ?_) (fun c_5 => ?_)
  ·
    replace c_5 := bI_0.mp c_5
    replace c_5 := (by simpa using c_5 : (hasB n k) = true)
    obtain ⟨j, hj, rfl⟩ := hasB_t c_5
    have hclj := cl8 (j := j) (by omega)
    refine lv_iload_n hx hb dX3_paint_10 rfl (lv_at hl 2 rfl) ?_
    refine lv_i2l (v := v.toInt64) hx hb dX3_paint_11 rfl ?_
    refine lv_lconst (v := lN 0) hx hb dX3_paint_12 rfl ?_
    refine lv_ldc2 (v := 3) hx hb hown (hts (.constantLong RX3 138 (3)) (by decide +kernel)) dX3_paint_13 ?_
    refine xtopl (x' := lN 3) rfl ?_
    refine xrd (va_runS (As := [.long v.toInt64, .long (lN 0), .long (lN 3)]) (rest := []) hF (c_X3_in l D cI cS v 0 3 (by first | assumption | omega) (by first | assumption | omega)) (va_cwS 3 hts gX3_paint_X3_in rfl rfl rfl hD_X3_in ⟨Nat.le_of_ble_eq_true rfl, Nat.le_of_ble_eq_true rfl⟩) (PR.pre hG (hP.sub (ws' := []) [] rfl)) rfl rfl hl.1 rfl (lv_room (Nat.le_of_ble_eq_true rfl)) dX3_paint_16 ⟨Nat.le_refl _, Nat.le_refl _⟩) ?_
    refine xtop (x' := bI (rgB 0 3 v)) rfl ?_
    refine lv_if_ne (tgt := 25) hx hb dX3_paint_19 (by decide) (fun c_19 => ?_) (fun c_19 => ?_)
    ·
      replace c_19 := bI_n0.mp c_19
      obtain ⟨w, hw0, hw1, rfl⟩ := rgB_nat (by decide) c_19
      have hclw := cl8 (j := w) (by omega)
      refine lv_aload_n hx hb dX3_paint_25 rfl (lv_at hl 0 rfl) ?_
      refine va_get (D := D) (ci := 3) (v := .ref (ad 2)) (C := RX3) (T := TX3) (N := 23) hx hb yX3 (fun _ h => h) hown hG.1 hP 0 rfl rfl 4 (by decide) f13 (fun _ h => h) rfl dX3_paint_26 ?_
      refine lv_iload_n hx hb dX3_paint_29 rfl (lv_at hl 1 rfl) ?_
      refine xaldN hx hb hG hP 2 rfl (j) rfl (by omega) (by decide) dX3_paint_30 ?_
      refine lv_istore_n (lv' := [(3, .int (nI (st j))), (0, .ref (ad 0)), (1, .int (nI j)), (2, .int (nI w))]) hx hb dX3_paint_31 rfl hl (by decide) rfl (fun ls hl => ?_)
      refine lv_aload_n hx hb dX3_paint_32 rfl (lv_at hl 1 rfl) ?_
      refine va_get (D := D) (ci := 3) (v := .ref (ad 2)) (C := RX3) (T := TX3) (N := 23) hx hb yX3 (fun _ h => h) hown hG.1 hP 0 rfl rfl 4 (by decide) f13 (fun _ h => h) rfl dX3_paint_33 ?_
      refine lv_iload_n hx hb dX3_paint_36 rfl (lv_at hl 2 rfl) ?_
      refine lv_iload_n hx hb dX3_paint_37 rfl (lv_at hl 3 rfl) ?_
      refine xastN hx hb hG hP hD hS 2 rfl (j) (w) rfl rfl (by omega) (by decide) dX3_paint_38 (fun H locs hP hD hS => ?_)
      have hP : va_P D vwCl (wM cI ad fa n fo ki (updN st j w) we lo ra rch q0 q1 q2 q3 fk fc rd rc rv sh sle sla bg hd tr) H := hP
      have hD : va_D (AW (adM ad)) (wM cI ad fa n fo ki (updN st j w) we lo ra rch q0 q1 q2 q3 fk fc rd rc rv sh sle sla bg hd tr) := hD
      refine lv_iload_n hx hb dX3_paint_39 rfl (lv_at hl 0 rfl) ?_
      exact xretM hx hb hr hlk dX3_paint_40 hS () (by simp [A_paint, c_5, hclj, c_19, hclw]) (fun t ht => by rw [ht]; rw [show S_paint n st (nI j) (nI w) = (updN st j w) from by simp [S_paint, c_5, hclj, c_19, hclw]]; exact hP)
    ·
      replace c_19 := bI_0.mp c_19
      refine lv_bipush (v := (-2)) hx hb dX3_paint_22 (by decide) ?_
      exact xretM hx hb hr hlk dX3_paint_24 hS () (by simp [A_paint, c_5, hclj, c_19]) (fun t ht => by rw [ht]; rw [show S_paint n st (nI j) v = st from by simp [S_paint, c_5, hclj, c_19]]; exact hP)
  ·
    replace c_5 := bI_n0.mp c_5
    replace c_5 := (by simpa using c_5 : (hasB n k) = false)
    refine lv_iconst (v := (-1)) hx hb dX3_paint_8 (by decide) ?_
    exact xretM hx hb hr hlk dX3_paint_9 hS () (by simp [A_paint, c_5]) (fun t ht => by rw [ht]; rw [show S_paint n st k v = st from by simp [S_paint, c_5]]; exact hP)

set_option maxHeartbeats 4000000 in
set_option maxRecDepth 100000 in
theorem c_X3_load (l : Launch) (D : va_G) (cI cS : ClassId) (ad : Nat → Nat) (fa : Nat) (n : Nat) (fo : Nat) (ki : Nat → Nat) (st : Nat → Nat) (we : Nat → Nat) (lo : Nat → Nat) (ra : Nat) (rch : Nat) (q0 : Nat → Int32) (q1 : Nat → Int32) (q2 : Nat → Int32) (q3 : Nat → Int32) (fk : Nat) (fc : Nat → Nat) (rd : Nat) (rc : Nat → Nat) (rv : Nat → Nat) (sh : Nat → Bool) (sle : Nat → Nat) (sla : Nat → Nat) (bg : Nat → Int32) (hd : Nat → Int32) (tr : Int32) (k : Int32) (v : Int32) (hnd : nd (adM ad)) (hn : n ≤ 8) (hwe : ∀ j, we j ≤ 9) : Met l yX3_load wsX3_load ({ frames := 2, cells := 0, slots := 0, locals := 46 }) (PR D cI cS [.ref (ad 0), .int k, .int v] (wM cI ad fa n fo ki st we lo ra rch q0 q1 q2 q3 fk fc rd rc rv sh sle sla bg hd tr)) (va_Qi (fun r (zz : Unit) => r = A_load n we k v) (fun (zz : Unit) t => va_P D vwCl (wM cI ad fa n fo ki st (S_load n we k v) lo ra rch q0 q1 q2 q3 fk fc rd rc rv sh sle sla bg hd tr) t.heap) (AW (adM ad))) 0 0 (AW (adM ad)) := by
  refine startM (by decide) rfl (Nat.le_of_ble_eq_true rfl) hnd rfl ?_
  intro p e s m below meth c hx hb hr hts hown hlk hml hG hP hD hS ls hl
  have hl : lv_has ls 4 [(0, .ref (ad 0)), (1, .int k), (2, .int v)] := hl
  have f16 := hts (.fieldLink RX3 16 "ChairBallotModel" "weightOf" "[I") (by decide +kernel)
  have yX3 : ∀ w ∈ u_ws RX3 TX3 23, w.before _ s = true := fun w h => hts w ((by decide +kernel : ∀ w ∈ wsX30, w ∈ wsX3_load) w h)
  have hF : CallFix p m c cX3_load 4 s _ wsX3_load RX3 := ⟨hx, hb, hml, hown, hts⟩
  refine lv_aload_n hx hb dX3_load_0 rfl (lv_at hl 0 rfl) ?_
  refine lv_iload_n hx hb dX3_load_1 rfl (lv_at hl 1 rfl) ?_
  refine xrd (va_runV (As := [.int k]) (rest := []) hF (c_X3_noChair l D cI cS ad fa n fo ki st we lo ra rch q0 q1 q2 q3 fk fc rd rc rv sh sle sla bg hd tr k (by first | assumption | omega)) (cwV 1 hts gX3_load_X3_noChair rfl rfl rfl hV_X3_noChair ⟨Nat.le_of_ble_eq_true rfl, Nat.le_of_ble_eq_true rfl⟩) (PR.preV hG hP (ci := 3) rfl rfl) rfl rfl hl.1 rfl (lv_room (Nat.le_of_ble_eq_true rfl)) dX3_load_2 ⟨Nat.le_refl _, Nat.le_refl _⟩) ?_
  refine lv_if_eq (tgt := 10) hx hb dX3_load_5 (by decide) (fun c_5 => ?_) (fun c_5 => ?_)
  ·
    replace c_5 := bI_0.mp c_5
    replace c_5 := (by simpa using c_5 : (hasB n k) = true)
    obtain ⟨j, hj, rfl⟩ := hasB_t c_5
    have hclj := cl8 (j := j) (by omega)
    refine lv_iload_n hx hb dX3_load_10 rfl (lv_at hl 2 rfl) ?_
    refine lv_i2l (v := v.toInt64) hx hb dX3_load_11 rfl ?_
    refine lv_lconst (v := lN 1) hx hb dX3_load_12 rfl ?_
    refine lv_ldc2 (v := 9) hx hb hown (hts (.constantLong RX3 140 (9)) (by decide +kernel)) dX3_load_13 ?_
    refine xtopl (x' := lN 9) rfl ?_
    refine xrd (va_runS (As := [.long v.toInt64, .long (lN 1), .long (lN 9)]) (rest := []) hF (c_X3_in l D cI cS v 1 9 (by first | assumption | omega) (by first | assumption | omega)) (va_cwS 3 hts gX3_load_X3_in rfl rfl rfl hD_X3_in ⟨Nat.le_of_ble_eq_true rfl, Nat.le_of_ble_eq_true rfl⟩) (PR.pre hG (hP.sub (ws' := []) [] rfl)) rfl rfl hl.1 rfl (lv_room (Nat.le_of_ble_eq_true rfl)) dX3_load_16 ⟨Nat.le_refl _, Nat.le_refl _⟩) ?_
    refine xtop (x' := bI (rgB 1 9 v)) rfl ?_
    refine lv_if_ne (tgt := 25) hx hb dX3_load_19 (by decide) (fun c_19 => ?_) (fun c_19 => ?_)
    ·
      replace c_19 := bI_n0.mp c_19
      obtain ⟨w, hw0, hw1, rfl⟩ := rgB_nat (by decide) c_19
      have hclw := cl8 (j := w) (by omega)
      refine lv_aload_n hx hb dX3_load_25 rfl (lv_at hl 0 rfl) ?_
      refine va_get (D := D) (ci := 3) (v := .ref (ad 3)) (C := RX3) (T := TX3) (N := 23) hx hb yX3 (fun _ h => h) hown hG.1 hP 0 rfl rfl 5 (by decide) f16 (fun _ h => h) rfl dX3_load_26 ?_
      refine lv_iload_n hx hb dX3_load_29 rfl (lv_at hl 1 rfl) ?_
      refine xaldN hx hb hG hP 3 rfl (j) rfl (by omega) (by decide) dX3_load_30 ?_
      refine lv_istore_n (lv' := [(3, .int (nI (we j))), (0, .ref (ad 0)), (1, .int (nI j)), (2, .int (nI w))]) hx hb dX3_load_31 rfl hl (by decide) rfl (fun ls hl => ?_)
      refine lv_aload_n hx hb dX3_load_32 rfl (lv_at hl 1 rfl) ?_
      refine va_get (D := D) (ci := 3) (v := .ref (ad 3)) (C := RX3) (T := TX3) (N := 23) hx hb yX3 (fun _ h => h) hown hG.1 hP 0 rfl rfl 5 (by decide) f16 (fun _ h => h) rfl dX3_load_33 ?_
      refine lv_iload_n hx hb dX3_load_36 rfl (lv_at hl 2 rfl) ?_
      refine lv_iload_n hx hb dX3_load_37 rfl (lv_at hl 3 rfl) ?_
      refine xastN hx hb hG hP hD hS 3 rfl (j) (w) rfl rfl (by omega) (by decide) dX3_load_38 (fun H locs hP hD hS => ?_)
      have hP : va_P D vwCl (wM cI ad fa n fo ki st (updN we j w) lo ra rch q0 q1 q2 q3 fk fc rd rc rv sh sle sla bg hd tr) H := hP
      have hD : va_D (AW (adM ad)) (wM cI ad fa n fo ki st (updN we j w) lo ra rch q0 q1 q2 q3 fk fc rd rc rv sh sle sla bg hd tr) := hD
      refine lv_iload_n hx hb dX3_load_39 rfl (lv_at hl 0 rfl) ?_
      exact xretM hx hb hr hlk dX3_load_40 hS () (by simp [A_load, c_5, hclj, c_19, hclw]) (fun t ht => by rw [ht]; rw [show S_load n we (nI j) (nI w) = (updN we j w) from by simp [S_load, c_5, hclj, c_19, hclw]]; exact hP)
    ·
      replace c_19 := bI_0.mp c_19
      refine lv_bipush (v := (-2)) hx hb dX3_load_22 (by decide) ?_
      exact xretM hx hb hr hlk dX3_load_24 hS () (by simp [A_load, c_5, hclj, c_19]) (fun t ht => by rw [ht]; rw [show S_load n we (nI j) v = we from by simp [S_load, c_5, hclj, c_19]]; exact hP)
  ·
    replace c_5 := bI_n0.mp c_5
    replace c_5 := (by simpa using c_5 : (hasB n k) = false)
    refine lv_iconst (v := (-1)) hx hb dX3_load_8 (by decide) ?_
    exact xretM hx hb hr hlk dX3_load_9 hS () (by simp [A_load, c_5]) (fun t ht => by rw [ht]; rw [show S_load n we k v = we from by simp [S_load, c_5]]; exact hP)

set_option maxHeartbeats 4000000 in
set_option maxRecDepth 100000 in
theorem c_X3_whoIs (l : Launch) (D : va_G) (cI cS : ClassId) (ad : Nat → Nat) (fa : Nat) (n : Nat) (fo : Nat) (ki : Nat → Nat) (st : Nat → Nat) (we : Nat → Nat) (lo : Nat → Nat) (ra : Nat) (rch : Nat) (q0 : Nat → Int32) (q1 : Nat → Int32) (q2 : Nat → Int32) (q3 : Nat → Int32) (fk : Nat) (fc : Nat → Nat) (rd : Nat) (rc : Nat → Nat) (rv : Nat → Nat) (sh : Nat → Bool) (sle : Nat → Nat) (sla : Nat → Nat) (bg : Nat → Int32) (hd : Nat → Int32) (tr : Int32) (s1 : Nat) (hn : n ≤ 8) (hfo : fo < 256) (hst : ∀ j, st j ≤ 3) (hlo : ∀ j, lo j ≤ 3) (hs : s1 ≤ 2) : Met l yX3_whoIs wsX3_whoIs ({ frames := 3, cells := 0, slots := 0, locals := 65 }) (PR D cI cS [.ref (ad 0), .int (nI s1)] (wM cI ad fa n fo ki st we lo ra rch q0 q1 q2 q3 fk fc rd rc rv sh sle sla bg hd tr)) (vp_Si (fun r => r = nI (forS n fo st lo s1))) 0 0 (fun _ => False) := by
  refine startR (by decide) rfl (Nat.le_of_ble_eq_true rfl) ?_
  intro p e s m below meth c hx hb hr hts hown hlk hml hG hP ls hl
  have hl : lv_has ls 4 [(0, .ref (ad 0)), (1, .int (nI s1))] := hl
  have f65 := hts (.fieldLink RX3 65 "ChairBallotModel" "chairs" "I") (by decide +kernel)
  have yX3 : ∀ w ∈ u_ws RX3 TX3 23, w.before _ s = true := fun w h => hts w ((by decide +kernel : ∀ w ∈ wsX30, w ∈ wsX3_whoIs) w h)
  have hF : CallFix p m c cX3_whoIs 4 s _ wsX3_whoIs RX3 := ⟨hx, hb, hml, hown, hts⟩
  refine lv_iconst (v := nI 0) hx hb dX3_whoIs_0 (by decide) ?_
  refine lv_istore_n (lv' := [(2, .int (nI 0)), (0, .ref (ad 0)), (1, .int (nI s1))]) hx hb dX3_whoIs_1 rfl hl (by decide) rfl (fun ls hl => ?_)
  refine lv_iconst (v := nI 0) hx hb dX3_whoIs_2 (by decide) ?_
  refine lv_istore_n (lv' := [(3, .int (nI 0)), (2, .int (nI 0)), (0, .ref (ad 0)), (1, .int (nI s1))]) hx hb dX3_whoIs_3 rfl hl (by decide) rfl (fun ls hl => ?_)
  have K4 : ∀ (fuel : Nat) (i : Nat) (x2 : Int32), x2 = nI (setN (fun j => decide (sdN n fo st lo j = s1)) i) → (i ≤ n) → (n - i) < fuel → ∀ ls : Array Slot, lv_has ls 4 [(3, .int (nI i)), (2, .int x2), (0, .ref (ad 0)), (1, .int (nI s1))] → W p l e ({ frames := 3, cells := 0, slots := 0, locals := 65 }) s m (([.ref (ad 0), .int (nI s1)] : List Value).toArray) below meth c s.heap [] 0 0 (MQ below (vp_Si (fun r => r = nI (forS n fo st lo s1))) (([.ref (ad 0), .int (nI s1)] : List Value).toArray) s 0 0 (fun _ => False)) (F0 m 4 ls []) := by
    intro fuel
    induction fuel with
    | zero => intro i x2 e_x2 hi hmu; exact absurd hmu (Nat.not_lt_zero _)
    | succ fuel ih =>
      intro i x2 e_x2 hi hmu ls hl
      subst e_x2
      have hs2 := sdN_le n fo st lo i
      refine lv_iload_n hx hb dX3_whoIs_4 rfl (lv_at hl 0 rfl) ?_
      refine lv_aload_n hx hb dX3_whoIs_5 rfl (lv_at hl 2 rfl) ?_
      refine va_get (D := D) (ci := 3) (v := .int (nI n)) (C := RX3) (T := TX3) (N := 23) hx hb yX3 (fun _ h => h) hown hG.1 hP 0 rfl rfl 1 (by decide) f65 (fun _ h => h) rfl dX3_whoIs_6 ?_
      refine lv_icmp_ge (tgt := 37) hx hb dX3_whoIs_9 (by decide) (fun c_9 => ?_) (fun c_9 => ?_)
      ·
        replace c_9 := (nI_leI (a := n) (b := i) (by omega) (by omega)).mp c_9
        have hin : n = i := by omega
        subst hin
        refine lv_iload_n hx hb dX3_whoIs_37 rfl (lv_at hl 1 rfl) ?_
        exact xretR hx hb hr hlk dX3_whoIs_38 (by rfl)
      ·
        replace c_9 := (not_congr (nI_leI (a := n) (b := i) (by omega) (by omega))).mp c_9
        refine lv_iload_n hx hb dX3_whoIs_12 rfl (lv_at hl 1 rfl) ?_
        refine lv_aload_n hx hb dX3_whoIs_13 rfl (lv_at hl 2 rfl) ?_
        refine lv_iload_n hx hb dX3_whoIs_14 rfl (lv_at hl 0 rfl) ?_
        refine xrd (va_runV (As := [.int (nI i)]) (rest := [.int (nI (setN (fun j => decide (sdN n fo st lo j = s1)) i))]) hF (c_X3_countsAs l D cI cS ad fa n fo ki st we lo ra rch q0 q1 q2 q3 fk fc rd rc rv sh sle sla bg hd tr i (by first | assumption | omega) (by first | assumption | omega) (by first | assumption | omega) (by first | assumption | omega) (by first | assumption | omega)) (cwV 1 hts gX3_whoIs_X3_countsAs rfl rfl rfl hV_X3_countsAs ⟨Nat.le_of_ble_eq_true rfl, Nat.le_of_ble_eq_true rfl⟩) (PR.preV hG hP (ci := 3) rfl rfl) rfl rfl hl.1 rfl (lv_room (Nat.le_of_ble_eq_true rfl)) dX3_whoIs_15 ⟨Nat.le_refl _, Nat.le_refl _⟩) ?_
        refine lv_iload_n hx hb dX3_whoIs_18 rfl (lv_at hl 3 rfl) ?_
        refine lv_icmp_ne (tgt := 28) hx hb dX3_whoIs_19 (by decide) (fun c_19 => ?_) (fun c_19 => ?_)
        ·
          replace c_19 := (not_congr (nI_eq (a := sdN n fo st lo i) (b := s1) (by omega) (by omega))).mp c_19
          refine lv_iconst (v := nI 0) hx hb dX3_whoIs_28 (by decide) ?_
          refine lv_ior hx hb dX3_whoIs_29 ?_
          refine xtop (x' := nI ((setN (fun j => decide (sdN n fo st lo j = s1)) i) ||| 0)) (nI_or _ _) ?_
          refine lv_istore_n (lv' := [(2, .int (nI ((setN (fun j => decide (sdN n fo st lo j = s1)) i) ||| 0))), (3, .int (nI i)), (0, .ref (ad 0)), (1, .int (nI s1))]) hx hb dX3_whoIs_30 rfl hl (by decide) rfl (fun ls hl => ?_)
          refine lv_iinc (v := nI (i + 1)) (lv' := [(3, .int (nI (i + 1))), (2, .int (nI ((setN (fun j => decide (sdN n fo st lo j = s1)) i) ||| 0))), (0, .ref (ad 0)), (1, .int (nI s1))]) hx hb dX3_whoIs_31 hl (k := 1) rfl xinc1 (by decide) rfl (fun ls hl => ?_)
          refine lv_goto (tgt := 4) hx hb dX3_whoIs_34 (by decide) ?_
          exact ih (i + 1) (nI ((setN (fun j => decide (sdN n fo st lo j = s1)) i) ||| 0)) (by simp [setN, c_9, c_19]) (by omega) (by omega) ls (lv_sub hl [0, 1, 2, 3] rfl)
        ·
          replace c_19 := (nI_eq (a := sdN n fo st lo i) (b := s1) (by omega) (by omega)).mp c_19
          refine lv_iconst (v := nI 1) hx hb dX3_whoIs_22 (by decide) ?_
          refine lv_iload_n hx hb dX3_whoIs_23 rfl (lv_at hl 0 rfl) ?_
          refine lv_ishl hx hb dX3_whoIs_24 ?_
          refine xtop (x' := nI (2 ^ i)) (by exact shl1 i (by omega)) ?_
          refine lv_goto (tgt := 29) hx hb dX3_whoIs_25 (by decide) ?_
          refine lv_ior hx hb dX3_whoIs_29 ?_
          refine xtop (x' := nI ((setN (fun j => decide (sdN n fo st lo j = s1)) i) ||| (2 ^ i))) (nI_or _ _) ?_
          refine lv_istore_n (lv' := [(2, .int (nI ((setN (fun j => decide (sdN n fo st lo j = s1)) i) ||| (2 ^ i)))), (3, .int (nI i)), (0, .ref (ad 0)), (1, .int (nI s1))]) hx hb dX3_whoIs_30 rfl hl (by decide) rfl (fun ls hl => ?_)
          refine lv_iinc (v := nI (i + 1)) (lv' := [(3, .int (nI (i + 1))), (2, .int (nI ((setN (fun j => decide (sdN n fo st lo j = s1)) i) ||| (2 ^ i)))), (0, .ref (ad 0)), (1, .int (nI s1))]) hx hb dX3_whoIs_31 hl (k := 1) rfl xinc1 (by decide) rfl (fun ls hl => ?_)
          refine lv_goto (tgt := 4) hx hb dX3_whoIs_34 (by decide) ?_
          exact ih (i + 1) (nI ((setN (fun j => decide (sdN n fo st lo j = s1)) i) ||| (2 ^ i))) (by simp [setN, c_9, c_19]) (by omega) (by omega) ls (lv_sub hl [0, 1, 2, 3] rfl)
  exact K4 _ 0 (nI 0) (by first | rfl | exact Nat.zero_le _ | omega | assumption) (by first | rfl | exact Nat.zero_le _ | omega | assumption) (Nat.lt_succ_self _) ls (lv_sub hl [0, 1, 2, 3] rfl)

set_option maxHeartbeats 4000000 in
set_option maxRecDepth 100000 in
theorem c_X3_votesIn (l : Launch) (D : va_G) (cI cS : ClassId) (ad : Nat → Nat) (fa : Nat) (n : Nat) (fo : Nat) (ki : Nat → Nat) (st : Nat → Nat) (we : Nat → Nat) (lo : Nat → Nat) (ra : Nat) (rch : Nat) (q0 : Nat → Int32) (q1 : Nat → Int32) (q2 : Nat → Int32) (q3 : Nat → Int32) (fk : Nat) (fc : Nat → Nat) (rd : Nat) (rc : Nat → Nat) (rv : Nat → Nat) (sh : Nat → Bool) (sle : Nat → Nat) (sla : Nat → Nat) (bg : Nat → Int32) (hd : Nat → Int32) (tr : Int32) (s1 : Nat) (hn : n ≤ 8) (hfo : fo < 256) (hki : ∀ j, ki j ≤ 2) (hwe : ∀ j, we j ≤ 9) (hs : s1 < 256) : Met l yX3_votesIn wsX3_votesIn ({ frames := 2, cells := 0, slots := 0, locals := 43 }) (PR D cI cS [.ref (ad 0), .int (nI s1)] (wM cI ad fa n fo ki st we lo ra rch q0 q1 q2 q3 fk fc rd rc rv sh sle sla bg hd tr)) (vp_Si (fun r => r = nI (viT n fo ki we s1))) 0 0 (fun _ => False) := by
  refine startR (by decide) rfl (Nat.le_of_ble_eq_true rfl) ?_
  intro p e s m below meth c hx hb hr hts hown hlk hml hG hP ls hl
  have hl : lv_has ls 4 [(0, .ref (ad 0)), (1, .int (nI s1))] := hl
  have f65 := hts (.fieldLink RX3 65 "ChairBallotModel" "chairs" "I") (by decide +kernel)
  have yX3 : ∀ w ∈ u_ws RX3 TX3 23, w.before _ s = true := fun w h => hts w ((by decide +kernel : ∀ w ∈ wsX30, w ∈ wsX3_votesIn) w h)
  have hF : CallFix p m c cX3_votesIn 4 s _ wsX3_votesIn RX3 := ⟨hx, hb, hml, hown, hts⟩
  refine lv_iconst (v := nI 0) hx hb dX3_votesIn_0 (by decide) ?_
  refine lv_istore_n (lv' := [(2, .int (nI 0)), (0, .ref (ad 0)), (1, .int (nI s1))]) hx hb dX3_votesIn_1 rfl hl (by decide) rfl (fun ls hl => ?_)
  refine lv_iconst (v := nI 0) hx hb dX3_votesIn_2 (by decide) ?_
  refine lv_istore_n (lv' := [(3, .int (nI 0)), (2, .int (nI 0)), (0, .ref (ad 0)), (1, .int (nI s1))]) hx hb dX3_votesIn_3 rfl hl (by decide) rfl (fun ls hl => ?_)
  have K4 : ∀ (fuel : Nat) (i : Nat) (x2 : Int32), x2 = nI (sumN (viN s1 fo ki we) i) → (i ≤ n) → (n - i) < fuel → ∀ ls : Array Slot, lv_has ls 4 [(3, .int (nI i)), (2, .int x2), (0, .ref (ad 0)), (1, .int (nI s1))] → W p l e ({ frames := 2, cells := 0, slots := 0, locals := 43 }) s m (([.ref (ad 0), .int (nI s1)] : List Value).toArray) below meth c s.heap [] 0 0 (MQ below (vp_Si (fun r => r = nI (viT n fo ki we s1))) (([.ref (ad 0), .int (nI s1)] : List Value).toArray) s 0 0 (fun _ => False)) (F0 m 4 ls []) := by
    intro fuel
    induction fuel with
    | zero => intro i x2 e_x2 hi hmu; exact absurd hmu (Nat.not_lt_zero _)
    | succ fuel ih =>
      intro i x2 e_x2 hi hmu ls hl
      subst e_x2
      refine lv_iload_n hx hb dX3_votesIn_4 rfl (lv_at hl 0 rfl) ?_
      refine lv_aload_n hx hb dX3_votesIn_5 rfl (lv_at hl 2 rfl) ?_
      refine va_get (D := D) (ci := 3) (v := .int (nI n)) (C := RX3) (T := TX3) (N := 23) hx hb yX3 (fun _ h => h) hown hG.1 hP 0 rfl rfl 1 (by decide) f65 (fun _ h => h) rfl dX3_votesIn_6 ?_
      refine lv_icmp_ge (tgt := 38) hx hb dX3_votesIn_9 (by decide) (fun c_9 => ?_) (fun c_9 => ?_)
      ·
        replace c_9 := (nI_leI (a := n) (b := i) (by omega) (by omega)).mp c_9
        have hin : n = i := by omega
        subst hin
        refine lv_iload_n hx hb dX3_votesIn_38 rfl (lv_at hl 1 rfl) ?_
        exact xretR hx hb hr hlk dX3_votesIn_39 (by rfl)
      ·
        replace c_9 := (not_congr (nI_leI (a := n) (b := i) (by omega) (by omega))).mp c_9
        refine lv_iload_n hx hb dX3_votesIn_12 rfl (lv_at hl 1 rfl) ?_
        refine lv_iload_n hx hb dX3_votesIn_13 rfl (lv_at hl 3 rfl) ?_
        refine lv_iload_n hx hb dX3_votesIn_14 rfl (lv_at hl 0 rfl) ?_
        refine xrd (va_runS (As := [.int (nI s1), .int (nI i)]) (rest := [.int (nI (sumN (viN s1 fo ki we) i))]) hF (c_X3_isIn l D cI cS s1 i (by first | assumption | omega) (by first | assumption | omega)) (va_cwS 2 hts gX3_votesIn_X3_isIn rfl rfl rfl hD_X3_isIn ⟨Nat.le_of_ble_eq_true rfl, Nat.le_of_ble_eq_true rfl⟩) (PR.pre hG (hP.sub (ws' := []) [] rfl)) rfl rfl hl.1 rfl (lv_room (Nat.le_of_ble_eq_true rfl)) dX3_votesIn_15 ⟨Nat.le_refl _, Nat.le_refl _⟩) ?_
        refine lv_if_eq (tgt := 29) hx hb dX3_votesIn_18 (by decide) (fun c_18 => ?_) (fun c_18 => ?_)
        ·
          replace c_18 := bI_0.mp c_18
          refine lv_iconst (v := nI 0) hx hb dX3_votesIn_29 (by decide) ?_
          refine xaddN hx hb dX3_votesIn_30 ?_
          refine lv_istore_n (lv' := [(2, .int (nI (sumN (viN s1 fo ki we) i + 0))), (3, .int (nI i)), (0, .ref (ad 0)), (1, .int (nI s1))]) hx hb dX3_votesIn_31 rfl hl (by decide) rfl (fun ls hl => ?_)
          refine lv_iinc (v := nI (i + 1)) (lv' := [(3, .int (nI (i + 1))), (2, .int (nI (sumN (viN s1 fo ki we) i + 0))), (0, .ref (ad 0)), (1, .int (nI s1))]) hx hb dX3_votesIn_32 hl (k := 1) rfl xinc1 (by decide) rfl (fun ls hl => ?_)
          refine lv_goto (tgt := 4) hx hb dX3_votesIn_35 (by decide) ?_
          exact ih (i + 1) (nI (sumN (viN s1 fo ki we) i + 0)) (by simp [sumN, viN, c_9, c_18]) (by omega) (by omega) ls (lv_sub hl [0, 1, 2, 3] rfl)
        ·
          replace c_18 := bI_n0.mp c_18
          refine lv_aload_n hx hb dX3_votesIn_21 rfl (lv_at hl 2 rfl) ?_
          refine lv_iload_n hx hb dX3_votesIn_22 rfl (lv_at hl 0 rfl) ?_
          refine xrd (va_runV (As := [.int (nI i)]) (rest := [.int (nI (sumN (viN s1 fo ki we) i))]) hF (c_X3_votesOf l D cI cS ad fa n fo ki st we lo ra rch q0 q1 q2 q3 fk fc rd rc rv sh sle sla bg hd tr i (by first | assumption | omega) (by first | assumption | omega) (by first | assumption | omega) (by first | assumption | omega) (by first | assumption | omega)) (cwV 1 hts gX3_votesIn_X3_votesOf rfl rfl rfl hV_X3_votesOf ⟨Nat.le_of_ble_eq_true rfl, Nat.le_of_ble_eq_true rfl⟩) (PR.preV hG hP (ci := 3) rfl rfl) rfl rfl hl.1 rfl (lv_room (Nat.le_of_ble_eq_true rfl)) dX3_votesIn_23 ⟨Nat.le_refl _, Nat.le_refl _⟩) ?_
          refine lv_goto (tgt := 30) hx hb dX3_votesIn_26 (by decide) ?_
          refine xaddN hx hb dX3_votesIn_30 ?_
          refine lv_istore_n (lv' := [(2, .int (nI (sumN (viN s1 fo ki we) i + voN fo ki we i))), (3, .int (nI i)), (0, .ref (ad 0)), (1, .int (nI s1))]) hx hb dX3_votesIn_31 rfl hl (by decide) rfl (fun ls hl => ?_)
          refine lv_iinc (v := nI (i + 1)) (lv' := [(3, .int (nI (i + 1))), (2, .int (nI (sumN (viN s1 fo ki we) i + voN fo ki we i))), (0, .ref (ad 0)), (1, .int (nI s1))]) hx hb dX3_votesIn_32 hl (k := 1) rfl xinc1 (by decide) rfl (fun ls hl => ?_)
          refine lv_goto (tgt := 4) hx hb dX3_votesIn_35 (by decide) ?_
          exact ih (i + 1) (nI (sumN (viN s1 fo ki we) i + voN fo ki we i)) (by simp [sumN, viN, c_9, c_18]) (by omega) (by omega) ls (lv_sub hl [0, 1, 2, 3] rfl)
  exact K4 _ 0 (nI 0) (by first | rfl | exact Nat.zero_le _ | omega | assumption) (by first | rfl | exact Nat.zero_le _ | omega | assumption) (Nat.lt_succ_self _) ls (lv_sub hl [0, 1, 2, 3] rfl)

set_option maxHeartbeats 4000000 in
set_option maxRecDepth 100000 in
theorem c_X3_isCarried (l : Launch) (D : va_G) (cI cS : ClassId) (ad : Nat → Nat) (fa : Nat) (n : Nat) (fo : Nat) (ki : Nat → Nat) (st : Nat → Nat) (we : Nat → Nat) (lo : Nat → Nat) (ra : Nat) (rch : Nat) (q0 : Nat → Int32) (q1 : Nat → Int32) (q2 : Nat → Int32) (q3 : Nat → Int32) (fk : Nat) (fc : Nat → Nat) (rd : Nat) (rc : Nat → Nat) (rv : Nat → Nat) (sh : Nat → Bool) (sle : Nat → Nat) (sla : Nat → Nat) (bg : Nat → Int32) (hd : Nat → Int32) (tr : Int32) (hn : n ≤ 8) (hfo : fo < 256) (hki : ∀ j, ki j ≤ 2) (hwe : ∀ j, we j ≤ 9) (hst : ∀ j, st j ≤ 3) (hlo : ∀ j, lo j ≤ 3) : Met l yX3_isCarried wsX3_isCarried ({ frames := 4, cells := 0, slots := 0, locals := 88 }) (PR D cI cS [.ref (ad 0)] (wM cI ad fa n fo ki st we lo ra rch q0 q1 q2 q3 fk fc rd rc rv sh sle sla bg hd tr)) (vp_Si (fun r => r = bI (carB n fo ki st we lo))) 0 0 (fun _ => False) := by
  refine startR (by decide) rfl (Nat.le_of_ble_eq_true rfl) ?_
  intro p e s m below meth c hx hb hr hts hown hlk hml hG hP ls hl
  have hl : lv_has ls 1 [(0, .ref (ad 0))] := hl
  have hF : CallFix p m c cX3_isCarried 1 s _ wsX3_isCarried RX3 := ⟨hx, hb, hml, hown, hts⟩
  have hv1 := vfN_le (fo := fo) (ki := ki) (st := st) (lo := lo) hwe hn 1
  have hv2 := vfN_le (fo := fo) (ki := ki) (st := st) (lo := lo) hwe hn 2
  refine lv_aload_n hx hb dX3_isCarried_0 rfl (lv_at hl 0 rfl) ?_
  refine lv_aload_n hx hb dX3_isCarried_1 rfl (lv_at hl 0 rfl) ?_
  refine lv_iconst (v := nI 1) hx hb dX3_isCarried_2 (by decide) ?_
  refine xrd (va_runV (As := [.int (nI 1)]) (rest := [.ref (ad 0)]) hF (c_X3_whoIs l D cI cS ad fa n fo ki st we lo ra rch q0 q1 q2 q3 fk fc rd rc rv sh sle sla bg hd tr 1 (by first | assumption | omega) (by first | assumption | omega) (by first | assumption | omega) (by first | assumption | omega) (by omega)) (cwV 1 hts gX3_isCarried_X3_whoIs rfl rfl rfl hV_X3_whoIs ⟨Nat.le_of_ble_eq_true rfl, Nat.le_of_ble_eq_true rfl⟩) (PR.preV hG hP (ci := 3) rfl rfl) rfl rfl hl.1 rfl (lv_room (Nat.le_of_ble_eq_true rfl)) dX3_isCarried_3 ⟨Nat.le_refl _, Nat.le_refl _⟩) ?_
  refine xrd (va_runV (As := [.int (nI (forS n fo st lo 1))]) (rest := []) hF (c_X3_votesIn l D cI cS ad fa n fo ki st we lo ra rch q0 q1 q2 q3 fk fc rd rc rv sh sle sla bg hd tr (forS n fo st lo 1) (by first | assumption | omega) (by first | assumption | omega) (by first | assumption | omega) (by first | assumption | omega) (by first | exact setN_256 hn | omega)) (cwV 1 hts gX3_isCarried_X3_votesIn rfl rfl rfl hV_X3_votesIn ⟨Nat.le_of_ble_eq_true rfl, Nat.le_of_ble_eq_true rfl⟩) (PR.preV hG hP (ci := 3) rfl rfl) rfl rfl hl.1 rfl (lv_room (Nat.le_of_ble_eq_true rfl)) dX3_isCarried_6 ⟨Nat.le_refl _, Nat.le_refl _⟩) ?_
  refine xtop (x' := nI (vfN n fo ki st we lo 1)) (by exact congrArg nI vf_eq) ?_
  refine lv_aload_n hx hb dX3_isCarried_9 rfl (lv_at hl 0 rfl) ?_
  refine lv_aload_n hx hb dX3_isCarried_10 rfl (lv_at hl 0 rfl) ?_
  refine lv_iconst (v := nI 2) hx hb dX3_isCarried_11 (by decide) ?_
  refine xrd (va_runV (As := [.int (nI 2)]) (rest := [.ref (ad 0), .int (nI (vfN n fo ki st we lo 1))]) hF (c_X3_whoIs l D cI cS ad fa n fo ki st we lo ra rch q0 q1 q2 q3 fk fc rd rc rv sh sle sla bg hd tr 2 (by first | assumption | omega) (by first | assumption | omega) (by first | assumption | omega) (by first | assumption | omega) (by omega)) (cwV 1 hts gX3_isCarried_X3_whoIs rfl rfl rfl hV_X3_whoIs ⟨Nat.le_of_ble_eq_true rfl, Nat.le_of_ble_eq_true rfl⟩) (PR.preV hG hP (ci := 3) rfl rfl) rfl rfl hl.1 rfl (lv_room (Nat.le_of_ble_eq_true rfl)) dX3_isCarried_12 ⟨Nat.le_refl _, Nat.le_refl _⟩) ?_
  refine xrd (va_runV (As := [.int (nI (forS n fo st lo 2))]) (rest := [.int (nI (vfN n fo ki st we lo 1))]) hF (c_X3_votesIn l D cI cS ad fa n fo ki st we lo ra rch q0 q1 q2 q3 fk fc rd rc rv sh sle sla bg hd tr (forS n fo st lo 2) (by first | assumption | omega) (by first | assumption | omega) (by first | assumption | omega) (by first | assumption | omega) (by first | exact setN_256 hn | omega)) (cwV 1 hts gX3_isCarried_X3_votesIn rfl rfl rfl hV_X3_votesIn ⟨Nat.le_of_ble_eq_true rfl, Nat.le_of_ble_eq_true rfl⟩) (PR.preV hG hP (ci := 3) rfl rfl) rfl rfl hl.1 rfl (lv_room (Nat.le_of_ble_eq_true rfl)) dX3_isCarried_15 ⟨Nat.le_refl _, Nat.le_refl _⟩) ?_
  refine xtop (x' := nI (vfN n fo ki st we lo 2)) (by exact congrArg nI vf_eq) ?_
  refine lv_icmp_le (tgt := 25) hx hb dX3_isCarried_18 (by decide) (fun c_18 => ?_) (fun c_18 => ?_)
  ·
    replace c_18 := (nI_leI (a := vfN n fo ki st we lo 1) (b := vfN n fo ki st we lo 2) (by omega) (by omega)).mp c_18
    refine lv_iconst (v := nI 0) hx hb dX3_isCarried_25 (by decide) ?_
    exact xretRz hx hb hr hlk dX3_isCarried_26 (false) rfl (by rw [carB_vf]; first | (rw [decide_eq_true (by omega)]; rfl) | (rw [decide_eq_false (by omega)]; rfl))
  ·
    replace c_18 := (not_congr (nI_leI (a := vfN n fo ki st we lo 1) (b := vfN n fo ki st we lo 2) (by omega) (by omega))).mp c_18
    refine lv_iconst (v := nI 1) hx hb dX3_isCarried_21 (by decide) ?_
    refine lv_goto (tgt := 26) hx hb dX3_isCarried_22 (by decide) ?_
    exact xretRz hx hb hr hlk dX3_isCarried_26 (true) rfl (by rw [carB_vf]; first | (rw [decide_eq_true (by omega)]; rfl) | (rw [decide_eq_false (by omega)]; rfl))

set_option maxHeartbeats 4000000 in
set_option maxRecDepth 100000 in
theorem c_X3_poll (l : Launch) (D : va_G) (cI cS : ClassId) (ad : Nat → Nat) (fa : Nat) (n : Nat) (fo : Nat) (ki : Nat → Nat) (st : Nat → Nat) (we : Nat → Nat) (lo : Nat → Nat) (ra : Nat) (rch : Nat) (q0 : Nat → Int32) (q1 : Nat → Int32) (q2 : Nat → Int32) (q3 : Nat → Int32) (fk : Nat) (fc : Nat → Nat) (rd : Nat) (rc : Nat → Nat) (rv : Nat → Nat) (sh : Nat → Bool) (sle : Nat → Nat) (sla : Nat → Nat) (bg : Nat → Int32) (hd : Nat → Int32) (tr : Int32) (what : Int32) (hn : n ≤ 8) (hfo : fo < 256) (hki : ∀ j, ki j ≤ 2) (hwe : ∀ j, we j ≤ 9) (hst : ∀ j, st j ≤ 3) (hlo : ∀ j, lo j ≤ 3) : Met l yX3_poll wsX3_poll ({ frames := 5, cells := 0, slots := 0, locals := 108 }) (PR D cI cS [.ref (ad 0), .int what] (wM cI ad fa n fo ki st we lo ra rch q0 q1 q2 q3 fk fc rd rc rv sh sle sla bg hd tr)) (vp_Si (fun r => r = A_poll n fo ki st we lo what)) 0 0 (fun _ => False) := by
  refine startR (by decide) rfl (Nat.le_of_ble_eq_true rfl) ?_
  intro p e s m below meth c hx hb hr hts hown hlk hml hG hP ls hl
  have hl : lv_has ls 2 [(0, .ref (ad 0)), (1, .int what)] := hl
  have f65 := hts (.fieldLink RX3 65 "ChairBallotModel" "chairs" "I") (by decide +kernel)
  have yX3 : ∀ w ∈ u_ws RX3 TX3 23, w.before _ s = true := fun w h => hts w ((by decide +kernel : ∀ w ∈ wsX30, w ∈ wsX3_poll) w h)
  have hF : CallFix p m c cX3_poll 2 s _ wsX3_poll RX3 := ⟨hx, hb, hml, hown, hts⟩
  refine lv_aload_n hx hb dX3_poll_0 rfl (lv_at hl 0 rfl) ?_
  refine va_get (D := D) (ci := 3) (v := .int (nI n)) (C := RX3) (T := TX3) (N := 23) hx hb yX3 (fun _ h => h) hown hG.1 hP 0 rfl rfl 1 (by decide) f65 (fun _ h => h) rfl dX3_poll_1 ?_
  refine lv_if_ne (tgt := 10) hx hb dX3_poll_4 (by decide) (fun c_4 => ?_) (fun c_4 => ?_)
  ·
    replace c_4 := (not_congr (nI_eq (a := n) (b := 0) (by omega) (by omega))).mp c_4
    have hn0 : ¬ n = 0 := by omega
    refine lv_iload_n hx hb dX3_poll_10 rfl (lv_at hl 1 rfl) ?_
    by_cases c_11_0 : what = nI 0
    ·
      refine lv_tableIn (off := 33) (tgt := 44) hx hb dX3_poll_11 (by rw [c_11_0]; decide) (by rw [c_11_0]; decide) (by rw [c_11_0]; decide) (by decide) ?_
      refine lv_aload_n hx hb dX3_poll_44 rfl (lv_at hl 0 rfl) ?_
      refine lv_aload_n hx hb dX3_poll_45 rfl (lv_at hl 0 rfl) ?_
      refine lv_iconst (v := nI 1) hx hb dX3_poll_46 (by decide) ?_
      refine xrd (va_runV (As := [.int (nI 1)]) (rest := [.ref (ad 0)]) hF (c_X3_whoIs l D cI cS ad fa n fo ki st we lo ra rch q0 q1 q2 q3 fk fc rd rc rv sh sle sla bg hd tr 1 (by first | assumption | omega) (by first | assumption | omega) (by first | assumption | omega) (by first | assumption | omega) (by omega)) (cwV 1 hts gX3_poll_X3_whoIs rfl rfl rfl hV_X3_whoIs ⟨Nat.le_of_ble_eq_true rfl, Nat.le_of_ble_eq_true rfl⟩) (PR.preV hG hP (ci := 3) rfl rfl) rfl rfl hl.1 rfl (lv_room (Nat.le_of_ble_eq_true rfl)) dX3_poll_47 ⟨Nat.le_refl _, Nat.le_refl _⟩) ?_
      refine xrd (va_runV (As := [.int (nI (forS n fo st lo 1))]) (rest := []) hF (c_X3_votesIn l D cI cS ad fa n fo ki st we lo ra rch q0 q1 q2 q3 fk fc rd rc rv sh sle sla bg hd tr (forS n fo st lo 1) (by first | assumption | omega) (by first | assumption | omega) (by first | assumption | omega) (by first | assumption | omega) (by exact setN_256 hn)) (cwV 1 hts gX3_poll_X3_votesIn rfl rfl rfl hV_X3_votesIn ⟨Nat.le_of_ble_eq_true rfl, Nat.le_of_ble_eq_true rfl⟩) (PR.preV hG hP (ci := 3) rfl rfl) rfl rfl hl.1 rfl (lv_room (Nat.le_of_ble_eq_true rfl)) dX3_poll_50 ⟨Nat.le_refl _, Nat.le_refl _⟩) ?_
      refine xtop (x' := nI (vfN n fo ki st we lo 1)) (by exact congrArg nI vf_eq) ?_
      exact xretR hx hb hr hlk dX3_poll_53 (by first | (simp [A_poll, forS, nIeq, bI_true, bI_false, c_4, hn0, c_11_0]; done) | (simp [A_poll, bI, nIeq, bI_true, bI_false, c_4, hn0, c_11_0]; done))
    by_cases c_11_1 : what = nI 1
    ·
      refine lv_tableIn (off := 43) (tgt := 54) hx hb dX3_poll_11 (by rw [c_11_1]; decide) (by rw [c_11_1]; decide) (by rw [c_11_1]; decide) (by decide) ?_
      refine lv_aload_n hx hb dX3_poll_54 rfl (lv_at hl 0 rfl) ?_
      refine lv_aload_n hx hb dX3_poll_55 rfl (lv_at hl 0 rfl) ?_
      refine lv_iconst (v := nI 2) hx hb dX3_poll_56 (by decide) ?_
      refine xrd (va_runV (As := [.int (nI 2)]) (rest := [.ref (ad 0)]) hF (c_X3_whoIs l D cI cS ad fa n fo ki st we lo ra rch q0 q1 q2 q3 fk fc rd rc rv sh sle sla bg hd tr 2 (by first | assumption | omega) (by first | assumption | omega) (by first | assumption | omega) (by first | assumption | omega) (by omega)) (cwV 1 hts gX3_poll_X3_whoIs rfl rfl rfl hV_X3_whoIs ⟨Nat.le_of_ble_eq_true rfl, Nat.le_of_ble_eq_true rfl⟩) (PR.preV hG hP (ci := 3) rfl rfl) rfl rfl hl.1 rfl (lv_room (Nat.le_of_ble_eq_true rfl)) dX3_poll_57 ⟨Nat.le_refl _, Nat.le_refl _⟩) ?_
      refine xrd (va_runV (As := [.int (nI (forS n fo st lo 2))]) (rest := []) hF (c_X3_votesIn l D cI cS ad fa n fo ki st we lo ra rch q0 q1 q2 q3 fk fc rd rc rv sh sle sla bg hd tr (forS n fo st lo 2) (by first | assumption | omega) (by first | assumption | omega) (by first | assumption | omega) (by first | assumption | omega) (by exact setN_256 hn)) (cwV 1 hts gX3_poll_X3_votesIn rfl rfl rfl hV_X3_votesIn ⟨Nat.le_of_ble_eq_true rfl, Nat.le_of_ble_eq_true rfl⟩) (PR.preV hG hP (ci := 3) rfl rfl) rfl rfl hl.1 rfl (lv_room (Nat.le_of_ble_eq_true rfl)) dX3_poll_60 ⟨Nat.le_refl _, Nat.le_refl _⟩) ?_
      refine xtop (x' := nI (vfN n fo ki st we lo 2)) (by exact congrArg nI vf_eq) ?_
      exact xretR hx hb hr hlk dX3_poll_63 (by first | (simp [A_poll, forS, nIeq, bI_true, bI_false, c_4, hn0, c_11_1]; done) | (simp [A_poll, bI, nIeq, bI_true, bI_false, c_4, hn0, c_11_1]; done))
    by_cases c_11_2 : what = nI 2
    ·
      refine lv_tableIn (off := 53) (tgt := 64) hx hb dX3_poll_11 (by rw [c_11_2]; decide) (by rw [c_11_2]; decide) (by rw [c_11_2]; decide) (by decide) ?_
      refine lv_aload_n hx hb dX3_poll_64 rfl (lv_at hl 0 rfl) ?_
      refine xrd (va_runV (As := []) (rest := []) hF (c_X3_isCarried l D cI cS ad fa n fo ki st we lo ra rch q0 q1 q2 q3 fk fc rd rc rv sh sle sla bg hd tr (by first | assumption | omega) (by first | assumption | omega) (by first | assumption | omega) (by first | assumption | omega) (by first | assumption | omega) (by first | assumption | omega)) (cwV 0 hts gX3_poll_X3_isCarried rfl rfl rfl hV_X3_isCarried ⟨Nat.le_of_ble_eq_true rfl, Nat.le_of_ble_eq_true rfl⟩) (PR.preV hG hP (ci := 3) rfl rfl) rfl rfl hl.1 rfl (lv_room (Nat.le_of_ble_eq_true rfl)) dX3_poll_65 ⟨Nat.le_refl _, Nat.le_refl _⟩) ?_
      refine lv_if_eq (tgt := 75) hx hb dX3_poll_68 (by decide) (fun c_68 => ?_) (fun c_68 => ?_)
      ·
        replace c_68 := bI_0.mp c_68
        refine lv_iconst (v := nI 0) hx hb dX3_poll_75 (by decide) ?_
        exact xretR hx hb hr hlk dX3_poll_76 (by first | (simp [A_poll, forS, nIeq, bI_true, bI_false, c_4, hn0, c_11_2, c_68]; done) | (simp [A_poll, bI, nIeq, bI_true, bI_false, c_4, hn0, c_11_2, c_68]; done))
      ·
        replace c_68 := bI_n0.mp c_68
        refine lv_iconst (v := nI 1) hx hb dX3_poll_71 (by decide) ?_
        refine lv_goto (tgt := 76) hx hb dX3_poll_72 (by decide) ?_
        exact xretR hx hb hr hlk dX3_poll_76 (by first | (simp [A_poll, forS, nIeq, bI_true, bI_false, c_4, hn0, c_11_2, c_68]; done) | (simp [A_poll, bI, nIeq, bI_true, bI_false, c_4, hn0, c_11_2, c_68]; done))
    by_cases c_11_3 : what = nI 3
    ·
      refine lv_tableIn (off := 66) (tgt := 77) hx hb dX3_poll_11 (by rw [c_11_3]; decide) (by rw [c_11_3]; decide) (by rw [c_11_3]; decide) (by decide) ?_
      refine lv_aload_n hx hb dX3_poll_77 rfl (lv_at hl 0 rfl) ?_
      refine lv_iconst (v := nI 1) hx hb dX3_poll_78 (by decide) ?_
      refine xrd (va_runV (As := [.int (nI 1)]) (rest := []) hF (c_X3_whoIs l D cI cS ad fa n fo ki st we lo ra rch q0 q1 q2 q3 fk fc rd rc rv sh sle sla bg hd tr 1 (by first | assumption | omega) (by first | assumption | omega) (by first | assumption | omega) (by first | assumption | omega) (by omega)) (cwV 1 hts gX3_poll_X3_whoIs rfl rfl rfl hV_X3_whoIs ⟨Nat.le_of_ble_eq_true rfl, Nat.le_of_ble_eq_true rfl⟩) (PR.preV hG hP (ci := 3) rfl rfl) rfl rfl hl.1 rfl (lv_room (Nat.le_of_ble_eq_true rfl)) dX3_poll_79 ⟨Nat.le_refl _, Nat.le_refl _⟩) ?_
      exact xretR hx hb hr hlk dX3_poll_82 (by first | (simp [A_poll, forS, nIeq, bI_true, bI_false, c_4, hn0, c_11_3]; done) | (simp [A_poll, bI, nIeq, bI_true, bI_false, c_4, hn0, c_11_3]; done))
    by_cases c_11_4 : what = nI 4
    ·
      refine lv_tableIn (off := 72) (tgt := 83) hx hb dX3_poll_11 (by rw [c_11_4]; decide) (by rw [c_11_4]; decide) (by rw [c_11_4]; decide) (by decide) ?_
      refine lv_aload_n hx hb dX3_poll_83 rfl (lv_at hl 0 rfl) ?_
      refine lv_iconst (v := nI 2) hx hb dX3_poll_84 (by decide) ?_
      refine xrd (va_runV (As := [.int (nI 2)]) (rest := []) hF (c_X3_whoIs l D cI cS ad fa n fo ki st we lo ra rch q0 q1 q2 q3 fk fc rd rc rv sh sle sla bg hd tr 2 (by first | assumption | omega) (by first | assumption | omega) (by first | assumption | omega) (by first | assumption | omega) (by omega)) (cwV 1 hts gX3_poll_X3_whoIs rfl rfl rfl hV_X3_whoIs ⟨Nat.le_of_ble_eq_true rfl, Nat.le_of_ble_eq_true rfl⟩) (PR.preV hG hP (ci := 3) rfl rfl) rfl rfl hl.1 rfl (lv_room (Nat.le_of_ble_eq_true rfl)) dX3_poll_85 ⟨Nat.le_refl _, Nat.le_refl _⟩) ?_
      exact xretR hx hb hr hlk dX3_poll_88 (by first | (simp [A_poll, forS, nIeq, bI_true, bI_false, c_4, hn0, c_11_4]; done) | (simp [A_poll, bI, nIeq, bI_true, bI_false, c_4, hn0, c_11_4]; done))
    refine lv_tableOut (tgt := 89) hx hb dX3_poll_11 (by exact xtabN (N := 5) (by decide) (fun j hj => by match j, hj with | 0, _ => exact c_11_0 | 1, _ => exact c_11_1 | 2, _ => exact c_11_2 | 3, _ => exact c_11_3 | 4, _ => exact c_11_4)) (by decide) ?_
    refine lv_bipush (v := (-2)) hx hb dX3_poll_89 (by decide) ?_
    exact xretR hx hb hr hlk dX3_poll_91 (by first | (simp [A_poll, forS, nIeq, bI_true, bI_false, c_4, hn0, c_11_0, c_11_1, c_11_2, c_11_3, c_11_4]; done) | (simp [A_poll, bI, nIeq, bI_true, bI_false, c_4, hn0, c_11_0, c_11_1, c_11_2, c_11_3, c_11_4]; done))
  ·
    replace c_4 := (nI_eq (a := n) (b := 0) (by omega) (by omega)).mp c_4
    have hn0 : n = 0 := by omega
    refine lv_bipush (v := (-3)) hx hb dX3_poll_7 (by decide) ?_
    exact xretR hx hb hr hlk dX3_poll_9 (by first | (simp [A_poll, forS, nIeq, bI_true, bI_false, c_4, hn0]; done) | (simp [A_poll, bI, nIeq, bI_true, bI_false, c_4, hn0]; done))

set_option maxHeartbeats 4000000 in
set_option maxRecDepth 100000 in
theorem c_X3_turn (l : Launch) (D : va_G) (cI cS : ClassId) (ad : Nat → Nat) (fa : Nat) (n : Nat) (fo : Nat) (ki : Nat → Nat) (st : Nat → Nat) (we : Nat → Nat) (lo : Nat → Nat) (ra : Nat) (rch : Nat) (q0 : Nat → Int32) (q1 : Nat → Int32) (q2 : Nat → Int32) (q3 : Nat → Int32) (fk : Nat) (fc : Nat → Nat) (rd : Nat) (rc : Nat → Nat) (rv : Nat → Nat) (sh : Nat → Bool) (sle : Nat → Nat) (sla : Nat → Nat) (bg : Nat → Int32) (hd : Nat → Int32) (tr : Int32) (k : Int32) (v : Int32) (hnd : nd (adM ad)) (hn : n ≤ 8) (hfo : fo < 256) (hlo : ∀ j, lo j ≤ 3) : Met l yX3_turn wsX3_turn ({ frames := 2, cells := 0, slots := 0, locals := 46 }) (PR D cI cS [.ref (ad 0), .int k, .int v] (wM cI ad fa n fo ki st we lo ra rch q0 q1 q2 q3 fk fc rd rc rv sh sle sla bg hd tr)) (va_Qi (fun r (zz : Unit) => r = A_turn n fo lo k v) (fun (zz : Unit) t => va_P D vwCl (wM cI ad fa n fo ki st we (S_turn n fo lo k v) ra rch q0 q1 q2 q3 fk fc rd rc rv sh sle sla bg hd tr) t.heap) (AW (adM ad))) 0 0 (AW (adM ad)) := by
  refine startM (by decide) rfl (Nat.le_of_ble_eq_true rfl) hnd rfl ?_
  intro p e s m below meth c hx hb hr hts hown hlk hml hG hP hD hS ls hl
  have hl : lv_has ls 4 [(0, .ref (ad 0)), (1, .int k), (2, .int v)] := hl
  have f114 := hts (.fieldLink RX3 114 "ChairBallotModel" "folded" "I") (by decide +kernel)
  have f19 := hts (.fieldLink RX3 19 "ChairBallotModel" "facesOf" "[I") (by decide +kernel)
  have yX3 : ∀ w ∈ u_ws RX3 TX3 23, w.before _ s = true := fun w h => hts w ((by decide +kernel : ∀ w ∈ wsX30, w ∈ wsX3_turn) w h)
  have hF : CallFix p m c cX3_turn 4 s _ wsX3_turn RX3 := ⟨hx, hb, hml, hown, hts⟩
  refine lv_aload_n hx hb dX3_turn_0 rfl (lv_at hl 0 rfl) ?_
  refine lv_iload_n hx hb dX3_turn_1 rfl (lv_at hl 1 rfl) ?_
  refine xrd (va_runV (As := [.int k]) (rest := []) hF (c_X3_noChair l D cI cS ad fa n fo ki st we lo ra rch q0 q1 q2 q3 fk fc rd rc rv sh sle sla bg hd tr k (by first | assumption | omega)) (cwV 1 hts gX3_turn_X3_noChair rfl rfl rfl hV_X3_noChair ⟨Nat.le_of_ble_eq_true rfl, Nat.le_of_ble_eq_true rfl⟩) (PR.preV hG hP (ci := 3) rfl rfl) rfl rfl hl.1 rfl (lv_room (Nat.le_of_ble_eq_true rfl)) dX3_turn_2 ⟨Nat.le_refl _, Nat.le_refl _⟩) ?_
  refine lv_if_eq (tgt := 10) hx hb dX3_turn_5 (by decide) (fun c_5 => ?_) (fun c_5 => ?_)
  ·
    replace c_5 := bI_0.mp c_5
    replace c_5 := (by simpa using c_5 : (hasB n k) = true)
    obtain ⟨j, hj, rfl⟩ := hasB_t c_5
    have hclj := cl8 (j := j) (by omega)
    refine lv_iload_n hx hb dX3_turn_10 rfl (lv_at hl 2 rfl) ?_
    refine lv_i2l (v := v.toInt64) hx hb dX3_turn_11 rfl ?_
    refine lv_lconst (v := lN 0) hx hb dX3_turn_12 rfl ?_
    refine lv_ldc2 (v := 3) hx hb hown (hts (.constantLong RX3 138 (3)) (by decide +kernel)) dX3_turn_13 ?_
    refine xtopl (x' := lN 3) rfl ?_
    refine xrd (va_runS (As := [.long v.toInt64, .long (lN 0), .long (lN 3)]) (rest := []) hF (c_X3_in l D cI cS v 0 3 (by first | assumption | omega) (by first | assumption | omega)) (va_cwS 3 hts gX3_turn_X3_in rfl rfl rfl hD_X3_in ⟨Nat.le_of_ble_eq_true rfl, Nat.le_of_ble_eq_true rfl⟩) (PR.pre hG (hP.sub (ws' := []) [] rfl)) rfl rfl hl.1 rfl (lv_room (Nat.le_of_ble_eq_true rfl)) dX3_turn_16 ⟨Nat.le_refl _, Nat.le_refl _⟩) ?_
    refine xtop (x' := bI (rgB 0 3 v)) rfl ?_
    refine lv_if_ne (tgt := 25) hx hb dX3_turn_19 (by decide) (fun c_19 => ?_) (fun c_19 => ?_)
    ·
      replace c_19 := bI_n0.mp c_19
      obtain ⟨w, hw0, hw1, rfl⟩ := rgB_nat (by decide) c_19
      have hclw := cl8 (j := w) (by omega)
      refine lv_aload_n hx hb dX3_turn_25 rfl (lv_at hl 0 rfl) ?_
      refine va_get (D := D) (ci := 3) (v := .int (nI fo)) (C := RX3) (T := TX3) (N := 23) hx hb yX3 (fun _ h => h) hown hG.1 hP 0 rfl rfl 2 (by decide) f114 (fun _ h => h) rfl dX3_turn_26 ?_
      refine lv_iload_n hx hb dX3_turn_29 rfl (lv_at hl 1 rfl) ?_
      refine xrd (va_runS (As := [.int (nI fo), .int (nI j)]) (rest := []) hF (c_X3_isIn l D cI cS fo j (by first | assumption | omega) (by first | assumption | omega)) (va_cwS 2 hts gX3_turn_X3_isIn rfl rfl rfl hD_X3_isIn ⟨Nat.le_of_ble_eq_true rfl, Nat.le_of_ble_eq_true rfl⟩) (PR.pre hG (hP.sub (ws' := []) [] rfl)) rfl rfl hl.1 rfl (lv_room (Nat.le_of_ble_eq_true rfl)) dX3_turn_30 ⟨Nat.le_refl _, Nat.le_refl _⟩) ?_
      refine lv_if_eq (tgt := 39) hx hb dX3_turn_33 (by decide) (fun c_33 => ?_) (fun c_33 => ?_)
      ·
        replace c_33 := bI_0.mp c_33
        refine lv_aload_n hx hb dX3_turn_39 rfl (lv_at hl 0 rfl) ?_
        refine va_get (D := D) (ci := 3) (v := .ref (ad 4)) (C := RX3) (T := TX3) (N := 23) hx hb yX3 (fun _ h => h) hown hG.1 hP 0 rfl rfl 6 (by decide) f19 (fun _ h => h) rfl dX3_turn_40 ?_
        refine lv_iload_n hx hb dX3_turn_43 rfl (lv_at hl 1 rfl) ?_
        refine xaldN hx hb hG hP 4 rfl (j) rfl (by omega) (by decide) dX3_turn_44 ?_
        refine lv_istore_n (lv' := [(3, .int (nI (lo j))), (0, .ref (ad 0)), (1, .int (nI j)), (2, .int (nI w))]) hx hb dX3_turn_45 rfl hl (by decide) rfl (fun ls hl => ?_)
        refine lv_aload_n hx hb dX3_turn_46 rfl (lv_at hl 1 rfl) ?_
        refine va_get (D := D) (ci := 3) (v := .ref (ad 4)) (C := RX3) (T := TX3) (N := 23) hx hb yX3 (fun _ h => h) hown hG.1 hP 0 rfl rfl 6 (by decide) f19 (fun _ h => h) rfl dX3_turn_47 ?_
        refine lv_iload_n hx hb dX3_turn_50 rfl (lv_at hl 2 rfl) ?_
        refine lv_iload_n hx hb dX3_turn_51 rfl (lv_at hl 3 rfl) ?_
        refine xastN hx hb hG hP hD hS 4 rfl (j) (w) rfl rfl (by omega) (by decide) dX3_turn_52 (fun H locs hP hD hS => ?_)
        have hP : va_P D vwCl (wM cI ad fa n fo ki st we (updN lo j w) ra rch q0 q1 q2 q3 fk fc rd rc rv sh sle sla bg hd tr) H := hP
        have hD : va_D (AW (adM ad)) (wM cI ad fa n fo ki st we (updN lo j w) ra rch q0 q1 q2 q3 fk fc rd rc rv sh sle sla bg hd tr) := hD
        refine lv_iload_n hx hb dX3_turn_53 rfl (lv_at hl 0 rfl) ?_
        exact xretM hx hb hr hlk dX3_turn_54 hS () (by simp [A_turn, c_5, hclj, c_19, hclw, c_33]) (fun t ht => by rw [ht]; rw [show S_turn n fo lo (nI j) (nI w) = (updN lo j w) from by simp [S_turn, trn, c_5, hclj, c_19, hclw, c_33]]; exact hP)
      ·
        replace c_33 := bI_n0.mp c_33
        refine lv_bipush (v := (-3)) hx hb dX3_turn_36 (by decide) ?_
        exact xretM hx hb hr hlk dX3_turn_38 hS () (by simp [A_turn, c_5, hclj, c_19, hclw, c_33]) (fun t ht => by rw [ht]; rw [show S_turn n fo lo (nI j) (nI w) = lo from by simp [S_turn, trn, c_5, hclj, c_19, hclw, c_33]]; exact hP)
    ·
      replace c_19 := bI_0.mp c_19
      refine lv_bipush (v := (-2)) hx hb dX3_turn_22 (by decide) ?_
      exact xretM hx hb hr hlk dX3_turn_24 hS () (by simp [A_turn, c_5, hclj, c_19]) (fun t ht => by rw [ht]; rw [show S_turn n fo lo (nI j) v = lo from by simp [S_turn, trn, c_5, hclj, c_19]]; exact hP)
  ·
    replace c_5 := bI_n0.mp c_5
    replace c_5 := (by simpa using c_5 : (hasB n k) = false)
    refine lv_iconst (v := (-1)) hx hb dX3_turn_8 (by decide) ?_
    exact xretM hx hb hr hlk dX3_turn_9 hS () (by simp [A_turn, c_5]) (fun t ht => by rw [ht]; rw [show S_turn n fo lo k v = lo from by simp [S_turn, trn, c_5]]; exact hP)

set_option maxHeartbeats 4000000 in
set_option maxRecDepth 100000 in
theorem c_X3_blown (l : Launch) (D : va_G) (cI cS : ClassId) (ad : Nat → Nat) (fa : Nat) (n : Nat) (fo : Nat) (ki : Nat → Nat) (st : Nat → Nat) (we : Nat → Nat) (lo : Nat → Nat) (ra : Nat) (rch : Nat) (q0 : Nat → Int32) (q1 : Nat → Int32) (q2 : Nat → Int32) (q3 : Nat → Int32) (fk : Nat) (fc : Nat → Nat) (rd : Nat) (rc : Nat → Nat) (rv : Nat → Nat) (sh : Nat → Bool) (sle : Nat → Nat) (sla : Nat → Nat) (bg : Nat → Int32) (hd : Nat → Int32) (tr : Int32) (w : Nat) (v : Nat) (hnd : nd (adM ad)) (hn : n ≤ 8) (hfo : fo < 256) (hlo : ∀ j, lo j ≤ 3) (hwe : ∀ j, we j ≤ 9) (hw : w ≤ 3) (hv : v ≤ 10) : Met l yX3_blown wsX3_blown ({ frames := 1, cells := 0, slots := 0, locals := 21 }) (PR D cI cS [.ref (ad 0), .int (nI w), .int (nI v)] (wM cI ad fa n fo ki st we lo ra rch q0 q1 q2 q3 fk fc rd rc rv sh sle sla bg hd tr)) (va_Qi (fun r (zz : Unit) => r = nI (sumN (blwC fo we lo w v) n)) (fun (zz : Unit) t => va_P D vwCl (wM cI ad fa n fo ki st we (blwL n fo we lo w v) ra rch q0 q1 q2 q3 fk fc rd rc rv sh sle sla bg hd tr) t.heap) (AW (adM ad))) 0 0 (AW (adM ad)) := by
  refine startM (by decide) rfl (Nat.le_of_ble_eq_true rfl) hnd rfl ?_
  intro p e s m below meth c hx hb hr hts hown hlk hml hG hP hD hS ls hl
  have hl : lv_has ls 5 [(0, .ref (ad 0)), (1, .int (nI w)), (2, .int (nI v))] := hl
  have f65 := hts (.fieldLink RX3 65 "ChairBallotModel" "chairs" "I") (by decide +kernel)
  have f114 := hts (.fieldLink RX3 114 "ChairBallotModel" "folded" "I") (by decide +kernel)
  have f16 := hts (.fieldLink RX3 16 "ChairBallotModel" "weightOf" "[I") (by decide +kernel)
  have f19 := hts (.fieldLink RX3 19 "ChairBallotModel" "facesOf" "[I") (by decide +kernel)
  have yX3 : ∀ w ∈ u_ws RX3 TX3 23, w.before _ s = true := fun w h => hts w ((by decide +kernel : ∀ w ∈ wsX30, w ∈ wsX3_blown) w h)
  have hF : CallFix p m c cX3_blown 5 s _ wsX3_blown RX3 := ⟨hx, hb, hml, hown, hts⟩
  refine lv_iconst (v := nI 0) hx hb dX3_blown_0 (by decide) ?_
  refine lv_istore_n (lv' := [(3, .int (nI 0)), (0, .ref (ad 0)), (1, .int (nI w)), (2, .int (nI v))]) hx hb dX3_blown_1 rfl hl (by decide) rfl (fun ls hl => ?_)
  refine lv_iconst (v := nI 0) hx hb dX3_blown_2 (by decide) ?_
  refine lv_istore (lv' := [(4, .int (nI 0)), (3, .int (nI 0)), (0, .ref (ad 0)), (1, .int (nI w)), (2, .int (nI v))]) hx hb dX3_blown_3 hl (by decide) rfl (fun ls hl => ?_)
  have K5 : ∀ (fuel : Nat) (i : Nat) (x3 : Int32) (g : Nat → Nat), x3 = nI (sumN (blwC fo we lo w v) i) → g = blwL i fo we lo w v → (i ≤ n) → (n - i) < fuel → ∀ (H : Heap) (locs : List Loc), va_P D vwCl (wM cI ad fa n fo ki st we g ra rch q0 q1 q2 q3 fk fc rd rc rv sh sle sla bg hd tr) H → va_D (AW (adM ad)) (wM cI ad fa n fo ki st we g ra rch q0 q1 q2 q3 fk fc rd rc rv sh sle sla bg hd tr) → va_S (AW (adM ad)) s.heap H locs → ∀ ls : Array Slot, lv_has ls 5 [(4, .int (nI i)), (3, .int x3), (0, .ref (ad 0)), (1, .int (nI w)), (2, .int (nI v))] → W p l e ({ frames := 1, cells := 0, slots := 0, locals := 21 }) s m (([.ref (ad 0), .int (nI w), .int (nI v)] : List Value).toArray) below meth c H locs 0 0 (MQ below (va_Qi (fun r (zz : Unit) => r = nI (sumN (blwC fo we lo w v) n)) (fun (zz : Unit) t => va_P D vwCl (wM cI ad fa n fo ki st we (blwL n fo we lo w v) ra rch q0 q1 q2 q3 fk fc rd rc rv sh sle sla bg hd tr) t.heap) (AW (adM ad))) (([.ref (ad 0), .int (nI w), .int (nI v)] : List Value).toArray) s 0 0 (AW (adM ad))) (F0 m 5 ls []) := by
    intro fuel
    induction fuel with
    | zero => intro i x3 g e_x3 e_g hi hmu; exact absurd hmu (Nat.not_lt_zero _)
    | succ fuel ih =>
      intro i x3 g e_x3 e_g hi hmu H locs hP hD hS ls hl
      subst e_x3
      subst e_g
      have hwi := hwe i
      have hli := hlo i
      refine lv_iload hx hb dX3_blown_5 (lv_at hl 0 rfl) ?_
      refine lv_aload_n hx hb dX3_blown_7 rfl (lv_at hl 2 rfl) ?_
      refine va_get (D := D) (ci := 3) (v := .int (nI n)) (C := RX3) (T := TX3) (N := 23) hx hb yX3 (fun _ h => h) hown hG.1 hP 0 rfl rfl 1 (by decide) f65 (fun _ h => h) rfl dX3_blown_8 ?_
      refine lv_icmp_ge (tgt := 65) hx hb dX3_blown_11 (by decide) (fun c_11 => ?_) (fun c_11 => ?_)
      ·
        replace c_11 := (nI_leI (a := n) (b := i) (by omega) (by omega)).mp c_11
        have hin : n = i := by omega
        subst hin
        refine lv_iload_n hx hb dX3_blown_65 rfl (lv_at hl 1 rfl) ?_
        exact xretM hx hb hr hlk dX3_blown_66 hS () (by rfl) (fun t ht => by rw [ht]; exact hP)
      ·
        replace c_11 := (not_congr (nI_leI (a := n) (b := i) (by omega) (by omega))).mp c_11
        refine lv_aload_n hx hb dX3_blown_14 rfl (lv_at hl 2 rfl) ?_
        refine va_get (D := D) (ci := 3) (v := .int (nI fo)) (C := RX3) (T := TX3) (N := 23) hx hb yX3 (fun _ h => h) hown hG.1 hP 0 rfl rfl 2 (by decide) f114 (fun _ h => h) rfl dX3_blown_15 ?_
        refine lv_iload hx hb dX3_blown_18 (lv_at hl 0 rfl) ?_
        refine xrd (va_runS (As := [.int (nI fo), .int (nI i)]) (rest := []) hF (c_X3_isIn l D cI cS fo i (by first | assumption | omega) (by first | assumption | omega)) (va_cwS 2 hts gX3_blown_X3_isIn rfl rfl rfl hD_X3_isIn ⟨Nat.le_of_ble_eq_true rfl, Nat.le_of_ble_eq_true rfl⟩) (PR.pre hG (hP.sub (ws' := []) [] rfl)) rfl rfl hl.1 rfl (lv_room (Nat.le_of_ble_eq_true rfl)) dX3_blown_20 ⟨Nat.le_refl _, Nat.le_refl _⟩) ?_
        refine lv_if_ne (tgt := 59) hx hb dX3_blown_23 (by decide) (fun c_23 => ?_) (fun c_23 => ?_)
        ·
          replace c_23 := bI_n0.mp c_23
          refine lv_iinc (v := nI (i + 1)) (lv' := [(4, .int (nI (i + 1))), (3, .int (nI (sumN (blwC fo we lo w v) i))), (0, .ref (ad 0)), (1, .int (nI w)), (2, .int (nI v))]) hx hb dX3_blown_59 hl (k := 0) rfl xinc1 (by decide) rfl (fun ls hl => ?_)
          refine lv_goto (tgt := 5) hx hb dX3_blown_62 (by decide) ?_
          exact ih (i + 1) (nI (sumN (blwC fo we lo w v) i)) (blwL i fo we lo w v) (by first | (simp [sumN, blwC, c_11, c_23]; done) | (simp [sumN, blwC, c_11, c_23]; congr 1; (repeat' split) <;> omega)) (by first | exact blwL_a c_23 | exact blwL_b c_34 | exact blwL_c c_45 | exact blwL_s c_23 c_34) (by omega) (by omega) _ _ hP hD hS ls (lv_sub hl [0, 1, 2, 3, 4] rfl)
        ·
          replace c_23 := bI_0.mp c_23
          refine lv_aload_n hx hb dX3_blown_26 rfl (lv_at hl 2 rfl) ?_
          refine va_get (D := D) (ci := 3) (v := .ref (ad 3)) (C := RX3) (T := TX3) (N := 23) hx hb yX3 (fun _ h => h) hown hG.1 hP 0 rfl rfl 5 (by decide) f16 (fun _ h => h) rfl dX3_blown_27 ?_
          refine lv_iload hx hb dX3_blown_30 (lv_at hl 0 rfl) ?_
          refine xaldN hx hb hG hP 3 rfl (i) rfl (by omega) (by decide) dX3_blown_32 ?_
          refine lv_iload_n hx hb dX3_blown_33 rfl (lv_at hl 4 rfl) ?_
          refine lv_icmp_ge (tgt := 59) hx hb dX3_blown_34 (by decide) (fun c_34 => ?_) (fun c_34 => ?_)
          ·
            replace c_34 := (nI_leI (a := v) (b := we i) (by omega) (by omega)).mp c_34
            refine lv_iinc (v := nI (i + 1)) (lv' := [(4, .int (nI (i + 1))), (3, .int (nI (sumN (blwC fo we lo w v) i))), (0, .ref (ad 0)), (1, .int (nI w)), (2, .int (nI v))]) hx hb dX3_blown_59 hl (k := 0) rfl xinc1 (by decide) rfl (fun ls hl => ?_)
            refine lv_goto (tgt := 5) hx hb dX3_blown_62 (by decide) ?_
            exact ih (i + 1) (nI (sumN (blwC fo we lo w v) i)) (blwL i fo we lo w v) (by first | (simp [sumN, blwC, c_11, c_23, c_34]; done) | (simp [sumN, blwC, c_11, c_23, c_34]; congr 1; (repeat' split) <;> omega)) (by first | exact blwL_a c_23 | exact blwL_b c_34 | exact blwL_c c_45 | exact blwL_s c_23 c_34) (by omega) (by omega) _ _ hP hD hS ls (lv_sub hl [0, 1, 2, 3, 4] rfl)
          ·
            replace c_34 := (not_congr (nI_leI (a := v) (b := we i) (by omega) (by omega))).mp c_34
            refine lv_aload_n hx hb dX3_blown_37 rfl (lv_at hl 2 rfl) ?_
            refine va_get (D := D) (ci := 3) (v := .ref (ad 4)) (C := RX3) (T := TX3) (N := 23) hx hb yX3 (fun _ h => h) hown hG.1 hP 0 rfl rfl 6 (by decide) f19 (fun _ h => h) rfl dX3_blown_38 ?_
            refine lv_iload hx hb dX3_blown_41 (lv_at hl 0 rfl) ?_
            refine xaldN hx hb hG hP 4 rfl (i) rfl (by omega) (by decide) dX3_blown_43 ?_
            refine xtop (x' := nI (lo i)) (by simp [blwL]) ?_
            refine lv_iload_n hx hb dX3_blown_44 rfl (lv_at hl 3 rfl) ?_
            refine lv_icmp_eq (tgt := 59) hx hb dX3_blown_45 (by decide) (fun c_45 => ?_) (fun c_45 => ?_)
            ·
              replace c_45 := (nI_eq (a := lo i) (b := w) (by omega) (by omega)).mp c_45
              refine lv_iinc (v := nI (i + 1)) (lv' := [(4, .int (nI (i + 1))), (3, .int (nI (sumN (blwC fo we lo w v) i))), (0, .ref (ad 0)), (1, .int (nI w)), (2, .int (nI v))]) hx hb dX3_blown_59 hl (k := 0) rfl xinc1 (by decide) rfl (fun ls hl => ?_)
              refine lv_goto (tgt := 5) hx hb dX3_blown_62 (by decide) ?_
              exact ih (i + 1) (nI (sumN (blwC fo we lo w v) i)) (blwL i fo we lo w v) (by first | (simp [sumN, blwC, c_11, c_23, c_34, c_45]; done) | (simp [sumN, blwC, c_11, c_23, c_34, c_45]; congr 1; (repeat' split) <;> omega)) (by first | exact blwL_a c_23 | exact blwL_b c_34 | exact blwL_c c_45 | exact blwL_s c_23 c_34) (by omega) (by omega) _ _ hP hD hS ls (lv_sub hl [0, 1, 2, 3, 4] rfl)
            ·
              replace c_45 := (not_congr (nI_eq (a := lo i) (b := w) (by omega) (by omega))).mp c_45
              refine lv_aload_n hx hb dX3_blown_48 rfl (lv_at hl 2 rfl) ?_
              refine va_get (D := D) (ci := 3) (v := .ref (ad 4)) (C := RX3) (T := TX3) (N := 23) hx hb yX3 (fun _ h => h) hown hG.1 hP 0 rfl rfl 6 (by decide) f19 (fun _ h => h) rfl dX3_blown_49 ?_
              refine lv_iload hx hb dX3_blown_52 (lv_at hl 0 rfl) ?_
              refine lv_iload_n hx hb dX3_blown_54 rfl (lv_at hl 3 rfl) ?_
              refine xastN hx hb hG hP hD hS 4 rfl (i) (w) rfl rfl (by omega) (by decide) dX3_blown_55 (fun H locs hP hD hS => ?_)
              have hP : va_P D vwCl (wM cI ad fa n fo ki st we (updN (blwL i fo we lo w v) i w) ra rch q0 q1 q2 q3 fk fc rd rc rv sh sle sla bg hd tr) H := hP
              have hD : va_D (AW (adM ad)) (wM cI ad fa n fo ki st we (updN (blwL i fo we lo w v) i w) ra rch q0 q1 q2 q3 fk fc rd rc rv sh sle sla bg hd tr) := hD
              refine lv_iinc (v := nI (sumN (blwC fo we lo w v) i + 1)) (lv' := [(3, .int (nI (sumN (blwC fo we lo w v) i + 1))), (4, .int (nI i)), (0, .ref (ad 0)), (1, .int (nI w)), (2, .int (nI v))]) hx hb dX3_blown_56 hl (k := 1) rfl xinc1 (by decide) rfl (fun ls hl => ?_)
              refine lv_iinc (v := nI (i + 1)) (lv' := [(4, .int (nI (i + 1))), (3, .int (nI (sumN (blwC fo we lo w v) i + 1))), (0, .ref (ad 0)), (1, .int (nI w)), (2, .int (nI v))]) hx hb dX3_blown_59 hl (k := 1) rfl xinc1 (by decide) rfl (fun ls hl => ?_)
              refine lv_goto (tgt := 5) hx hb dX3_blown_62 (by decide) ?_
              exact ih (i + 1) (nI (sumN (blwC fo we lo w v) i + 1)) (updN (blwL i fo we lo w v) i w) (by first | (simp [sumN, blwC, c_11, c_23, c_34, c_45]; done) | (simp [sumN, blwC, c_11, c_23, c_34, c_45]; congr 1; (repeat' split) <;> omega)) (by first | exact blwL_a c_23 | exact blwL_b c_34 | exact blwL_c c_45 | exact blwL_s c_23 c_34) (by omega) (by omega) _ _ hP hD hS ls (lv_sub hl [0, 1, 2, 3, 4] rfl)
  exact K5 _ 0 (nI 0) lo (by first | rfl | exact (blwL_0 ..).symm | omega) (by first | rfl | exact (blwL_0 ..).symm | omega) (by first | rfl | exact (blwL_0 ..).symm | omega) (Nat.lt_succ_self _) _ _ hP hD hS ls (lv_sub hl [0, 1, 2, 3, 4] rfl)

set_option maxHeartbeats 4000000 in
set_option maxRecDepth 100000 in
theorem c_X3_gust (l : Launch) (D : va_G) (cI cS : ClassId) (ad : Nat → Nat) (fa : Nat) (n : Nat) (fo : Nat) (ki : Nat → Nat) (st : Nat → Nat) (we : Nat → Nat) (lo : Nat → Nat) (ra : Nat) (rch : Nat) (q0 : Nat → Int32) (q1 : Nat → Int32) (q2 : Nat → Int32) (q3 : Nat → Int32) (fk : Nat) (fc : Nat → Nat) (rd : Nat) (rc : Nat → Nat) (rv : Nat → Nat) (sh : Nat → Bool) (sle : Nat → Nat) (sla : Nat → Nat) (bg : Nat → Int32) (hd : Nat → Int32) (tr : Int32) (k : Int32) (v : Int32) (hnd : nd (adM ad)) (hn : n ≤ 8) (hfo : fo < 256) (hwe : ∀ j, we j ≤ 9) (hlo : ∀ j, lo j ≤ 3) : Met l yX3_gust wsX3_gust ({ frames := 2, cells := 0, slots := 0, locals := 45 }) (PR D cI cS [.ref (ad 0), .int k, .int v] (wM cI ad fa n fo ki st we lo ra rch q0 q1 q2 q3 fk fc rd rc rv sh sle sla bg hd tr)) (va_Qi (fun r (zz : Unit) => r = A_gust n fo we lo k v) (fun (zz : Unit) t => va_P D vwCl (wM cI ad fa n fo ki st we (S_gust n fo we lo k v) ra rch q0 q1 q2 q3 fk fc rd rc rv sh sle sla bg hd tr) t.heap) (AW (adM ad))) 0 0 (AW (adM ad)) := by
  refine startM (by decide) rfl (Nat.le_of_ble_eq_true rfl) hnd rfl ?_
  intro p e s m below meth c hx hb hr hts hown hlk hml hG hP hD hS ls hl
  have hl : lv_has ls 3 [(0, .ref (ad 0)), (1, .int k), (2, .int v)] := hl
  have f65 := hts (.fieldLink RX3 65 "ChairBallotModel" "chairs" "I") (by decide +kernel)
  have yX3 : ∀ w ∈ u_ws RX3 TX3 23, w.before _ s = true := fun w h => hts w ((by decide +kernel : ∀ w ∈ wsX30, w ∈ wsX3_gust) w h)
  have hF : CallFix p m c cX3_gust 3 s _ wsX3_gust RX3 := ⟨hx, hb, hml, hown, hts⟩
  refine lv_aload_n hx hb dX3_gust_0 rfl (lv_at hl 0 rfl) ?_
  refine va_get (D := D) (ci := 3) (v := .int (nI n)) (C := RX3) (T := TX3) (N := 23) hx hb yX3 (fun _ h => h) hown hG.1 hP 0 rfl rfl 1 (by decide) f65 (fun _ h => h) rfl dX3_gust_1 ?_
  refine lv_if_ne (tgt := 10) hx hb dX3_gust_4 (by decide) (fun c_4 => ?_) (fun c_4 => ?_)
  ·
    replace c_4 := (not_congr (nI_eq (a := n) (b := 0) (by omega) (by omega))).mp c_4
    have hn0 : ¬ n = 0 := by omega
    refine lv_iload_n hx hb dX3_gust_10 rfl (lv_at hl 1 rfl) ?_
    refine lv_i2l (v := k.toInt64) hx hb dX3_gust_11 rfl ?_
    refine lv_lconst (v := lN 0) hx hb dX3_gust_12 rfl ?_
    refine lv_ldc2 (v := 3) hx hb hown (hts (.constantLong RX3 138 (3)) (by decide +kernel)) dX3_gust_13 ?_
    refine xtopl (x' := lN 3) rfl ?_
    refine xrd (va_runS (As := [.long k.toInt64, .long (lN 0), .long (lN 3)]) (rest := []) hF (c_X3_in l D cI cS k 0 3 (by first | assumption | omega) (by first | assumption | omega)) (va_cwS 3 hts gX3_gust_X3_in rfl rfl rfl hD_X3_in ⟨Nat.le_of_ble_eq_true rfl, Nat.le_of_ble_eq_true rfl⟩) (PR.pre hG (hP.sub (ws' := []) [] rfl)) rfl rfl hl.1 rfl (lv_room (Nat.le_of_ble_eq_true rfl)) dX3_gust_16 ⟨Nat.le_refl _, Nat.le_refl _⟩) ?_
    refine xtop (x' := bI (rgB 0 3 k)) rfl ?_
    refine lv_if_eq (tgt := 43) hx hb dX3_gust_19 (by decide) (fun c_19 => ?_) (fun c_19 => ?_)
    ·
      replace c_19 := bI_0.mp c_19
      refine lv_bipush (v := (-2)) hx hb dX3_gust_43 (by decide) ?_
      exact xretM hx hb hr hlk dX3_gust_45 hS () (by simp [A_gust, c_4, hn0, c_19]) (fun t ht => by rw [ht]; rw [show S_gust n fo we lo k v = lo from by simp [S_gust, c_4, hn0, c_19]]; exact hP)
    ·
      replace c_19 := bI_n0.mp c_19
      obtain ⟨j, hj0, hj1, rfl⟩ := rgB_nat (by decide) c_19
      have hclj := cl8 (j := j) (by omega)
      refine lv_iload_n hx hb dX3_gust_22 rfl (lv_at hl 2 rfl) ?_
      refine lv_i2l (v := v.toInt64) hx hb dX3_gust_23 rfl ?_
      refine lv_lconst (v := lN 0) hx hb dX3_gust_24 rfl ?_
      refine lv_ldc2 (v := 10) hx hb hown (hts (.constantLong RX3 152 (10)) (by decide +kernel)) dX3_gust_25 ?_
      refine xtopl (x' := lN 10) rfl ?_
      refine xrd (va_runS (As := [.long v.toInt64, .long (lN 0), .long (lN 10)]) (rest := []) hF (c_X3_in l D cI cS v 0 10 (by first | assumption | omega) (by first | assumption | omega)) (va_cwS 3 hts gX3_gust_X3_in rfl rfl rfl hD_X3_in ⟨Nat.le_of_ble_eq_true rfl, Nat.le_of_ble_eq_true rfl⟩) (PR.pre hG (hP.sub (ws' := []) [] rfl)) rfl rfl hl.1 rfl (lv_room (Nat.le_of_ble_eq_true rfl)) dX3_gust_28 ⟨Nat.le_refl _, Nat.le_refl _⟩) ?_
      refine xtop (x' := bI (rgB 0 10 v)) rfl ?_
      refine lv_if_eq (tgt := 43) hx hb dX3_gust_31 (by decide) (fun c_31 => ?_) (fun c_31 => ?_)
      ·
        replace c_31 := bI_0.mp c_31
        refine lv_bipush (v := (-2)) hx hb dX3_gust_43 (by decide) ?_
        exact xretM hx hb hr hlk dX3_gust_45 hS () (by simp [A_gust, c_4, hn0, c_19, hclj, c_31]) (fun t ht => by rw [ht]; rw [show S_gust n fo we lo (nI j) v = lo from by simp [S_gust, c_4, hn0, c_19, hclj, c_31]]; exact hP)
      ·
        replace c_31 := bI_n0.mp c_31
        obtain ⟨w, hw0, hw1, rfl⟩ := rgB_nat (by decide) c_31
        have hclw := cl8 (j := w) (by omega)
        refine lv_aload_n hx hb dX3_gust_34 rfl (lv_at hl 0 rfl) ?_
        refine lv_iload_n hx hb dX3_gust_35 rfl (lv_at hl 1 rfl) ?_
        refine lv_iload_n hx hb dX3_gust_36 rfl (lv_at hl 2 rfl) ?_
        refine xmuW (va_runV (As := [.int (nI j), .int (nI w)]) (rest := []) hF (c_X3_blown l D cI cS ad fa n fo ki st we lo ra rch q0 q1 q2 q3 fk fc rd rc rv sh sle sla bg hd tr j w hnd (by first | assumption | omega) (by first | assumption | omega) (by first | assumption | omega) (by first | assumption | omega) (by first | assumption | omega) (by first | assumption | omega)) (cwV 2 hts gX3_gust_X3_blown rfl rfl rfl hV_X3_blown ⟨Nat.le_of_ble_eq_true rfl, Nat.le_of_ble_eq_true rfl⟩) (PR.preV hG hP (ci := 3) rfl rfl) rfl rfl hl.1 rfl (lv_room (Nat.le_of_ble_eq_true rfl)) dX3_gust_37 ⟨Nat.le_refl _, Nat.le_refl _⟩) hD hS rfl (fun _ => rfl) (fun r_37 u_37 H locs q_37 hP hD hS => ?_)
        try dsimp only at q_37 hP hD
        have e_37 := q_37
        subst e_37
        have hP : va_P D vwCl (wM cI ad fa n fo ki st we (blwL n fo we lo j w) ra rch q0 q1 q2 q3 fk fc rd rc rv sh sle sla bg hd tr) H := hP
        have hD : va_D (AW (adM ad)) (wM cI ad fa n fo ki st we (blwL n fo we lo j w) ra rch q0 q1 q2 q3 fk fc rd rc rv sh sle sla bg hd tr) := hD
        refine lv_goto (tgt := 45) hx hb dX3_gust_40 (by decide) ?_
        exact xretM hx hb hr hlk dX3_gust_45 hS () (by simp [A_gust, c_4, hn0, c_19, hclj, c_31, hclw]) (fun t ht => by rw [ht]; rw [show S_gust n fo we lo (nI j) (nI w) = (blwL n fo we lo j w) from by simp [S_gust, c_4, hn0, c_19, hclj, c_31, hclw]]; exact hP)
  ·
    replace c_4 := (nI_eq (a := n) (b := 0) (by omega) (by omega)).mp c_4
    have hn0 : n = 0 := by omega
    refine lv_bipush (v := (-3)) hx hb dX3_gust_7 (by decide) ?_
    exact xretM hx hb hr hlk dX3_gust_9 hS () (by simp [A_gust, c_4, hn0]) (fun t ht => by rw [ht]; rw [show S_gust n fo we lo k v = lo from by simp [S_gust, c_4, hn0]]; exact hP)

set_option maxHeartbeats 4000000 in
set_option maxRecDepth 100000 in
theorem c_X3_rain (l : Launch) (D : va_G) (cI cS : ClassId) (ad : Nat → Nat) (fa : Nat) (n : Nat) (fo : Nat) (ki : Nat → Nat) (st : Nat → Nat) (we : Nat → Nat) (lo : Nat → Nat) (ra : Nat) (rch : Nat) (q0 : Nat → Int32) (q1 : Nat → Int32) (q2 : Nat → Int32) (q3 : Nat → Int32) (fk : Nat) (fc : Nat → Nat) (rd : Nat) (rc : Nat → Nat) (rv : Nat → Nat) (sh : Nat → Bool) (sle : Nat → Nat) (sla : Nat → Nat) (bg : Nat → Int32) (hd : Nat → Int32) (tr : Int32) (hnd : nd (adM ad)) (hn : n ≤ 8) (hfo : fo < 256) : Met l yX3_rain wsX3_rain ({ frames := 1, cells := 0, slots := 0, locals := 22 }) (PR D cI cS [.ref (ad 0)] (wM cI ad fa n fo ki st we lo ra rch q0 q1 q2 q3 fk fc rd rc rv sh sle sla bg hd tr)) (va_Qi (fun r (zz : Unit) => r = A_rain n fo) (fun (zz : Unit) t => va_P D vwCl (wM cI ad fa n (S_rain n fo) ki st we lo ra rch q0 q1 q2 q3 fk fc rd rc rv sh sle sla bg hd tr) t.heap) (AW (adM ad))) 0 0 (AW (adM ad)) := by
  refine startM (by decide) rfl (Nat.le_of_ble_eq_true rfl) hnd rfl ?_
  intro p e s m below meth c hx hb hr hts hown hlk hml hG hP hD hS ls hl
  have hl : lv_has ls 2 [(0, .ref (ad 0))] := hl
  have f65 := hts (.fieldLink RX3 65 "ChairBallotModel" "chairs" "I") (by decide +kernel)
  have f114 := hts (.fieldLink RX3 114 "ChairBallotModel" "folded" "I") (by decide +kernel)
  have yX3 : ∀ w ∈ u_ws RX3 TX3 23, w.before _ s = true := fun w h => hts w ((by decide +kernel : ∀ w ∈ wsX30, w ∈ wsX3_rain) w h)
  have hF : CallFix p m c cX3_rain 2 s _ wsX3_rain RX3 := ⟨hx, hb, hml, hown, hts⟩
  refine lv_aload_n hx hb dX3_rain_0 rfl (lv_at hl 0 rfl) ?_
  refine va_get (D := D) (ci := 3) (v := .int (nI n)) (C := RX3) (T := TX3) (N := 23) hx hb yX3 (fun _ h => h) hown hG.1 hP 0 rfl rfl 1 (by decide) f65 (fun _ h => h) rfl dX3_rain_1 ?_
  refine lv_if_ne (tgt := 10) hx hb dX3_rain_4 (by decide) (fun c_4 => ?_) (fun c_4 => ?_)
  ·
    replace c_4 := (not_congr (nI_eq (a := n) (b := 0) (by omega) (by omega))).mp c_4
    have hn0 : ¬ n = 0 := by omega
    refine lv_aload_n hx hb dX3_rain_10 rfl (lv_at hl 0 rfl) ?_
    refine va_get (D := D) (ci := 3) (v := .int (nI n)) (C := RX3) (T := TX3) (N := 23) hx hb yX3 (fun _ h => h) hown hG.1 hP 0 rfl rfl 1 (by decide) f65 (fun _ h => h) rfl dX3_rain_11 ?_
    refine lv_aload_n hx hb dX3_rain_14 rfl (lv_at hl 0 rfl) ?_
    refine va_get (D := D) (ci := 3) (v := .int (nI fo)) (C := RX3) (T := TX3) (N := 23) hx hb yX3 (fun _ h => h) hown hG.1 hP 0 rfl rfl 2 (by decide) f114 (fun _ h => h) rfl dX3_rain_15 ?_
    refine xrd (va_runS (As := [.int (nI fo)]) (rest := [.int (nI n)]) hF (c_X3_bits l D cI cS fo (by first | assumption | omega)) (va_cwS 1 hts gX3_rain_X3_bits rfl rfl rfl hD_X3_bits ⟨Nat.le_of_ble_eq_true rfl, Nat.le_of_ble_eq_true rfl⟩) (PR.pre hG (hP.sub (ws' := []) [] rfl)) rfl rfl hl.1 rfl (lv_room (Nat.le_of_ble_eq_true rfl)) dX3_rain_18 ⟨Nat.le_refl _, Nat.le_refl _⟩) ?_
    refine lv_isub hx hb dX3_rain_21 ?_
    refine lv_istore_n (lv' := [(1, .int ((nI n) - (nI (popN fo)))), (0, .ref (ad 0))]) hx hb dX3_rain_22 rfl hl (by decide) rfl (fun ls hl => ?_)
    refine lv_aload_n hx hb dX3_rain_23 rfl (lv_at hl 1 rfl) ?_
    refine lv_aload_n hx hb dX3_rain_24 rfl (lv_at hl 1 rfl) ?_
    refine xrd (va_runV (As := []) (rest := [.ref (ad 0)]) hF (c_X3_everyChair l D cI cS ad fa n fo ki st we lo ra rch q0 q1 q2 q3 fk fc rd rc rv sh sle sla bg hd tr (by first | assumption | omega)) (cwV 0 hts gX3_rain_X3_everyChair rfl rfl rfl hV_X3_everyChair ⟨Nat.le_of_ble_eq_true rfl, Nat.le_of_ble_eq_true rfl⟩) (PR.preV hG hP (ci := 3) rfl rfl) rfl rfl hl.1 rfl (lv_room (Nat.le_of_ble_eq_true rfl)) dX3_rain_25 ⟨Nat.le_refl _, Nat.le_refl _⟩) ?_
    refine va_put (D := D) (ci := 3) (v := .int (nI (2 ^ n - 1))) (ty := .int) (C := RX3) (T := TX3) (N := 23) hx hb yX3 (fun _ h => h) tyX3 tyX3_ok nmX3 hown hG.1 hP hD hS 0 rfl rfl 2 (by decide) f114 (fun _ h => h) rfl (by decide +kernel) rfl rfl (Nat.le_of_ble_eq_true rfl) dX3_rain_28 (fun H locs hP hD hS => ?_)
    have hP : va_P D vwCl (wM cI ad fa n (2 ^ n - 1) ki st we lo ra rch q0 q1 q2 q3 fk fc rd rc rv sh sle sla bg hd tr) H := hP
    have hD : va_D (AW (adM ad)) (wM cI ad fa n (2 ^ n - 1) ki st we lo ra rch q0 q1 q2 q3 fk fc rd rc rv sh sle sla bg hd tr) := hD
    refine lv_iload_n hx hb dX3_rain_31 rfl (lv_at hl 0 rfl) ?_
    exact xretM hx hb hr hlk dX3_rain_32 hS () (by simp [A_rain, c_4, hn0]) (fun t ht => by rw [ht]; rw [show S_rain n fo = (2 ^ n - 1) from by simp [S_rain, c_4, hn0]]; exact hP)
  ·
    replace c_4 := (nI_eq (a := n) (b := 0) (by omega) (by omega)).mp c_4
    have hn0 : n = 0 := by omega
    refine lv_bipush (v := (-3)) hx hb dX3_rain_7 (by decide) ?_
    exact xretM hx hb hr hlk dX3_rain_9 hS () (by simp [A_rain, c_4, hn0]) (fun t ht => by rw [ht]; rw [show S_rain n fo = fo from by simp [S_rain, c_4, hn0]]; exact hP)

set_option maxHeartbeats 4000000 in
set_option maxRecDepth 100000 in
theorem c_X3_open (l : Launch) (D : va_G) (cI cS : ClassId) (ad : Nat → Nat) (fa : Nat) (n : Nat) (fo : Nat) (ki : Nat → Nat) (st : Nat → Nat) (we : Nat → Nat) (lo : Nat → Nat) (ra : Nat) (rch : Nat) (q0 : Nat → Int32) (q1 : Nat → Int32) (q2 : Nat → Int32) (q3 : Nat → Int32) (fk : Nat) (fc : Nat → Nat) (rd : Nat) (rc : Nat → Nat) (rv : Nat → Nat) (sh : Nat → Bool) (sle : Nat → Nat) (sla : Nat → Nat) (bg : Nat → Int32) (hd : Nat → Int32) (tr : Int32) (k : Int32) (hnd : nd (adM ad)) (hn : n ≤ 8) (hfo : fo < 256) : Met l yX3_open wsX3_open ({ frames := 2, cells := 0, slots := 0, locals := 46 }) (PR D cI cS [.ref (ad 0), .int k] (wM cI ad fa n fo ki st we lo ra rch q0 q1 q2 q3 fk fc rd rc rv sh sle sla bg hd tr)) (va_Qi (fun r (zz : Unit) => r = A_open n fo k) (fun (zz : Unit) t => va_P D vwCl (wM cI ad fa n (S_open n fo k) ki st we lo ra rch q0 q1 q2 q3 fk fc rd rc rv sh sle sla bg hd tr) t.heap) (AW (adM ad))) 0 0 (AW (adM ad)) := by
  refine startM (by decide) rfl (Nat.le_of_ble_eq_true rfl) hnd rfl ?_
  intro p e s m below meth c hx hb hr hts hown hlk hml hG hP hD hS ls hl
  have hl : lv_has ls 2 [(0, .ref (ad 0)), (1, .int k)] := hl
  have f114 := hts (.fieldLink RX3 114 "ChairBallotModel" "folded" "I") (by decide +kernel)
  have yX3 : ∀ w ∈ u_ws RX3 TX3 23, w.before _ s = true := fun w h => hts w ((by decide +kernel : ∀ w ∈ wsX30, w ∈ wsX3_open) w h)
  have hF : CallFix p m c cX3_open 2 s _ wsX3_open RX3 := ⟨hx, hb, hml, hown, hts⟩
  refine lv_aload_n hx hb dX3_open_0 rfl (lv_at hl 0 rfl) ?_
  refine lv_iload_n hx hb dX3_open_1 rfl (lv_at hl 1 rfl) ?_
  refine xrd (va_runV (As := [.int k]) (rest := []) hF (c_X3_noChair l D cI cS ad fa n fo ki st we lo ra rch q0 q1 q2 q3 fk fc rd rc rv sh sle sla bg hd tr k (by first | assumption | omega)) (cwV 1 hts gX3_open_X3_noChair rfl rfl rfl hV_X3_noChair ⟨Nat.le_of_ble_eq_true rfl, Nat.le_of_ble_eq_true rfl⟩) (PR.preV hG hP (ci := 3) rfl rfl) rfl rfl hl.1 rfl (lv_room (Nat.le_of_ble_eq_true rfl)) dX3_open_2 ⟨Nat.le_refl _, Nat.le_refl _⟩) ?_
  refine lv_if_eq (tgt := 10) hx hb dX3_open_5 (by decide) (fun c_5 => ?_) (fun c_5 => ?_)
  ·
    replace c_5 := bI_0.mp c_5
    replace c_5 := (by simpa using c_5 : (hasB n k) = true)
    obtain ⟨j, hj, rfl⟩ := hasB_t c_5
    have hclj := cl8 (j := j) (by omega)
    refine lv_aload_n hx hb dX3_open_10 rfl (lv_at hl 0 rfl) ?_
    refine va_get (D := D) (ci := 3) (v := .int (nI fo)) (C := RX3) (T := TX3) (N := 23) hx hb yX3 (fun _ h => h) hown hG.1 hP 0 rfl rfl 2 (by decide) f114 (fun _ h => h) rfl dX3_open_11 ?_
    refine lv_iload_n hx hb dX3_open_14 rfl (lv_at hl 1 rfl) ?_
    refine xrd (va_runS (As := [.int (nI fo), .int (nI j)]) (rest := []) hF (c_X3_isIn l D cI cS fo j (by first | assumption | exact xor_256 hfo (by omega)) (by first | assumption | omega)) (va_cwS 2 hts gX3_open_X3_isIn rfl rfl rfl hD_X3_isIn ⟨Nat.le_of_ble_eq_true rfl, Nat.le_of_ble_eq_true rfl⟩) (PR.pre hG (hP.sub (ws' := []) [] rfl)) rfl rfl hl.1 rfl (lv_room (Nat.le_of_ble_eq_true rfl)) dX3_open_15 ⟨Nat.le_refl _, Nat.le_refl _⟩) ?_
    refine lv_if_ne (tgt := 24) hx hb dX3_open_18 (by decide) (fun c_18 => ?_) (fun c_18 => ?_)
    ·
      replace c_18 := bI_n0.mp c_18
      refine lv_aload_n hx hb dX3_open_24 rfl (lv_at hl 0 rfl) ?_
      refine lv_dup hx hb dX3_open_25 rfl ?_
      refine va_get (D := D) (ci := 3) (v := .int (nI fo)) (C := RX3) (T := TX3) (N := 23) hx hb yX3 (fun _ h => h) hown hG.1 hP 0 rfl rfl 2 (by decide) f114 (fun _ h => h) rfl dX3_open_26 ?_
      refine lv_iconst (v := nI 1) hx hb dX3_open_29 (by decide) ?_
      refine lv_iload_n hx hb dX3_open_30 rfl (lv_at hl 1 rfl) ?_
      refine lv_ishl hx hb dX3_open_31 ?_
      refine xtop (x' := nI (2 ^ j)) (by exact shl1 j (by omega)) ?_
      refine lv_iconst (v := (-1)) hx hb dX3_open_32 (by decide) ?_
      refine lv_ixor hx hb dX3_open_33 ?_
      refine lv_iand hx hb dX3_open_34 ?_
      refine xtop (x' := nI (fo ^^^ 2 ^ j)) (by exact clr_bit fo hfo j (by omega) c_18) ?_
      refine va_put (D := D) (ci := 3) (v := .int (nI (fo ^^^ 2 ^ j))) (ty := .int) (C := RX3) (T := TX3) (N := 23) hx hb yX3 (fun _ h => h) tyX3 tyX3_ok nmX3 hown hG.1 hP hD hS 0 rfl rfl 2 (by decide) f114 (fun _ h => h) rfl (by decide +kernel) rfl rfl (Nat.le_of_ble_eq_true rfl) dX3_open_35 (fun H locs hP hD hS => ?_)
      have hP : va_P D vwCl (wM cI ad fa n (fo ^^^ 2 ^ j) ki st we lo ra rch q0 q1 q2 q3 fk fc rd rc rv sh sle sla bg hd tr) H := hP
      have hD : va_D (AW (adM ad)) (wM cI ad fa n (fo ^^^ 2 ^ j) ki st we lo ra rch q0 q1 q2 q3 fk fc rd rc rv sh sle sla bg hd tr) := hD
      refine lv_aload_n hx hb dX3_open_38 rfl (lv_at hl 0 rfl) ?_
      refine va_get (D := D) (ci := 3) (v := .int (nI (fo ^^^ 2 ^ j))) (C := RX3) (T := TX3) (N := 23) hx hb yX3 (fun _ h => h) hown hG.1 hP 0 rfl rfl 2 (by decide) f114 (fun _ h => h) rfl dX3_open_39 ?_
      refine xrd (va_runS (As := [.int (nI (fo ^^^ 2 ^ j))]) (rest := []) hF (c_X3_bits l D cI cS (fo ^^^ 2 ^ j) (by first | assumption | exact xor_256 hfo (by omega))) (va_cwS 1 hts gX3_open_X3_bits rfl rfl rfl hD_X3_bits ⟨Nat.le_of_ble_eq_true rfl, Nat.le_of_ble_eq_true rfl⟩) (PR.pre hG (hP.sub (ws' := []) [] rfl)) rfl rfl hl.1 rfl (lv_room (Nat.le_of_ble_eq_true rfl)) dX3_open_42 ⟨Nat.le_refl _, Nat.le_refl _⟩) ?_
      exact xretM hx hb hr hlk dX3_open_45 hS () (by first | (simp [A_open, c_5, hclj, c_18]; done) | (simp [A_open, opn, c_5, hclj, c_18]; done)) (fun t ht => by rw [ht]; rw [show S_open n fo (nI j) = (fo ^^^ 2 ^ j) from by simp [S_open, opn, c_5, hclj, c_18]]; exact hP)
    ·
      replace c_18 := bI_0.mp c_18
      refine lv_bipush (v := (-3)) hx hb dX3_open_21 (by decide) ?_
      exact xretM hx hb hr hlk dX3_open_23 hS () (by first | (simp [A_open, c_5, hclj, c_18]; done) | (simp [A_open, opn, c_5, hclj, c_18]; done)) (fun t ht => by rw [ht]; rw [show S_open n fo (nI j) = fo from by simp [S_open, opn, c_5, hclj, c_18]]; exact hP)
  ·
    replace c_5 := bI_n0.mp c_5
    replace c_5 := (by simpa using c_5 : (hasB n k) = false)
    refine lv_iconst (v := (-1)) hx hb dX3_open_8 (by decide) ?_
    exact xretM hx hb hr hlk dX3_open_9 hS () (by first | (simp [A_open, c_5]; done) | (simp [A_open, opn, c_5]; done)) (fun t ht => by rw [ht]; rw [show S_open n fo k = fo from by simp [S_open, opn, c_5]]; exact hP)

set_option maxHeartbeats 4000000 in
set_option maxRecDepth 100000 in
theorem c_X3_keepAll (l : Launch) (D : va_G) (cI cS : ClassId) (ad : Nat → Nat) (fa : Nat) (n : Nat) (fo : Nat) (ki : Nat → Nat) (st : Nat → Nat) (we : Nat → Nat) (lo : Nat → Nat) (ra : Nat) (rch : Nat) (q0 : Nat → Int32) (q1 : Nat → Int32) (q2 : Nat → Int32) (q3 : Nat → Int32) (fk : Nat) (fc : Nat → Nat) (rd : Nat) (rc : Nat → Nat) (rv : Nat → Nat) (sh : Nat → Bool) (sle : Nat → Nat) (sla : Nat → Nat) (bg : Nat → Int32) (hd : Nat → Int32) (tr : Int32) (hnd : nd (adM ad)) (hn : n ≤ 8) : Met l yX3_keepAll wsX3_keepAll ({ frames := 0, cells := 0, slots := 0, locals := 0 }) (PR D cI cS [.ref (ad 0)] (wM cI ad fa n fo ki st we lo ra rch q0 q1 q2 q3 fk fc rd rc rv sh sle sla bg hd tr)) (va_Qv (fun (zz : Unit) => True) (fun (zz : Unit) t => va_P D vwCl (wM cI ad fa n fo ki st we lo ra rch q0 q1 q2 q3 fo (kpF n lo fc) rd rc rv sh sle sla bg hd tr) t.heap) (AW (adM ad))) 0 0 (AW (adM ad)) := by
  refine startM (by decide) rfl (Nat.le_of_ble_eq_true rfl) hnd rfl ?_
  intro p e s m below meth c hx hb hr hts hown hlk hml hG hP hD hS ls hl
  have hl : lv_has ls 2 [(0, .ref (ad 0))] := hl
  have f114 := hts (.fieldLink RX3 114 "ChairBallotModel" "folded" "I") (by decide +kernel)
  have f164 := hts (.fieldLink RX3 164 "ChairBallotModel" "foldedKept" "I") (by decide +kernel)
  have f65 := hts (.fieldLink RX3 65 "ChairBallotModel" "chairs" "I") (by decide +kernel)
  have f34 := hts (.fieldLink RX3 34 "ChairBallotModel" "facesKept" "[I") (by decide +kernel)
  have f19 := hts (.fieldLink RX3 19 "ChairBallotModel" "facesOf" "[I") (by decide +kernel)
  have yX3 : ∀ w ∈ u_ws RX3 TX3 23, w.before _ s = true := fun w h => hts w ((by decide +kernel : ∀ w ∈ wsX30, w ∈ wsX3_keepAll) w h)
  have hF : CallFix p m c cX3_keepAll 2 s _ wsX3_keepAll RX3 := ⟨hx, hb, hml, hown, hts⟩
  refine lv_aload_n hx hb dX3_keepAll_0 rfl (lv_at hl 0 rfl) ?_
  refine lv_aload_n hx hb dX3_keepAll_1 rfl (lv_at hl 0 rfl) ?_
  refine va_get (D := D) (ci := 3) (v := .int (nI fo)) (C := RX3) (T := TX3) (N := 23) hx hb yX3 (fun _ h => h) hown hG.1 hP 0 rfl rfl 2 (by decide) f114 (fun _ h => h) rfl dX3_keepAll_2 ?_
  refine va_put (D := D) (ci := 3) (v := .int (nI fo)) (ty := .int) (C := RX3) (T := TX3) (N := 23) hx hb yX3 (fun _ h => h) tyX3 tyX3_ok nmX3 hown hG.1 hP hD hS 0 rfl rfl 13 (by decide) f164 (fun _ h => h) rfl (by decide +kernel) rfl rfl (Nat.le_of_ble_eq_true rfl) dX3_keepAll_5 (fun H locs hP hD hS => ?_)
  have hP : va_P D vwCl (wM cI ad fa n fo ki st we lo ra rch q0 q1 q2 q3 fo fc rd rc rv sh sle sla bg hd tr) H := hP
  have hD : va_D (AW (adM ad)) (wM cI ad fa n fo ki st we lo ra rch q0 q1 q2 q3 fo fc rd rc rv sh sle sla bg hd tr) := hD
  refine lv_iconst (v := nI 0) hx hb dX3_keepAll_8 (by decide) ?_
  refine lv_istore_n (lv' := [(1, .int (nI 0)), (0, .ref (ad 0))]) hx hb dX3_keepAll_9 rfl hl (by decide) rfl (fun ls hl => ?_)
  have K10 : ∀ (fuel : Nat) (i : Nat) (g : Nat → Nat), g = kpF i lo fc → (i ≤ n) → (n - i) < fuel → ∀ (H : Heap) (locs : List Loc), va_P D vwCl (wM cI ad fa n fo ki st we lo ra rch q0 q1 q2 q3 fo g rd rc rv sh sle sla bg hd tr) H → va_D (AW (adM ad)) (wM cI ad fa n fo ki st we lo ra rch q0 q1 q2 q3 fo g rd rc rv sh sle sla bg hd tr) → va_S (AW (adM ad)) s.heap H locs → ∀ ls : Array Slot, lv_has ls 2 [(1, .int (nI i)), (0, .ref (ad 0))] → W p l e ({ frames := 0, cells := 0, slots := 0, locals := 0 }) s m (([.ref (ad 0)] : List Value).toArray) below meth c H locs 0 0 (MQ below (va_Qv (fun (zz : Unit) => True) (fun (zz : Unit) t => va_P D vwCl (wM cI ad fa n fo ki st we lo ra rch q0 q1 q2 q3 fo (kpF n lo fc) rd rc rv sh sle sla bg hd tr) t.heap) (AW (adM ad))) (([.ref (ad 0)] : List Value).toArray) s 0 0 (AW (adM ad))) (F0 m 10 ls []) := by
    intro fuel
    induction fuel with
    | zero => intro i g e_g hi hmu; exact absurd hmu (Nat.not_lt_zero _)
    | succ fuel ih =>
      intro i g e_g hi hmu H locs hP hD hS ls hl
      subst e_g
      refine lv_iload_n hx hb dX3_keepAll_10 rfl (lv_at hl 0 rfl) ?_
      refine lv_aload_n hx hb dX3_keepAll_11 rfl (lv_at hl 1 rfl) ?_
      refine va_get (D := D) (ci := 3) (v := .int (nI n)) (C := RX3) (T := TX3) (N := 23) hx hb yX3 (fun _ h => h) hown hG.1 hP 0 rfl rfl 1 (by decide) f65 (fun _ h => h) rfl dX3_keepAll_12 ?_
      refine lv_icmp_ge (tgt := 36) hx hb dX3_keepAll_15 (by decide) (fun c_15 => ?_) (fun c_15 => ?_)
      ·
        replace c_15 := (nI_leI (a := n) (b := i) (by omega) (by omega)).mp c_15
        have hin : n = i := by omega
        subst hin
        exact xretMv hx hb hr hlk dX3_keepAll_36 hS () (by trivial) (fun t ht => by rw [ht]; exact hP)
      ·
        replace c_15 := (not_congr (nI_leI (a := n) (b := i) (by omega) (by omega))).mp c_15
        refine lv_aload_n hx hb dX3_keepAll_18 rfl (lv_at hl 1 rfl) ?_
        refine va_get (D := D) (ci := 3) (v := .ref (ad 9)) (C := RX3) (T := TX3) (N := 23) hx hb yX3 (fun _ h => h) hown hG.1 hP 0 rfl rfl 14 (by decide) f34 (fun _ h => h) rfl dX3_keepAll_19 ?_
        refine lv_iload_n hx hb dX3_keepAll_22 rfl (lv_at hl 0 rfl) ?_
        refine lv_aload_n hx hb dX3_keepAll_23 rfl (lv_at hl 1 rfl) ?_
        refine va_get (D := D) (ci := 3) (v := .ref (ad 4)) (C := RX3) (T := TX3) (N := 23) hx hb yX3 (fun _ h => h) hown hG.1 hP 0 rfl rfl 6 (by decide) f19 (fun _ h => h) rfl dX3_keepAll_24 ?_
        refine lv_iload_n hx hb dX3_keepAll_27 rfl (lv_at hl 0 rfl) ?_
        refine xaldN hx hb hG hP 4 rfl (i) rfl (by omega) (by decide) dX3_keepAll_28 ?_
        refine xastN hx hb hG hP hD hS 9 rfl (i) (lo i) rfl rfl (by omega) (by decide) dX3_keepAll_29 (fun H locs hP hD hS => ?_)
        have hP : va_P D vwCl (wM cI ad fa n fo ki st we lo ra rch q0 q1 q2 q3 fo (updN (kpF i lo fc) i (lo i)) rd rc rv sh sle sla bg hd tr) H := hP
        have hD : va_D (AW (adM ad)) (wM cI ad fa n fo ki st we lo ra rch q0 q1 q2 q3 fo (updN (kpF i lo fc) i (lo i)) rd rc rv sh sle sla bg hd tr) := hD
        refine lv_iinc (v := nI (i + 1)) (lv' := [(1, .int (nI (i + 1))), (0, .ref (ad 0))]) hx hb dX3_keepAll_30 hl (k := 0) rfl xinc1 (by decide) rfl (fun ls hl => ?_)
        refine lv_goto (tgt := 10) hx hb dX3_keepAll_33 (by decide) ?_
        exact ih (i + 1) (updN (kpF i lo fc) i (lo i)) (by exact kpF_s) (by omega) (by omega) _ _ hP hD hS ls (lv_sub hl [0, 1] rfl)
  exact K10 _ 0 fc (by first | exact kpF_0.symm | omega) (by first | exact kpF_0.symm | omega) (Nat.lt_succ_self _) _ _ hP hD hS ls (lv_sub hl [0, 1] rfl)

set_option maxHeartbeats 4000000 in
set_option maxRecDepth 100000 in
theorem c_X3_bringBack (l : Launch) (D : va_G) (cI cS : ClassId) (ad : Nat → Nat) (fa : Nat) (n : Nat) (fo : Nat) (ki : Nat → Nat) (st : Nat → Nat) (we : Nat → Nat) (lo : Nat → Nat) (ra : Nat) (rch : Nat) (q0 : Nat → Int32) (q1 : Nat → Int32) (q2 : Nat → Int32) (q3 : Nat → Int32) (fk : Nat) (fc : Nat → Nat) (rd : Nat) (rc : Nat → Nat) (rv : Nat → Nat) (sh : Nat → Bool) (sle : Nat → Nat) (sla : Nat → Nat) (bg : Nat → Int32) (hd : Nat → Int32) (tr : Int32) (hnd : nd (adM ad)) (hn : n ≤ 8) : Met l yX3_bringBack wsX3_bringBack ({ frames := 0, cells := 0, slots := 0, locals := 0 }) (PR D cI cS [.ref (ad 0)] (wM cI ad fa n fo ki st we lo ra rch q0 q1 q2 q3 fk fc rd rc rv sh sle sla bg hd tr)) (va_Qv (fun (zz : Unit) => True) (fun (zz : Unit) t => va_P D vwCl (wM cI ad fa n fk ki st we (kpF n fc lo) ra rch q0 q1 q2 q3 fk fc rd rc rv sh sle sla bg hd tr) t.heap) (AW (adM ad))) 0 0 (AW (adM ad)) := by
  refine startM (by decide) rfl (Nat.le_of_ble_eq_true rfl) hnd rfl ?_
  intro p e s m below meth c hx hb hr hts hown hlk hml hG hP hD hS ls hl
  have hl : lv_has ls 2 [(0, .ref (ad 0))] := hl
  have f164 := hts (.fieldLink RX3 164 "ChairBallotModel" "foldedKept" "I") (by decide +kernel)
  have f114 := hts (.fieldLink RX3 114 "ChairBallotModel" "folded" "I") (by decide +kernel)
  have f65 := hts (.fieldLink RX3 65 "ChairBallotModel" "chairs" "I") (by decide +kernel)
  have f19 := hts (.fieldLink RX3 19 "ChairBallotModel" "facesOf" "[I") (by decide +kernel)
  have f34 := hts (.fieldLink RX3 34 "ChairBallotModel" "facesKept" "[I") (by decide +kernel)
  have yX3 : ∀ w ∈ u_ws RX3 TX3 23, w.before _ s = true := fun w h => hts w ((by decide +kernel : ∀ w ∈ wsX30, w ∈ wsX3_bringBack) w h)
  have hF : CallFix p m c cX3_bringBack 2 s _ wsX3_bringBack RX3 := ⟨hx, hb, hml, hown, hts⟩
  refine lv_aload_n hx hb dX3_bringBack_0 rfl (lv_at hl 0 rfl) ?_
  refine lv_aload_n hx hb dX3_bringBack_1 rfl (lv_at hl 0 rfl) ?_
  refine va_get (D := D) (ci := 3) (v := .int (nI fk)) (C := RX3) (T := TX3) (N := 23) hx hb yX3 (fun _ h => h) hown hG.1 hP 0 rfl rfl 13 (by decide) f164 (fun _ h => h) rfl dX3_bringBack_2 ?_
  refine va_put (D := D) (ci := 3) (v := .int (nI fk)) (ty := .int) (C := RX3) (T := TX3) (N := 23) hx hb yX3 (fun _ h => h) tyX3 tyX3_ok nmX3 hown hG.1 hP hD hS 0 rfl rfl 2 (by decide) f114 (fun _ h => h) rfl (by decide +kernel) rfl rfl (Nat.le_of_ble_eq_true rfl) dX3_bringBack_5 (fun H locs hP hD hS => ?_)
  have hP : va_P D vwCl (wM cI ad fa n fk ki st we lo ra rch q0 q1 q2 q3 fk fc rd rc rv sh sle sla bg hd tr) H := hP
  have hD : va_D (AW (adM ad)) (wM cI ad fa n fk ki st we lo ra rch q0 q1 q2 q3 fk fc rd rc rv sh sle sla bg hd tr) := hD
  refine lv_iconst (v := nI 0) hx hb dX3_bringBack_8 (by decide) ?_
  refine lv_istore_n (lv' := [(1, .int (nI 0)), (0, .ref (ad 0))]) hx hb dX3_bringBack_9 rfl hl (by decide) rfl (fun ls hl => ?_)
  have K10 : ∀ (fuel : Nat) (i : Nat) (g : Nat → Nat), g = kpF i fc lo → (i ≤ n) → (n - i) < fuel → ∀ (H : Heap) (locs : List Loc), va_P D vwCl (wM cI ad fa n fk ki st we g ra rch q0 q1 q2 q3 fk fc rd rc rv sh sle sla bg hd tr) H → va_D (AW (adM ad)) (wM cI ad fa n fk ki st we g ra rch q0 q1 q2 q3 fk fc rd rc rv sh sle sla bg hd tr) → va_S (AW (adM ad)) s.heap H locs → ∀ ls : Array Slot, lv_has ls 2 [(1, .int (nI i)), (0, .ref (ad 0))] → W p l e ({ frames := 0, cells := 0, slots := 0, locals := 0 }) s m (([.ref (ad 0)] : List Value).toArray) below meth c H locs 0 0 (MQ below (va_Qv (fun (zz : Unit) => True) (fun (zz : Unit) t => va_P D vwCl (wM cI ad fa n fk ki st we (kpF n fc lo) ra rch q0 q1 q2 q3 fk fc rd rc rv sh sle sla bg hd tr) t.heap) (AW (adM ad))) (([.ref (ad 0)] : List Value).toArray) s 0 0 (AW (adM ad))) (F0 m 10 ls []) := by
    intro fuel
    induction fuel with
    | zero => intro i g e_g hi hmu; exact absurd hmu (Nat.not_lt_zero _)
    | succ fuel ih =>
      intro i g e_g hi hmu H locs hP hD hS ls hl
      subst e_g
      refine lv_iload_n hx hb dX3_bringBack_10 rfl (lv_at hl 0 rfl) ?_
      refine lv_aload_n hx hb dX3_bringBack_11 rfl (lv_at hl 1 rfl) ?_
      refine va_get (D := D) (ci := 3) (v := .int (nI n)) (C := RX3) (T := TX3) (N := 23) hx hb yX3 (fun _ h => h) hown hG.1 hP 0 rfl rfl 1 (by decide) f65 (fun _ h => h) rfl dX3_bringBack_12 ?_
      refine lv_icmp_ge (tgt := 36) hx hb dX3_bringBack_15 (by decide) (fun c_15 => ?_) (fun c_15 => ?_)
      ·
        replace c_15 := (nI_leI (a := n) (b := i) (by omega) (by omega)).mp c_15
        have hin : n = i := by omega
        subst hin
        exact xretMv hx hb hr hlk dX3_bringBack_36 hS () (by trivial) (fun t ht => by rw [ht]; exact hP)
      ·
        replace c_15 := (not_congr (nI_leI (a := n) (b := i) (by omega) (by omega))).mp c_15
        refine lv_aload_n hx hb dX3_bringBack_18 rfl (lv_at hl 1 rfl) ?_
        refine va_get (D := D) (ci := 3) (v := .ref (ad 4)) (C := RX3) (T := TX3) (N := 23) hx hb yX3 (fun _ h => h) hown hG.1 hP 0 rfl rfl 6 (by decide) f19 (fun _ h => h) rfl dX3_bringBack_19 ?_
        refine lv_iload_n hx hb dX3_bringBack_22 rfl (lv_at hl 0 rfl) ?_
        refine lv_aload_n hx hb dX3_bringBack_23 rfl (lv_at hl 1 rfl) ?_
        refine va_get (D := D) (ci := 3) (v := .ref (ad 9)) (C := RX3) (T := TX3) (N := 23) hx hb yX3 (fun _ h => h) hown hG.1 hP 0 rfl rfl 14 (by decide) f34 (fun _ h => h) rfl dX3_bringBack_24 ?_
        refine lv_iload_n hx hb dX3_bringBack_27 rfl (lv_at hl 0 rfl) ?_
        refine xaldN hx hb hG hP 9 rfl (i) rfl (by omega) (by decide) dX3_bringBack_28 ?_
        refine xastN hx hb hG hP hD hS 4 rfl (i) (fc i) rfl rfl (by omega) (by decide) dX3_bringBack_29 (fun H locs hP hD hS => ?_)
        have hP : va_P D vwCl (wM cI ad fa n fk ki st we (updN (kpF i fc lo) i (fc i)) ra rch q0 q1 q2 q3 fk fc rd rc rv sh sle sla bg hd tr) H := hP
        have hD : va_D (AW (adM ad)) (wM cI ad fa n fk ki st we (updN (kpF i fc lo) i (fc i)) ra rch q0 q1 q2 q3 fk fc rd rc rv sh sle sla bg hd tr) := hD
        refine lv_iinc (v := nI (i + 1)) (lv' := [(1, .int (nI (i + 1))), (0, .ref (ad 0))]) hx hb dX3_bringBack_30 hl (k := 0) rfl xinc1 (by decide) rfl (fun ls hl => ?_)
        refine lv_goto (tgt := 10) hx hb dX3_bringBack_33 (by decide) ?_
        exact ih (i + 1) (updN (kpF i fc lo) i (fc i)) (by exact kpF_s) (by omega) (by omega) _ _ hP hD hS ls (lv_sub hl [0, 1] rfl)
  exact K10 _ 0 lo (by first | exact kpF_0.symm | omega) (by first | exact kpF_0.symm | omega) (Nat.lt_succ_self _) _ _ hP hD hS ls (lv_sub hl [0, 1] rfl)

set_option maxHeartbeats 4000000 in
set_option maxRecDepth 100000 in
theorem c_X3_reading (l : Launch) (D : va_G) (cI cS : ClassId) (ad : Nat → Nat) (fa : Nat) (n : Nat) (fo : Nat) (ki : Nat → Nat) (st : Nat → Nat) (we : Nat → Nat) (lo : Nat → Nat) (ra : Nat) (rch : Nat) (q0 : Nat → Int32) (q1 : Nat → Int32) (q2 : Nat → Int32) (q3 : Nat → Int32) (fk : Nat) (fc : Nat → Nat) (rd : Nat) (rc : Nat → Nat) (rv : Nat → Nat) (sh : Nat → Bool) (sle : Nat → Nat) (sla : Nat → Nat) (bg : Nat → Int32) (hd : Nat → Int32) (tr : Int32) (k : Int32) (v : Int32) (hnd : nd (adM ad)) (hn : n ≤ 8) (hrd : rd ≤ 8) : Met l yX3_reading wsX3_reading ({ frames := 2, cells := 0, slots := 0, locals := 46 }) (PR D cI cS [.ref (ad 0), .int k, .int v] (wM cI ad fa n fo ki st we lo ra rch q0 q1 q2 q3 fk fc rd rc rv sh sle sla bg hd tr)) (va_Qi (fun r (zz : Unit) => r = A_reading n rd k v) (fun (zz : Unit) t => va_P D vwCl (wM cI ad fa n fo ki st we lo ra rch q0 q1 q2 q3 fk fc (S_reading n rd k v) (C_reading n rd rc k v) (V_reading n rd rv k v) sh sle sla bg hd tr) t.heap) (AW (adM ad))) 0 0 (AW (adM ad)) := by
  refine startM (by decide) rfl (Nat.le_of_ble_eq_true rfl) hnd rfl ?_
  intro p e s m below meth c hx hb hr hts hown hlk hml hG hP hD hS ls hl
  have hl : lv_has ls 3 [(0, .ref (ad 0)), (1, .int k), (2, .int v)] := hl
  have f117 := hts (.fieldLink RX3 117 "ChairBallotModel" "readings" "I") (by decide +kernel)
  have f37 := hts (.fieldLink RX3 37 "ChairBallotModel" "readingOf" "[I") (by decide +kernel)
  have f40 := hts (.fieldLink RX3 40 "ChairBallotModel" "readingWas" "[I") (by decide +kernel)
  have yX3 : ∀ w ∈ u_ws RX3 TX3 23, w.before _ s = true := fun w h => hts w ((by decide +kernel : ∀ w ∈ wsX30, w ∈ wsX3_reading) w h)
  have hF : CallFix p m c cX3_reading 3 s _ wsX3_reading RX3 := ⟨hx, hb, hml, hown, hts⟩
  refine lv_aload_n hx hb dX3_reading_0 rfl (lv_at hl 0 rfl) ?_
  refine lv_iload_n hx hb dX3_reading_1 rfl (lv_at hl 1 rfl) ?_
  refine xrd (va_runV (As := [.int k]) (rest := []) hF (c_X3_noChair l D cI cS ad fa n fo ki st we lo ra rch q0 q1 q2 q3 fk fc rd rc rv sh sle sla bg hd tr k (by first | assumption | omega)) (cwV 1 hts gX3_reading_X3_noChair rfl rfl rfl hV_X3_noChair ⟨Nat.le_of_ble_eq_true rfl, Nat.le_of_ble_eq_true rfl⟩) (PR.preV hG hP (ci := 3) rfl rfl) rfl rfl hl.1 rfl (lv_room (Nat.le_of_ble_eq_true rfl)) dX3_reading_2 ⟨Nat.le_refl _, Nat.le_refl _⟩) ?_
  refine lv_if_eq (tgt := 10) hx hb dX3_reading_5 (by decide) (fun c_5 => ?_) (fun c_5 => ?_)
  ·
    replace c_5 := bI_0.mp c_5
    replace c_5 := (by simpa using c_5 : (hasB n k) = true)
    obtain ⟨j, hj, rfl⟩ := hasB_t c_5
    have hclj := cl8 (j := j) (by omega)
    refine lv_iload_n hx hb dX3_reading_10 rfl (lv_at hl 2 rfl) ?_
    refine lv_i2l (v := v.toInt64) hx hb dX3_reading_11 rfl ?_
    refine lv_lconst (v := lN 0) hx hb dX3_reading_12 rfl ?_
    refine lv_ldc2 (v := 10) hx hb hown (hts (.constantLong RX3 152 (10)) (by decide +kernel)) dX3_reading_13 ?_
    refine xtopl (x' := lN 10) rfl ?_
    refine xrd (va_runS (As := [.long v.toInt64, .long (lN 0), .long (lN 10)]) (rest := []) hF (c_X3_in l D cI cS v 0 10 (by first | assumption | omega) (by first | assumption | omega)) (va_cwS 3 hts gX3_reading_X3_in rfl rfl rfl hD_X3_in ⟨Nat.le_of_ble_eq_true rfl, Nat.le_of_ble_eq_true rfl⟩) (PR.pre hG (hP.sub (ws' := []) [] rfl)) rfl rfl hl.1 rfl (lv_room (Nat.le_of_ble_eq_true rfl)) dX3_reading_16 ⟨Nat.le_refl _, Nat.le_refl _⟩) ?_
    refine xtop (x' := bI (rgB 0 10 v)) rfl ?_
    refine lv_if_ne (tgt := 25) hx hb dX3_reading_19 (by decide) (fun c_19 => ?_) (fun c_19 => ?_)
    ·
      replace c_19 := bI_n0.mp c_19
      obtain ⟨w, hw0, hw1, rfl⟩ := rgB_nat (by decide) c_19
      have hclw := cl8 (j := w) (by omega)
      refine lv_aload_n hx hb dX3_reading_25 rfl (lv_at hl 0 rfl) ?_
      refine va_get (D := D) (ci := 3) (v := .int (nI rd)) (C := RX3) (T := TX3) (N := 23) hx hb yX3 (fun _ h => h) hown hG.1 hP 0 rfl rfl 15 (by decide) f117 (fun _ h => h) rfl dX3_reading_26 ?_
      refine lv_bipush (v := nI 8) hx hb dX3_reading_29 (by decide) ?_
      refine lv_icmp_ne (tgt := 37) hx hb dX3_reading_31 (by decide) (fun c_31 => ?_) (fun c_31 => ?_)
      ·
        replace c_31 := (not_congr (nI_eq (a := rd) (b := 8) (by omega) (by omega))).mp c_31
        have h8 : ¬ rd = 8 := by omega
        have h8b : rd < 8 := by omega
        refine lv_aload_n hx hb dX3_reading_37 rfl (lv_at hl 0 rfl) ?_
        refine va_get (D := D) (ci := 3) (v := .ref (ad 10)) (C := RX3) (T := TX3) (N := 23) hx hb yX3 (fun _ h => h) hown hG.1 hP 0 rfl rfl 16 (by decide) f37 (fun _ h => h) rfl dX3_reading_38 ?_
        refine lv_aload_n hx hb dX3_reading_41 rfl (lv_at hl 0 rfl) ?_
        refine va_get (D := D) (ci := 3) (v := .int (nI rd)) (C := RX3) (T := TX3) (N := 23) hx hb yX3 (fun _ h => h) hown hG.1 hP 0 rfl rfl 15 (by decide) f117 (fun _ h => h) rfl dX3_reading_42 ?_
        refine lv_iload_n hx hb dX3_reading_45 rfl (lv_at hl 1 rfl) ?_
        refine xastN hx hb hG hP hD hS 10 rfl (rd) (j) rfl rfl (by omega) (by decide) dX3_reading_46 (fun H locs hP hD hS => ?_)
        have hP : va_P D vwCl (wM cI ad fa n fo ki st we lo ra rch q0 q1 q2 q3 fk fc rd (updN rc rd j) rv sh sle sla bg hd tr) H := hP
        have hD : va_D (AW (adM ad)) (wM cI ad fa n fo ki st we lo ra rch q0 q1 q2 q3 fk fc rd (updN rc rd j) rv sh sle sla bg hd tr) := hD
        refine lv_aload_n hx hb dX3_reading_47 rfl (lv_at hl 0 rfl) ?_
        refine va_get (D := D) (ci := 3) (v := .ref (ad 11)) (C := RX3) (T := TX3) (N := 23) hx hb yX3 (fun _ h => h) hown hG.1 hP 0 rfl rfl 17 (by decide) f40 (fun _ h => h) rfl dX3_reading_48 ?_
        refine lv_aload_n hx hb dX3_reading_51 rfl (lv_at hl 0 rfl) ?_
        refine va_get (D := D) (ci := 3) (v := .int (nI rd)) (C := RX3) (T := TX3) (N := 23) hx hb yX3 (fun _ h => h) hown hG.1 hP 0 rfl rfl 15 (by decide) f117 (fun _ h => h) rfl dX3_reading_52 ?_
        refine lv_iload_n hx hb dX3_reading_55 rfl (lv_at hl 2 rfl) ?_
        refine xastN hx hb hG hP hD hS 11 rfl (rd) (w) rfl rfl (by omega) (by decide) dX3_reading_56 (fun H locs hP hD hS => ?_)
        have hP : va_P D vwCl (wM cI ad fa n fo ki st we lo ra rch q0 q1 q2 q3 fk fc rd (updN rc rd j) (updN rv rd w) sh sle sla bg hd tr) H := hP
        have hD : va_D (AW (adM ad)) (wM cI ad fa n fo ki st we lo ra rch q0 q1 q2 q3 fk fc rd (updN rc rd j) (updN rv rd w) sh sle sla bg hd tr) := hD
        refine lv_aload_n hx hb dX3_reading_57 rfl (lv_at hl 0 rfl) ?_
        refine lv_dup hx hb dX3_reading_58 rfl ?_
        refine va_get (D := D) (ci := 3) (v := .int (nI rd)) (C := RX3) (T := TX3) (N := 23) hx hb yX3 (fun _ h => h) hown hG.1 hP 0 rfl rfl 15 (by decide) f117 (fun _ h => h) rfl dX3_reading_59 ?_
        refine lv_iconst (v := nI 1) hx hb dX3_reading_62 (by decide) ?_
        refine xaddN hx hb dX3_reading_63 ?_
        refine va_put (D := D) (ci := 3) (v := .int (nI (rd + 1))) (ty := .int) (C := RX3) (T := TX3) (N := 23) hx hb yX3 (fun _ h => h) tyX3 tyX3_ok nmX3 hown hG.1 hP hD hS 0 rfl rfl 15 (by decide) f117 (fun _ h => h) rfl (by decide +kernel) rfl rfl (Nat.le_of_ble_eq_true rfl) dX3_reading_64 (fun H locs hP hD hS => ?_)
        have hP : va_P D vwCl (wM cI ad fa n fo ki st we lo ra rch q0 q1 q2 q3 fk fc (rd + 1) (updN rc rd j) (updN rv rd w) sh sle sla bg hd tr) H := hP
        have hD : va_D (AW (adM ad)) (wM cI ad fa n fo ki st we lo ra rch q0 q1 q2 q3 fk fc (rd + 1) (updN rc rd j) (updN rv rd w) sh sle sla bg hd tr) := hD
        refine lv_aload_n hx hb dX3_reading_67 rfl (lv_at hl 0 rfl) ?_
        refine va_get (D := D) (ci := 3) (v := .int (nI (rd + 1))) (C := RX3) (T := TX3) (N := 23) hx hb yX3 (fun _ h => h) hown hG.1 hP 0 rfl rfl 15 (by decide) f117 (fun _ h => h) rfl dX3_reading_68 ?_
        refine lv_iconst (v := nI 1) hx hb dX3_reading_71 (by decide) ?_
        refine xsubN (x := rd + 1) (y := 1) hx hb (by omega) dX3_reading_72 ?_
        exact xretM hx hb hr hlk dX3_reading_73 hS () (by simp [A_reading, c_5, hclj, c_19, hclw, c_31, h8, h8b]) (fun t ht => by rw [ht]; rw [show C_reading n rd rc (nI j) (nI w) = (updN rc rd j) from by simp [C_reading, okReading, c_5, hclj, c_19, hclw, c_31, h8, h8b]]; rw [show V_reading n rd rv (nI j) (nI w) = (updN rv rd w) from by simp [V_reading, okReading, c_5, hclj, c_19, hclw, c_31, h8, h8b]]; rw [show S_reading n rd (nI j) (nI w) = (rd + 1) from by simp [S_reading, okReading, c_5, hclj, c_19, hclw, c_31, h8, h8b]]; exact hP)
      ·
        replace c_31 := (nI_eq (a := rd) (b := 8) (by omega) (by omega)).mp c_31
        refine lv_bipush (v := (-4)) hx hb dX3_reading_34 (by decide) ?_
        exact xretM hx hb hr hlk dX3_reading_36 hS () (by simp [A_reading, c_5, hclj, c_19, hclw, c_31]) (fun t ht => by rw [ht]; rw [show C_reading n rd rc (nI j) (nI w) = rc from by simp [C_reading, okReading, c_5, hclj, c_19, hclw, c_31]]; rw [show V_reading n rd rv (nI j) (nI w) = rv from by simp [V_reading, okReading, c_5, hclj, c_19, hclw, c_31]]; rw [show S_reading n rd (nI j) (nI w) = rd from by simp [S_reading, okReading, c_5, hclj, c_19, hclw, c_31]]; exact hP)
    ·
      replace c_19 := bI_0.mp c_19
      refine lv_bipush (v := (-2)) hx hb dX3_reading_22 (by decide) ?_
      exact xretM hx hb hr hlk dX3_reading_24 hS () (by simp [A_reading, c_5, hclj, c_19]) (fun t ht => by rw [ht]; rw [show C_reading n rd rc (nI j) v = rc from by simp [C_reading, okReading, c_5, hclj, c_19]]; rw [show V_reading n rd rv (nI j) v = rv from by simp [V_reading, okReading, c_5, hclj, c_19]]; rw [show S_reading n rd (nI j) v = rd from by simp [S_reading, okReading, c_5, hclj, c_19]]; exact hP)
  ·
    replace c_5 := bI_n0.mp c_5
    replace c_5 := (by simpa using c_5 : (hasB n k) = false)
    refine lv_iconst (v := (-1)) hx hb dX3_reading_8 (by decide) ?_
    exact xretM hx hb hr hlk dX3_reading_9 hS () (by simp [A_reading, c_5]) (fun t ht => by rw [ht]; rw [show C_reading n rd rc k v = rc from by simp [C_reading, okReading, c_5]]; rw [show V_reading n rd rv k v = rv from by simp [V_reading, okReading, c_5]]; rw [show S_reading n rd k v = rd from by simp [S_reading, okReading, c_5]]; exact hP)

set_option maxHeartbeats 4000000 in
set_option maxRecDepth 100000 in
theorem c_X3_back (l : Launch) (D : va_G) (cI cS : ClassId) (ad : Nat → Nat) (fa : Nat) (n : Nat) (fo : Nat) (ki : Nat → Nat) (st : Nat → Nat) (we : Nat → Nat) (lo : Nat → Nat) (ra : Nat) (rch : Nat) (q0 : Nat → Int32) (q1 : Nat → Int32) (q2 : Nat → Int32) (q3 : Nat → Int32) (fk : Nat) (fc : Nat → Nat) (rd : Nat) (rc : Nat → Nat) (rv : Nat → Nat) (sh : Nat → Bool) (sle : Nat → Nat) (sla : Nat → Nat) (bg : Nat → Int32) (hd : Nat → Int32) (tr : Int32) (k : Int32) (hnd : nd (adM ad)) (hrd : rd ≤ 8) : Met l yX3_back wsX3_back ({ frames := 1, cells := 0, slots := 0, locals := 25 }) (PR D cI cS [.ref (ad 0), .int k] (wM cI ad fa n fo ki st we lo ra rch q0 q1 q2 q3 fk fc rd rc rv sh sle sla bg hd tr)) (va_Qi (fun r (zz : Unit) => r = A_back rd k) (fun (zz : Unit) t => va_P D vwCl (wM cI ad fa n fo ki st we lo ra rch q0 q1 q2 q3 fk fc (S_back rd k) rc rv sh sle sla bg hd tr) t.heap) (AW (adM ad))) 0 0 (AW (adM ad)) := by
  refine startM (by decide) rfl (Nat.le_of_ble_eq_true rfl) hnd rfl ?_
  intro p e s m below meth c hx hb hr hts hown hlk hml hG hP hD hS ls hl
  have hl : lv_has ls 2 [(0, .ref (ad 0)), (1, .int k)] := hl
  have f117 := hts (.fieldLink RX3 117 "ChairBallotModel" "readings" "I") (by decide +kernel)
  have yX3 : ∀ w ∈ u_ws RX3 TX3 23, w.before _ s = true := fun w h => hts w ((by decide +kernel : ∀ w ∈ wsX30, w ∈ wsX3_back) w h)
  have hF : CallFix p m c cX3_back 2 s _ wsX3_back RX3 := ⟨hx, hb, hml, hown, hts⟩
  refine lv_iload_n hx hb dX3_back_0 rfl (lv_at hl 1 rfl) ?_
  refine lv_i2l (v := k.toInt64) hx hb dX3_back_1 rfl ?_
  refine lv_lconst (v := lN 0) hx hb dX3_back_2 rfl ?_
  refine lv_aload_n hx hb dX3_back_3 rfl (lv_at hl 0 rfl) ?_
  refine va_get (D := D) (ci := 3) (v := .int (nI rd)) (C := RX3) (T := TX3) (N := 23) hx hb yX3 (fun _ h => h) hown hG.1 hP 0 rfl rfl 15 (by decide) f117 (fun _ h => h) rfl dX3_back_4 ?_
  refine lv_i2l (v := lN rd) hx hb dX3_back_7 (nI_l (by omega)) ?_
  refine xrd (va_runS (As := [.long k.toInt64, .long (lN 0), .long (lN rd)]) (rest := []) hF (c_X3_in l D cI cS k 0 rd (by first | assumption | omega) (by first | assumption | omega)) (va_cwS 3 hts gX3_back_X3_in rfl rfl rfl hD_X3_in ⟨Nat.le_of_ble_eq_true rfl, Nat.le_of_ble_eq_true rfl⟩) (PR.pre hG (hP.sub (ws' := []) [] rfl)) rfl rfl hl.1 rfl (lv_room (Nat.le_of_ble_eq_true rfl)) dX3_back_8 ⟨Nat.le_refl _, Nat.le_refl _⟩) ?_
  refine xtop (x' := bI (rgB 0 rd k)) rfl ?_
  refine lv_if_ne (tgt := 17) hx hb dX3_back_11 (by decide) (fun c_11 => ?_) (fun c_11 => ?_)
  ·
    replace c_11 := bI_n0.mp c_11
    obtain ⟨j, hj0, hj1, rfl⟩ := rgB_nat (by decide) c_11
    have hclj := cl8 (j := j) (by omega)
    refine lv_aload_n hx hb dX3_back_17 rfl (lv_at hl 0 rfl) ?_
    refine lv_dup hx hb dX3_back_18 rfl ?_
    refine va_get (D := D) (ci := 3) (v := .int (nI rd)) (C := RX3) (T := TX3) (N := 23) hx hb yX3 (fun _ h => h) hown hG.1 hP 0 rfl rfl 15 (by decide) f117 (fun _ h => h) rfl dX3_back_19 ?_
    refine lv_iload_n hx hb dX3_back_22 rfl (lv_at hl 1 rfl) ?_
    refine xsubN (x := rd) (y := j) hx hb (by omega) dX3_back_23 ?_
    refine va_put (D := D) (ci := 3) (v := .int (nI (rd - j))) (ty := .int) (C := RX3) (T := TX3) (N := 23) hx hb yX3 (fun _ h => h) tyX3 tyX3_ok nmX3 hown hG.1 hP hD hS 0 rfl rfl 15 (by decide) f117 (fun _ h => h) rfl (by decide +kernel) rfl rfl (Nat.le_of_ble_eq_true rfl) dX3_back_24 (fun H locs hP hD hS => ?_)
    have hP : va_P D vwCl (wM cI ad fa n fo ki st we lo ra rch q0 q1 q2 q3 fk fc (rd - j) rc rv sh sle sla bg hd tr) H := hP
    have hD : va_D (AW (adM ad)) (wM cI ad fa n fo ki st we lo ra rch q0 q1 q2 q3 fk fc (rd - j) rc rv sh sle sla bg hd tr) := hD
    refine lv_aload_n hx hb dX3_back_27 rfl (lv_at hl 0 rfl) ?_
    refine va_get (D := D) (ci := 3) (v := .int (nI (rd - j))) (C := RX3) (T := TX3) (N := 23) hx hb yX3 (fun _ h => h) hown hG.1 hP 0 rfl rfl 15 (by decide) f117 (fun _ h => h) rfl dX3_back_28 ?_
    exact xretM hx hb hr hlk dX3_back_31 hS () (by simp [A_back, c_11, hclj]) (fun t ht => by rw [ht]; rw [show S_back rd (nI j) = (rd - j) from by simp [S_back, c_11, hclj]]; exact hP)
  ·
    replace c_11 := bI_0.mp c_11
    refine lv_bipush (v := (-2)) hx hb dX3_back_14 (by decide) ?_
    exact xretM hx hb hr hlk dX3_back_16 hS () (by simp [A_back, c_11]) (fun t ht => by rw [ht]; rw [show S_back rd k = rd from by simp [S_back, c_11]]; exact hP)

set_option maxHeartbeats 4000000 in
set_option maxRecDepth 100000 in
theorem c_X3_sheet (l : Launch) (D : va_G) (cI cS : ClassId) (ad : Nat → Nat) (fa : Nat) (n : Nat) (fo : Nat) (ki : Nat → Nat) (st : Nat → Nat) (we : Nat → Nat) (lo : Nat → Nat) (ra : Nat) (rch : Nat) (q0 : Nat → Int32) (q1 : Nat → Int32) (q2 : Nat → Int32) (q3 : Nat → Int32) (fk : Nat) (fc : Nat → Nat) (rd : Nat) (rc : Nat → Nat) (rv : Nat → Nat) (sh : Nat → Bool) (sle : Nat → Nat) (sla : Nat → Nat) (bg : Nat → Int32) (hd : Nat → Int32) (tr : Int32) (k : Int32) (v : Int32) (i : Int32) (hnd : nd (adM ad)) : Met l yX3_sheet wsX3_sheet ({ frames := 2, cells := 0, slots := 0, locals := 45 }) (PR D cI cS [.ref (ad 0), .int k, .int v, .int i] (wM cI ad fa n fo ki st we lo ra rch q0 q1 q2 q3 fk fc rd rc rv sh sle sla bg hd tr)) (va_Qi (fun r (zz : Unit) => r = A_sheet k v i) (fun (zz : Unit) t => va_P D vwCl (wM cI ad (S_sheet k v i) n fo ki st we lo ra rch q0 q1 q2 q3 fk fc rd rc rv (ifU (okSheet k v i) sh k.toNatClampNeg true) (ifU (okSheet k v i) sle k.toNatClampNeg i.toNatClampNeg) (ifU (okSheet k v i) sla k.toNatClampNeg v.toNatClampNeg) (ifO (okSheet k v i) (clG i.toNatClampNeg (60 * k.toNatClampNeg) bg) bg) hd tr) t.heap) (AW (adM ad))) 0 0 (AW (adM ad)) := by
  refine startM (by decide) rfl (Nat.le_of_ble_eq_true rfl) hnd rfl ?_
  intro p e s m below meth c hx hb hr hts hown hlk hml hG hP hD hS ls hl
  have hl : lv_has ls 5 [(0, .ref (ad 0)), (1, .int k), (2, .int v), (3, .int i)] := hl
  have f43 := hts (.fieldLink RX3 43 "ChairBallotModel" "sheetSize" "[I") (by decide +kernel)
  have f46 := hts (.fieldLink RX3 46 "ChairBallotModel" "sheetLane" "[I") (by decide +kernel)
  have f49 := hts (.fieldLink RX3 49 "ChairBallotModel" "sheet" "[I") (by decide +kernel)
  have yX3 : ∀ w ∈ u_ws RX3 TX3 23, w.before _ s = true := fun w h => hts w ((by decide +kernel : ∀ w ∈ wsX30, w ∈ wsX3_sheet) w h)
  have hF : CallFix p m c cX3_sheet 5 s _ wsX3_sheet RX3 := ⟨hx, hb, hml, hown, hts⟩
  refine lv_iload_n hx hb dX3_sheet_0 rfl (lv_at hl 1 rfl) ?_
  refine xrd (va_runS (As := [.int k]) (rest := []) hF (c_X3_noSheet l D cI cS k ) (va_cwS 1 hts gX3_sheet_X3_noSheet rfl rfl rfl hD_X3_noSheet ⟨Nat.le_of_ble_eq_true rfl, Nat.le_of_ble_eq_true rfl⟩) (PR.pre hG (hP.sub (ws' := []) [] rfl)) rfl rfl hl.1 rfl (lv_room (Nat.le_of_ble_eq_true rfl)) dX3_sheet_1 ⟨Nat.le_refl _, Nat.le_refl _⟩) ?_
  refine lv_if_eq (tgt := 13) hx hb dX3_sheet_4 (by decide) (fun c_4 => ?_) (fun c_4 => ?_)
  ·
    replace c_4 := bI_0.mp c_4
    replace c_4 := (by simpa using c_4 : (rgB 0 3 k) = true)
    obtain ⟨j, hj0, hj1, rfl⟩ := rgB_nat (by decide) c_4
    have hclj := cl8 (j := j) (by omega)
    refine lv_iload_n hx hb dX3_sheet_13 rfl (lv_at hl 2 rfl) ?_
    refine lv_i2l (v := v.toInt64) hx hb dX3_sheet_14 rfl ?_
    refine lv_lconst (v := lN 0) hx hb dX3_sheet_15 rfl ?_
    refine lv_ldc2 (v := 2) hx hb hown (hts (.constantLong RX3 105 (2)) (by decide +kernel)) dX3_sheet_16 ?_
    refine xtopl (x' := lN 2) rfl ?_
    refine xrd (va_runS (As := [.long v.toInt64, .long (lN 0), .long (lN 2)]) (rest := []) hF (c_X3_in l D cI cS v 0 2 (by first | assumption | omega) (by first | assumption | omega)) (va_cwS 3 hts gX3_sheet_X3_in rfl rfl rfl hD_X3_in ⟨Nat.le_of_ble_eq_true rfl, Nat.le_of_ble_eq_true rfl⟩) (PR.pre hG (hP.sub (ws' := []) [] rfl)) rfl rfl hl.1 rfl (lv_room (Nat.le_of_ble_eq_true rfl)) dX3_sheet_19 ⟨Nat.le_refl _, Nat.le_refl _⟩) ?_
    refine xtop (x' := bI (rgB 0 2 v)) rfl ?_
    refine lv_if_eq (tgt := 31) hx hb dX3_sheet_22 (by decide) (fun c_22 => ?_) (fun c_22 => ?_)
    ·
      replace c_22 := bI_0.mp c_22
      refine lv_aload_n hx hb dX3_sheet_31 rfl (lv_at hl 0 rfl) ?_
      refine lv_bipush (v := (-2)) hx hb dX3_sheet_32 (by decide) ?_
      refine xmuW (va_runV (As := [.int (-2)]) (rest := []) hF (c_X3_refused l D cI cS ad fa n fo ki st we lo ra rch q0 q1 q2 q3 fk fc rd rc rv sh sle sla bg hd tr (-2) hnd) (cwV 1 hts gX3_sheet_X3_refused rfl rfl rfl hV_X3_refused ⟨Nat.le_of_ble_eq_true rfl, Nat.le_of_ble_eq_true rfl⟩) (PR.preV hG hP (ci := 3) rfl rfl) rfl rfl hl.1 rfl (lv_room (Nat.le_of_ble_eq_true rfl)) dX3_sheet_34 ⟨Nat.le_refl _, Nat.le_refl _⟩) hD hS rfl (fun _ => rfl) (fun r_34 u_34 H locs q_34 hP hD hS => ?_)
      try dsimp only at q_34 hP hD
      have e_34 := q_34
      subst e_34
      have hP : va_P D vwCl (wM cI ad 0 n fo ki st we lo ra rch q0 q1 q2 q3 fk fc rd rc rv sh sle sla bg hd tr) H := hP
      have hD : va_D (AW (adM ad)) (wM cI ad 0 n fo ki st we lo ra rch q0 q1 q2 q3 fk fc rd rc rv sh sle sla bg hd tr) := hD
      exact xretM hx hb hr hlk dX3_sheet_37 hS () (by simp [A_sheet, c_4, hclj, c_22]) (fun t ht => by rw [ht]; rw [show ifU (okSheet (nI j) v i) sh (nI j).toNatClampNeg true = sh from by simp [okSheet, ifU, ifO, updN_va, c_4, hclj, c_22]]; rw [show ifU (okSheet (nI j) v i) sla (nI j).toNatClampNeg v.toNatClampNeg = sla from by simp [okSheet, ifU, ifO, updN_va, c_4, hclj, c_22]]; rw [show ifU (okSheet (nI j) v i) sle (nI j).toNatClampNeg i.toNatClampNeg = sle from by simp [okSheet, ifU, ifO, updN_va, c_4, hclj, c_22]]; rw [show ifO (okSheet (nI j) v i) (clG i.toNatClampNeg (60 * (nI j).toNatClampNeg) bg) bg = bg from by simp [okSheet, ifU, ifO, updN_va, c_4, hclj, c_22]]; rw [show S_sheet (nI j) v i = 0 from by simp [S_sheet, c_4, hclj, c_22]]; exact hP)
    ·
      replace c_22 := bI_n0.mp c_22
      obtain ⟨w, hw0, hw1, rfl⟩ := rgB_nat (by decide) c_22
      have hclw := cl8 (j := w) (by omega)
      refine lv_iload_n hx hb dX3_sheet_25 rfl (lv_at hl 3 rfl) ?_
      refine lv_bipush (v := nI 60) hx hb dX3_sheet_26 (by decide) ?_
      refine lv_icmp_le (tgt := 38) hx hb dX3_sheet_28 (by decide) (fun c_28 => ?_) (fun c_28 => ?_)
      ·
        replace c_28 : i.toInt ≤ 60 := (i32_lec (b := 60) (by omega)).mp c_28
        have hi60 : i.toInt ≤ 60 := by omega
        refine lv_iload_n hx hb dX3_sheet_38 rfl (lv_at hl 3 rfl) ?_
        refine lv_if_ge (tgt := 48) hx hb dX3_sheet_39 (by decide) (fun c_39 => ?_) (fun c_39 => ?_)
        ·
          replace c_39 : 0 ≤ i.toInt := (i32_gec (b := 0) (by omega)).mp c_39
          have hzi : rgB 0 60 i = true := rgB_y (by omega) (by omega)
          have hi0 : ¬ i.toInt < 0 := by omega
          obtain ⟨u, hu0, hu1, rfl⟩ := rgB_nat (by decide) hzi
          have hclu := cl8 (j := u) (by omega)
          refine lv_aload_n hx hb dX3_sheet_48 rfl (lv_at hl 0 rfl) ?_
          refine va_get (D := D) (ci := 3) (v := .ref (ad 12)) (C := RX3) (T := TX3) (N := 23) hx hb yX3 (fun _ h => h) hown hG.1 hP 0 rfl rfl 18 (by decide) f43 (fun _ h => h) rfl dX3_sheet_49 ?_
          refine lv_iload_n hx hb dX3_sheet_52 rfl (lv_at hl 1 rfl) ?_
          refine lv_iload_n hx hb dX3_sheet_53 rfl (lv_at hl 3 rfl) ?_
          refine xast hx hb hG hP hD hS 12 rfl (j) rfl (by omega) (by decide) dX3_sheet_54 (fun H locs hP hD hS => ?_)
          rw [wM_szI_set] at hP hD
          have hP : va_P D vwCl (wM cI ad fa n fo ki st we lo ra rch q0 q1 q2 q3 fk fc rd rc rv (va_up sh j true) (va_up sle j u) sla bg hd tr) H := hP
          have hD : va_D (AW (adM ad)) (wM cI ad fa n fo ki st we lo ra rch q0 q1 q2 q3 fk fc rd rc rv (va_up sh j true) (va_up sle j u) sla bg hd tr) := hD
          refine lv_aload_n hx hb dX3_sheet_55 rfl (lv_at hl 0 rfl) ?_
          refine va_get (D := D) (ci := 3) (v := .ref (ad 13)) (C := RX3) (T := TX3) (N := 23) hx hb yX3 (fun _ h => h) hown hG.1 hP 0 rfl rfl 19 (by decide) f46 (fun _ h => h) rfl dX3_sheet_56 ?_
          refine lv_iload_n hx hb dX3_sheet_59 rfl (lv_at hl 1 rfl) ?_
          refine lv_iload_n hx hb dX3_sheet_60 rfl (lv_at hl 2 rfl) ?_
          refine xastN hx hb hG hP hD hS 13 rfl (j) (w) rfl rfl (by omega) (by decide) dX3_sheet_61 (fun H locs hP hD hS => ?_)
          have hP : va_P D vwCl (wM cI ad fa n fo ki st we lo ra rch q0 q1 q2 q3 fk fc rd rc rv (va_up sh j true) (va_up sle j u) (updN sla j w) bg hd tr) H := hP
          have hD : va_D (AW (adM ad)) (wM cI ad fa n fo ki st we lo ra rch q0 q1 q2 q3 fk fc rd rc rv (va_up sh j true) (va_up sle j u) (updN sla j w) bg hd tr) := hD
          refine lv_iconst (v := nI 0) hx hb dX3_sheet_62 (by decide) ?_
          refine lv_istore (lv' := [(4, .int (nI 0)), (0, .ref (ad 0)), (1, .int (nI j)), (2, .int (nI w)), (3, .int (nI u))]) hx hb dX3_sheet_63 hl (by decide) rfl (fun ls hl => ?_)
          have K65 : ∀ (fuel : Nat) (mm : Nat) (g : Nat → Int32), g = clG mm (60 * j) bg → (mm ≤ u) → (u - mm) < fuel → ∀ (H : Heap) (locs : List Loc), va_P D vwCl (wM cI ad fa n fo ki st we lo ra rch q0 q1 q2 q3 fk fc rd rc rv (va_up sh j true) (va_up sle j u) (updN sla j w) g hd tr) H → va_D (AW (adM ad)) (wM cI ad fa n fo ki st we lo ra rch q0 q1 q2 q3 fk fc rd rc rv (va_up sh j true) (va_up sle j u) (updN sla j w) g hd tr) → va_S (AW (adM ad)) s.heap H locs → ∀ ls : Array Slot, lv_has ls 5 [(4, .int (nI mm)), (0, .ref (ad 0)), (1, .int (nI j)), (2, .int (nI w)), (3, .int (nI u))] → W p l e ({ frames := 2, cells := 0, slots := 0, locals := 45 }) s m (([.ref (ad 0), .int (nI j), .int (nI w), .int (nI u)] : List Value).toArray) below meth c H locs 0 0 (MQ below (va_Qi (fun r (zz : Unit) => r = A_sheet (nI j) (nI w) (nI u)) (fun (zz : Unit) t => va_P D vwCl (wM cI ad (S_sheet (nI j) (nI w) (nI u)) n fo ki st we lo ra rch q0 q1 q2 q3 fk fc rd rc rv (ifU (okSheet (nI j) (nI w) (nI u)) sh (nI j).toNatClampNeg true) (ifU (okSheet (nI j) (nI w) (nI u)) sle (nI j).toNatClampNeg (nI u).toNatClampNeg) (ifU (okSheet (nI j) (nI w) (nI u)) sla (nI j).toNatClampNeg (nI w).toNatClampNeg) (ifO (okSheet (nI j) (nI w) (nI u)) (clG (nI u).toNatClampNeg (60 * (nI j).toNatClampNeg) bg) bg) hd tr) t.heap) (AW (adM ad))) (([.ref (ad 0), .int (nI j), .int (nI w), .int (nI u)] : List Value).toArray) s 0 0 (AW (adM ad))) (F0 m 65 ls []) := by
            intro fuel
            induction fuel with
            | zero => intro mm g e_g hm hmu; exact absurd hmu (Nat.not_lt_zero _)
            | succ fuel ih =>
              intro mm g e_g hm hmu H locs hP hD hS ls hl
              subst e_g
              refine lv_iload hx hb dX3_sheet_65 (lv_at hl 0 rfl) ?_
              refine lv_iload_n hx hb dX3_sheet_67 rfl (lv_at hl 4 rfl) ?_
              refine lv_icmp_ge (tgt := 90) hx hb dX3_sheet_68 (by decide) (fun c_68 => ?_) (fun c_68 => ?_)
              ·
                replace c_68 := (nI_leI (a := u) (b := mm) (by omega) (by omega)).mp c_68
                have hin : u = mm := by omega
                subst hin
                refine lv_aload_n hx hb dX3_sheet_90 rfl (lv_at hl 1 rfl) ?_
                refine lv_iconst (v := nI 1) hx hb dX3_sheet_91 (by decide) ?_
                refine xmuW (va_runV (As := [.int (nI 1)]) (rest := []) hF (c_X3_refused l D cI cS ad fa n fo ki st we lo ra rch q0 q1 q2 q3 fk fc rd rc rv (va_up sh j true) (va_up sle j u) (updN sla j w) (clG u (60 * j) bg) hd tr (nI 1) hnd) (cwV 1 hts gX3_sheet_X3_refused rfl rfl rfl hV_X3_refused ⟨Nat.le_of_ble_eq_true rfl, Nat.le_of_ble_eq_true rfl⟩) (PR.preV hG hP (ci := 3) rfl rfl) rfl rfl hl.1 rfl (lv_room (Nat.le_of_ble_eq_true rfl)) dX3_sheet_92 ⟨Nat.le_refl _, Nat.le_refl _⟩) hD hS rfl (fun _ => rfl) (fun r_92 u_92 H locs q_92 hP hD hS => ?_)
                try dsimp only at q_92 hP hD
                have e_92 := q_92
                subst e_92
                have hP : va_P D vwCl (wM cI ad 0 n fo ki st we lo ra rch q0 q1 q2 q3 fk fc rd rc rv (va_up sh j true) (va_up sle j u) (updN sla j w) (clG u (60 * j) bg) hd tr) H := hP
                have hD : va_D (AW (adM ad)) (wM cI ad 0 n fo ki st we lo ra rch q0 q1 q2 q3 fk fc rd rc rv (va_up sh j true) (va_up sle j u) (updN sla j w) (clG u (60 * j) bg) hd tr) := hD
                exact xretM hx hb hr hlk dX3_sheet_95 hS () (by simp [A_sheet, c_4, hclj, c_22, hclw, c_28, hi60, c_39, hzi, hi0, hclu, c_68]) (fun t ht => by rw [ht]; rw [show ifU (okSheet (nI j) (nI w) (nI u)) sh (nI j).toNatClampNeg true = (va_up sh j true) from by simp [okSheet, ifU, ifO, updN_va, c_4, hclj, c_22, hclw, c_28, hi60, c_39, hzi, hi0, hclu, c_68]]; rw [show ifU (okSheet (nI j) (nI w) (nI u)) sla (nI j).toNatClampNeg (nI w).toNatClampNeg = (updN sla j w) from by simp [okSheet, ifU, ifO, updN_va, c_4, hclj, c_22, hclw, c_28, hi60, c_39, hzi, hi0, hclu, c_68]]; rw [show ifU (okSheet (nI j) (nI w) (nI u)) sle (nI j).toNatClampNeg (nI u).toNatClampNeg = (va_up sle j u) from by simp [okSheet, ifU, ifO, updN_va, c_4, hclj, c_22, hclw, c_28, hi60, c_39, hzi, hi0, hclu, c_68]]; rw [show ifO (okSheet (nI j) (nI w) (nI u)) (clG (nI u).toNatClampNeg (60 * (nI j).toNatClampNeg) bg) bg = (clG u (60 * j) bg) from by simp [okSheet, ifU, ifO, updN_va, c_4, hclj, c_22, hclw, c_28, hi60, c_39, hzi, hi0, hclu, c_68]]; rw [show S_sheet (nI j) (nI w) (nI u) = 0 from by simp [S_sheet, c_4, hclj, c_22, hclw, c_28, hi60, c_39, hzi, hi0, hclu, c_68]]; exact hP)
              ·
                replace c_68 := (not_congr (nI_leI (a := u) (b := mm) (by omega) (by omega))).mp c_68
                refine lv_aload_n hx hb dX3_sheet_71 rfl (lv_at hl 1 rfl) ?_
                refine va_get (D := D) (ci := 3) (v := .ref (ad 14)) (C := RX3) (T := TX3) (N := 23) hx hb yX3 (fun _ h => h) hown hG.1 hP 0 rfl rfl 20 (by decide) f49 (fun _ h => h) rfl dX3_sheet_72 ?_
                refine lv_bipush (v := nI 60) hx hb dX3_sheet_75 (by decide) ?_
                refine lv_iload_n hx hb dX3_sheet_77 rfl (lv_at hl 2 rfl) ?_
                refine xmulN hx hb dX3_sheet_78 ?_
                refine lv_iload hx hb dX3_sheet_79 (lv_at hl 0 rfl) ?_
                refine xaddN hx hb dX3_sheet_81 ?_
                refine lv_iconst (v := nI 0) hx hb dX3_sheet_82 (by decide) ?_
                refine xast hx hb hG hP hD hS 14 rfl (60 * j + mm) rfl (by omega) (by decide) dX3_sheet_83 (fun H locs hP hD hS => ?_)
                have hP : va_P D vwCl (wM cI ad fa n fo ki st we lo ra rch q0 q1 q2 q3 fk fc rd rc rv (va_up sh j true) (va_up sle j u) (updN sla j w) (upd (clG mm (60 * j) bg) (60 * j + mm) (nI 0)) hd tr) H := hP
                have hD : va_D (AW (adM ad)) (wM cI ad fa n fo ki st we lo ra rch q0 q1 q2 q3 fk fc rd rc rv (va_up sh j true) (va_up sle j u) (updN sla j w) (upd (clG mm (60 * j) bg) (60 * j + mm) (nI 0)) hd tr) := hD
                refine lv_iinc (v := nI (mm + 1)) (lv' := [(4, .int (nI (mm + 1))), (0, .ref (ad 0)), (1, .int (nI j)), (2, .int (nI w)), (3, .int (nI u))]) hx hb dX3_sheet_84 hl (k := 0) rfl xinc1 (by decide) rfl (fun ls hl => ?_)
                refine lv_goto (tgt := 65) hx hb dX3_sheet_87 (by decide) ?_
                exact ih (mm + 1) (upd (clG mm (60 * j) bg) (60 * j + mm) (nI 0)) (by exact clG_s) (by omega) (by omega) _ _ hP hD hS ls (lv_sub hl [0, 1, 2, 3, 4] rfl)
          exact K65 _ 0 bg (by first | exact clG_0.symm | omega) (by first | exact clG_0.symm | omega) (Nat.lt_succ_self _) _ _ hP hD hS ls (lv_sub hl [0, 1, 2, 3, 4] rfl)
        ·
          replace c_39 : ¬ 0 ≤ i.toInt := (not_congr (i32_gec (b := 0) (by omega))).mp c_39
          have hi0 : i.toInt < 0 := by omega
          have hzi : rgB 0 60 i = false := rgB_n1 hi0
          refine lv_aload_n hx hb dX3_sheet_42 rfl (lv_at hl 0 rfl) ?_
          refine lv_iconst (v := nI 4) hx hb dX3_sheet_43 (by decide) ?_
          refine xmuW (va_runV (As := [.int (nI 4)]) (rest := []) hF (c_X3_failed l D cI cS ad fa n fo ki st we lo ra rch q0 q1 q2 q3 fk fc rd rc rv sh sle sla bg hd tr 4 hnd) (cwV 1 hts gX3_sheet_X3_failed rfl rfl rfl hV_X3_failed ⟨Nat.le_of_ble_eq_true rfl, Nat.le_of_ble_eq_true rfl⟩) (PR.preV hG hP (ci := 3) rfl rfl) rfl rfl hl.1 rfl (lv_room (Nat.le_of_ble_eq_true rfl)) dX3_sheet_44 ⟨Nat.le_refl _, Nat.le_refl _⟩) hD hS rfl (fun _ => rfl) (fun r_44 u_44 H locs q_44 hP hD hS => ?_)
          try dsimp only at q_44 hP hD
          have e_44 := q_44
          subst e_44
          have hP : va_P D vwCl (wM cI ad 4 n fo ki st we lo ra rch q0 q1 q2 q3 fk fc rd rc rv sh sle sla bg hd tr) H := hP
          have hD : va_D (AW (adM ad)) (wM cI ad 4 n fo ki st we lo ra rch q0 q1 q2 q3 fk fc rd rc rv sh sle sla bg hd tr) := hD
          exact xretM hx hb hr hlk dX3_sheet_47 hS () (by simp [A_sheet, c_4, hclj, c_22, hclw, c_28, hi60, c_39, hzi, hi0]) (fun t ht => by rw [ht]; rw [show ifU (okSheet (nI j) (nI w) i) sh (nI j).toNatClampNeg true = sh from by simp [okSheet, ifU, ifO, updN_va, c_4, hclj, c_22, hclw, c_28, hi60, c_39, hzi, hi0]]; rw [show ifU (okSheet (nI j) (nI w) i) sla (nI j).toNatClampNeg (nI w).toNatClampNeg = sla from by simp [okSheet, ifU, ifO, updN_va, c_4, hclj, c_22, hclw, c_28, hi60, c_39, hzi, hi0]]; rw [show ifU (okSheet (nI j) (nI w) i) sle (nI j).toNatClampNeg i.toNatClampNeg = sle from by simp [okSheet, ifU, ifO, updN_va, c_4, hclj, c_22, hclw, c_28, hi60, c_39, hzi, hi0]]; rw [show ifO (okSheet (nI j) (nI w) i) (clG i.toNatClampNeg (60 * (nI j).toNatClampNeg) bg) bg = bg from by simp [okSheet, ifU, ifO, updN_va, c_4, hclj, c_22, hclw, c_28, hi60, c_39, hzi, hi0]]; rw [show S_sheet (nI j) (nI w) i = 4 from by simp [S_sheet, c_4, hclj, c_22, hclw, c_28, hi60, c_39, hzi, hi0]]; exact hP)
      ·
        replace c_28 : ¬ i.toInt ≤ 60 := (not_congr (i32_lec (b := 60) (by omega))).mp c_28
        have hi60 : ¬ i.toInt ≤ 60 := by omega
        have hzi : rgB 0 60 i = false := rgB_n2 (by omega)
        have hi0 : ¬ i.toInt < 0 := by omega
        refine lv_aload_n hx hb dX3_sheet_31 rfl (lv_at hl 0 rfl) ?_
        refine lv_bipush (v := (-2)) hx hb dX3_sheet_32 (by decide) ?_
        refine xmuW (va_runV (As := [.int (-2)]) (rest := []) hF (c_X3_refused l D cI cS ad fa n fo ki st we lo ra rch q0 q1 q2 q3 fk fc rd rc rv sh sle sla bg hd tr (-2) hnd) (cwV 1 hts gX3_sheet_X3_refused rfl rfl rfl hV_X3_refused ⟨Nat.le_of_ble_eq_true rfl, Nat.le_of_ble_eq_true rfl⟩) (PR.preV hG hP (ci := 3) rfl rfl) rfl rfl hl.1 rfl (lv_room (Nat.le_of_ble_eq_true rfl)) dX3_sheet_34 ⟨Nat.le_refl _, Nat.le_refl _⟩) hD hS rfl (fun _ => rfl) (fun r_34 u_34 H locs q_34 hP hD hS => ?_)
        try dsimp only at q_34 hP hD
        have e_34 := q_34
        subst e_34
        have hP : va_P D vwCl (wM cI ad 0 n fo ki st we lo ra rch q0 q1 q2 q3 fk fc rd rc rv sh sle sla bg hd tr) H := hP
        have hD : va_D (AW (adM ad)) (wM cI ad 0 n fo ki st we lo ra rch q0 q1 q2 q3 fk fc rd rc rv sh sle sla bg hd tr) := hD
        exact xretM hx hb hr hlk dX3_sheet_37 hS () (by simp [A_sheet, c_4, hclj, c_22, hclw, c_28, hi60, hzi, hi0]) (fun t ht => by rw [ht]; rw [show ifU (okSheet (nI j) (nI w) i) sh (nI j).toNatClampNeg true = sh from by simp [okSheet, ifU, ifO, updN_va, c_4, hclj, c_22, hclw, c_28, hi60, hzi, hi0]]; rw [show ifU (okSheet (nI j) (nI w) i) sla (nI j).toNatClampNeg (nI w).toNatClampNeg = sla from by simp [okSheet, ifU, ifO, updN_va, c_4, hclj, c_22, hclw, c_28, hi60, hzi, hi0]]; rw [show ifU (okSheet (nI j) (nI w) i) sle (nI j).toNatClampNeg i.toNatClampNeg = sle from by simp [okSheet, ifU, ifO, updN_va, c_4, hclj, c_22, hclw, c_28, hi60, hzi, hi0]]; rw [show ifO (okSheet (nI j) (nI w) i) (clG i.toNatClampNeg (60 * (nI j).toNatClampNeg) bg) bg = bg from by simp [okSheet, ifU, ifO, updN_va, c_4, hclj, c_22, hclw, c_28, hi60, hzi, hi0]]; rw [show S_sheet (nI j) (nI w) i = 0 from by simp [S_sheet, c_4, hclj, c_22, hclw, c_28, hi60, hzi, hi0]]; exact hP)
  ·
    replace c_4 := bI_n0.mp c_4
    replace c_4 := (by simpa using c_4 : (rgB 0 3 k) = false)
    refine lv_aload_n hx hb dX3_sheet_7 rfl (lv_at hl 0 rfl) ?_
    refine lv_iconst (v := (-1)) hx hb dX3_sheet_8 (by decide) ?_
    refine xmuW (va_runV (As := [.int (-1)]) (rest := []) hF (c_X3_refused l D cI cS ad fa n fo ki st we lo ra rch q0 q1 q2 q3 fk fc rd rc rv sh sle sla bg hd tr (-1) hnd) (cwV 1 hts gX3_sheet_X3_refused rfl rfl rfl hV_X3_refused ⟨Nat.le_of_ble_eq_true rfl, Nat.le_of_ble_eq_true rfl⟩) (PR.preV hG hP (ci := 3) rfl rfl) rfl rfl hl.1 rfl (lv_room (Nat.le_of_ble_eq_true rfl)) dX3_sheet_9 ⟨Nat.le_refl _, Nat.le_refl _⟩) hD hS rfl (fun _ => rfl) (fun r_9 u_9 H locs q_9 hP hD hS => ?_)
    try dsimp only at q_9 hP hD
    have e_9 := q_9
    subst e_9
    have hP : va_P D vwCl (wM cI ad 0 n fo ki st we lo ra rch q0 q1 q2 q3 fk fc rd rc rv sh sle sla bg hd tr) H := hP
    have hD : va_D (AW (adM ad)) (wM cI ad 0 n fo ki st we lo ra rch q0 q1 q2 q3 fk fc rd rc rv sh sle sla bg hd tr) := hD
    exact xretM hx hb hr hlk dX3_sheet_12 hS () (by simp [A_sheet, c_4]) (fun t ht => by rw [ht]; rw [show ifU (okSheet k v i) sh k.toNatClampNeg true = sh from by simp [okSheet, ifU, ifO, updN_va, c_4]]; rw [show ifU (okSheet k v i) sla k.toNatClampNeg v.toNatClampNeg = sla from by simp [okSheet, ifU, ifO, updN_va, c_4]]; rw [show ifU (okSheet k v i) sle k.toNatClampNeg i.toNatClampNeg = sle from by simp [okSheet, ifU, ifO, updN_va, c_4]]; rw [show ifO (okSheet k v i) (clG i.toNatClampNeg (60 * k.toNatClampNeg) bg) bg = bg from by simp [okSheet, ifU, ifO, updN_va, c_4]]; rw [show S_sheet k v i = 0 from by simp [S_sheet, c_4]]; exact hP)

set_option maxHeartbeats 4000000 in
set_option maxRecDepth 100000 in
theorem c_X3_lose (l : Launch) (D : va_G) (cI cS : ClassId) (ad : Nat → Nat) (fa : Nat) (n : Nat) (fo : Nat) (ki : Nat → Nat) (st : Nat → Nat) (we : Nat → Nat) (lo : Nat → Nat) (ra : Nat) (rch : Nat) (q0 : Nat → Int32) (q1 : Nat → Int32) (q2 : Nat → Int32) (q3 : Nat → Int32) (fk : Nat) (fc : Nat → Nat) (rd : Nat) (rc : Nat → Nat) (rv : Nat → Nat) (sh : Nat → Bool) (sle : Nat → Nat) (sla : Nat → Nat) (bg : Nat → Int32) (hd : Nat → Int32) (tr : Int32) (k : Int32) (hnd : nd (adM ad)) (hsle : ∀ j, sle j ≤ 60) : Met l yX3_lose wsX3_lose ({ frames := 2, cells := 0, slots := 0, locals := 45 }) (PR D cI cS [.ref (ad 0), .int k] (wM cI ad fa n fo ki st we lo ra rch q0 q1 q2 q3 fk fc rd rc rv sh sle sla bg hd tr)) (va_Qi (fun r (zz : Unit) => r = A_lose sh k) (fun (zz : Unit) t => va_P D vwCl (wM cI ad fa n fo ki st we lo ra rch q0 q1 q2 q3 fk fc rd rc rv (ifU (rgB 0 3 k) sh k.toNatClampNeg false) sle sla bg hd tr) t.heap) (AW (adM ad))) 0 0 (AW (adM ad)) := by
  refine startM (by decide) rfl (Nat.le_of_ble_eq_true rfl) hnd rfl ?_
  intro p e s m below meth c hx hb hr hts hown hlk hml hG hP hD hS ls hl
  have hl : lv_has ls 3 [(0, .ref (ad 0)), (1, .int k)] := hl
  have f43 := hts (.fieldLink RX3 43 "ChairBallotModel" "sheetSize" "[I") (by decide +kernel)
  have yX3 : ∀ w ∈ u_ws RX3 TX3 23, w.before _ s = true := fun w h => hts w ((by decide +kernel : ∀ w ∈ wsX30, w ∈ wsX3_lose) w h)
  have hF : CallFix p m c cX3_lose 3 s _ wsX3_lose RX3 := ⟨hx, hb, hml, hown, hts⟩
  refine lv_iload_n hx hb dX3_lose_0 rfl (lv_at hl 1 rfl) ?_
  refine xrd (va_runS (As := [.int k]) (rest := []) hF (c_X3_noSheet l D cI cS k ) (va_cwS 1 hts gX3_lose_X3_noSheet rfl rfl rfl hD_X3_noSheet ⟨Nat.le_of_ble_eq_true rfl, Nat.le_of_ble_eq_true rfl⟩) (PR.pre hG (hP.sub (ws' := []) [] rfl)) rfl rfl hl.1 rfl (lv_room (Nat.le_of_ble_eq_true rfl)) dX3_lose_1 ⟨Nat.le_refl _, Nat.le_refl _⟩) ?_
  refine lv_if_eq (tgt := 9) hx hb dX3_lose_4 (by decide) (fun c_4 => ?_) (fun c_4 => ?_)
  ·
    replace c_4 := bI_0.mp c_4
    replace c_4 := (by simpa using c_4 : (rgB 0 3 k) = true)
    obtain ⟨j, hj0, hj1, rfl⟩ := rgB_nat (by decide) c_4
    have hclj := cl8 (j := j) (by omega)
    refine lv_aload_n hx hb dX3_lose_9 rfl (lv_at hl 0 rfl) ?_
    refine va_get (D := D) (ci := 3) (v := .ref (ad 12)) (C := RX3) (T := TX3) (N := 23) hx hb yX3 (fun _ h => h) hown hG.1 hP 0 rfl rfl 18 (by decide) f43 (fun _ h => h) rfl dX3_lose_10 ?_
    refine lv_iload_n hx hb dX3_lose_13 rfl (lv_at hl 1 rfl) ?_
    refine xald hx hb hG hP 12 rfl (j) rfl (by omega) (by decide) dX3_lose_14 ?_
    refine lv_if_ge (tgt := 22) hx hb dX3_lose_15 (by decide) (fun c_15 => ?_) (fun c_15 => ?_)
    ·
      replace c_15 : 0 ≤ ((szI sh sle) j).toInt := (i32_gec (b := 0) (by omega)).mp c_15
      have hz15 : sh j = true := szI_ge (by omega)
      refine lv_iconst (v := nI 1) hx hb dX3_lose_22 (by decide) ?_
      refine lv_istore_n (lv' := [(2, .int (nI 1)), (0, .ref (ad 0)), (1, .int (nI j))]) hx hb dX3_lose_23 rfl hl (by decide) rfl (fun ls hl => ?_)
      refine lv_aload_n hx hb dX3_lose_24 rfl (lv_at hl 1 rfl) ?_
      refine va_get (D := D) (ci := 3) (v := .ref (ad 12)) (C := RX3) (T := TX3) (N := 23) hx hb yX3 (fun _ h => h) hown hG.1 hP 0 rfl rfl 18 (by decide) f43 (fun _ h => h) rfl dX3_lose_25 ?_
      refine lv_iload_n hx hb dX3_lose_28 rfl (lv_at hl 2 rfl) ?_
      refine lv_iconst (v := (-1)) hx hb dX3_lose_29 (by decide) ?_
      refine xast hx hb hG hP hD hS 12 rfl (j) rfl (by omega) (by decide) dX3_lose_30 (fun H locs hP hD hS => ?_)
      rw [wM_szI_lose] at hP hD
      have hP : va_P D vwCl (wM cI ad fa n fo ki st we lo ra rch q0 q1 q2 q3 fk fc rd rc rv (va_up sh j false) sle sla bg hd tr) H := hP
      have hD : va_D (AW (adM ad)) (wM cI ad fa n fo ki st we lo ra rch q0 q1 q2 q3 fk fc rd rc rv (va_up sh j false) sle sla bg hd tr) := hD
      refine lv_iload_n hx hb dX3_lose_31 rfl (lv_at hl 0 rfl) ?_
      exact xretM hx hb hr hlk dX3_lose_32 hS () (by simp [A_lose, bI_true, bI_false, c_4, hclj, c_15, hz15]) (fun t ht => by rw [ht]; rw [show ifU (rgB 0 3 (nI j)) sh (nI j).toNatClampNeg false = (va_up sh j false) from by simp [ifU, c_4, hclj, c_15, hz15]]; exact hP)
    ·
      replace c_15 : ¬ 0 ≤ ((szI sh sle) j).toInt := (not_congr (i32_gec (b := 0) (by omega))).mp c_15
      have hz15 : sh j = false := szI_lt (by omega) (hsle j)
      refine lv_iconst (v := nI 0) hx hb dX3_lose_18 (by decide) ?_
      refine lv_goto (tgt := 23) hx hb dX3_lose_19 (by decide) ?_
      refine lv_istore_n (lv' := [(2, .int (nI 0)), (0, .ref (ad 0)), (1, .int (nI j))]) hx hb dX3_lose_23 rfl hl (by decide) rfl (fun ls hl => ?_)
      refine lv_aload_n hx hb dX3_lose_24 rfl (lv_at hl 1 rfl) ?_
      refine va_get (D := D) (ci := 3) (v := .ref (ad 12)) (C := RX3) (T := TX3) (N := 23) hx hb yX3 (fun _ h => h) hown hG.1 hP 0 rfl rfl 18 (by decide) f43 (fun _ h => h) rfl dX3_lose_25 ?_
      refine lv_iload_n hx hb dX3_lose_28 rfl (lv_at hl 2 rfl) ?_
      refine lv_iconst (v := (-1)) hx hb dX3_lose_29 (by decide) ?_
      refine xast hx hb hG hP hD hS 12 rfl (j) rfl (by omega) (by decide) dX3_lose_30 (fun H locs hP hD hS => ?_)
      rw [wM_szI_lose] at hP hD
      have hP : va_P D vwCl (wM cI ad fa n fo ki st we lo ra rch q0 q1 q2 q3 fk fc rd rc rv (va_up sh j false) sle sla bg hd tr) H := hP
      have hD : va_D (AW (adM ad)) (wM cI ad fa n fo ki st we lo ra rch q0 q1 q2 q3 fk fc rd rc rv (va_up sh j false) sle sla bg hd tr) := hD
      refine lv_iload_n hx hb dX3_lose_31 rfl (lv_at hl 0 rfl) ?_
      exact xretM hx hb hr hlk dX3_lose_32 hS () (by simp [A_lose, bI_true, bI_false, c_4, hclj, c_15, hz15]) (fun t ht => by rw [ht]; rw [show ifU (rgB 0 3 (nI j)) sh (nI j).toNatClampNeg false = (va_up sh j false) from by simp [ifU, c_4, hclj, c_15, hz15]]; exact hP)
  ·
    replace c_4 := bI_n0.mp c_4
    replace c_4 := (by simpa using c_4 : (rgB 0 3 k) = false)
    refine lv_iconst (v := (-1)) hx hb dX3_lose_7 (by decide) ?_
    exact xretM hx hb hr hlk dX3_lose_8 hS () (by simp [A_lose, bI_true, bI_false, c_4]) (fun t ht => by rw [ht]; rw [show ifU (rgB 0 3 k) sh k.toNatClampNeg false = sh from by simp [ifU, c_4]]; exact hP)

set_option maxHeartbeats 4000000 in
set_option maxRecDepth 100000 in
theorem c_X3_noCell (l : Launch) (D : va_G) (cI cS : ClassId) (ad : Nat → Nat) (fa : Nat) (n : Nat) (fo : Nat) (ki : Nat → Nat) (st : Nat → Nat) (we : Nat → Nat) (lo : Nat → Nat) (ra : Nat) (rch : Nat) (q0 : Nat → Int32) (q1 : Nat → Int32) (q2 : Nat → Int32) (q3 : Nat → Int32) (fk : Nat) (fc : Nat → Nat) (rd : Nat) (rc : Nat → Nat) (rv : Nat → Nat) (sh : Nat → Bool) (sle : Nat → Nat) (sla : Nat → Nat) (bg : Nat → Int32) (hd : Nat → Int32) (tr : Int32) (j : Nat) (i : Int32) (hsle : ∀ j, sle j ≤ 60) (hj4 : j < 4) : Met l yX3_noCell wsX3_noCell ({ frames := 1, cells := 0, slots := 0, locals := 25 }) (PR D cI cS [.ref (ad 0), .int (nI j), .int i] (wM cI ad fa n fo ki st we lo ra rch q0 q1 q2 q3 fk fc rd rc rv sh sle sla bg hd tr)) (vp_Si (fun r => r = nI (ncF sh sle j i))) 0 0 (fun _ => False) := by
  refine startR (by decide) rfl (Nat.le_of_ble_eq_true rfl) ?_
  intro p e s m below meth c hx hb hr hts hown hlk hml hG hP ls hl
  have hl : lv_has ls 3 [(0, .ref (ad 0)), (1, .int (nI j)), (2, .int i)] := hl
  have f43 := hts (.fieldLink RX3 43 "ChairBallotModel" "sheetSize" "[I") (by decide +kernel)
  have yX3 : ∀ w ∈ u_ws RX3 TX3 23, w.before _ s = true := fun w h => hts w ((by decide +kernel : ∀ w ∈ wsX30, w ∈ wsX3_noCell) w h)
  have hF : CallFix p m c cX3_noCell 3 s _ wsX3_noCell RX3 := ⟨hx, hb, hml, hown, hts⟩
  have hsj := hsle j
  refine lv_aload_n hx hb dX3_noCell_0 rfl (lv_at hl 0 rfl) ?_
  refine va_get (D := D) (ci := 3) (v := .ref (ad 12)) (C := RX3) (T := TX3) (N := 23) hx hb yX3 (fun _ h => h) hown hG.1 hP 0 rfl rfl 18 (by decide) f43 (fun _ h => h) rfl dX3_noCell_1 ?_
  refine lv_iload_n hx hb dX3_noCell_4 rfl (lv_at hl 1 rfl) ?_
  refine xald hx hb hG hP 12 rfl (j) rfl (by omega) (by decide) dX3_noCell_5 ?_
  refine lv_if_ge (tgt := 13) hx hb dX3_noCell_6 (by decide) (fun c_6 => ?_) (fun c_6 => ?_)
  ·
    replace c_6 : 0 ≤ ((szI sh sle) j).toInt := (i32_gec (b := 0) (by omega)).mp c_6
    have hz6 : sh j = true := szI_ge (by omega)
    refine lv_iload_n hx hb dX3_noCell_13 rfl (lv_at hl 2 rfl) ?_
    refine lv_i2l (v := i.toInt64) hx hb dX3_noCell_14 rfl ?_
    refine lv_lconst (v := lN 0) hx hb dX3_noCell_15 rfl ?_
    refine lv_aload_n hx hb dX3_noCell_16 rfl (lv_at hl 0 rfl) ?_
    refine va_get (D := D) (ci := 3) (v := .ref (ad 12)) (C := RX3) (T := TX3) (N := 23) hx hb yX3 (fun _ h => h) hown hG.1 hP 0 rfl rfl 18 (by decide) f43 (fun _ h => h) rfl dX3_noCell_17 ?_
    refine lv_iload_n hx hb dX3_noCell_20 rfl (lv_at hl 1 rfl) ?_
    refine xald hx hb hG hP 12 rfl (j) rfl (by omega) (by decide) dX3_noCell_21 ?_
    refine xtop (x' := nI (sle j)) (by exact szI_t (by assumption)) ?_
    refine lv_i2l (v := lN (sle j)) hx hb dX3_noCell_22 (nI_l (by omega)) ?_
    refine lv_lconst (v := lN 1) hx hb dX3_noCell_23 rfl ?_
    refine lv_lsub hx hb dX3_noCell_24 ?_
    refine xrd (va_runS (As := [.long i.toInt64, .long (lN 0), .long ((lN (sle j)) - (lN 1))]) (rest := []) hF (c_X3_inK2 l D cI cS i (sle j) (by first | assumption | omega)) (va_cwS 3 hts gX3_noCell_X3_in rfl rfl rfl hD_X3_in ⟨Nat.le_of_ble_eq_true rfl, Nat.le_of_ble_eq_true rfl⟩) (PR.pre hG (hP.sub (ws' := []) [] rfl)) rfl rfl hl.1 rfl (lv_room (Nat.le_of_ble_eq_true rfl)) dX3_noCell_25 ⟨Nat.le_refl _, Nat.le_refl _⟩) ?_
    refine lv_if_eq (tgt := 35) hx hb dX3_noCell_28 (by decide) (fun c_28 => ?_) (fun c_28 => ?_)
    ·
      replace c_28 := bI_0.mp c_28
      refine lv_iconst (v := nI 3) hx hb dX3_noCell_35 (by decide) ?_
      exact xretR hx hb hr hlk dX3_noCell_36 (by simp [ncF, c_6, hz6, c_28])
    ·
      replace c_28 := bI_n0.mp c_28
      refine lv_iconst (v := nI 0) hx hb dX3_noCell_31 (by decide) ?_
      refine lv_goto (tgt := 36) hx hb dX3_noCell_32 (by decide) ?_
      exact xretR hx hb hr hlk dX3_noCell_36 (by simp [ncF, c_6, hz6, c_28])
  ·
    replace c_6 : ¬ 0 ≤ ((szI sh sle) j).toInt := (not_congr (i32_gec (b := 0) (by omega))).mp c_6
    have hz6 : sh j = false := szI_lt (by omega) (hsle j)
    refine lv_iconst (v := nI 1) hx hb dX3_noCell_9 (by decide) ?_
    refine lv_goto (tgt := 36) hx hb dX3_noCell_10 (by decide) ?_
    exact xretR hx hb hr hlk dX3_noCell_36 (by simp [ncF, c_6, hz6])

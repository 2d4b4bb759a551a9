theorem hV_X0_isCarried : yX0_isCarried.cls = RX0 ∧ yX0_isCarried.cls ≠ "java/lang/invoke/MethodHandle" ∧ yX0_isCarried.cls ≠ "java/lang/invoke/VarHandle" ∧ (parseMethodDescriptor yX0_isCarried.desc).map (fun d => d.parameters.length) = some 0 := by decide +kernel
theorem hV_X0_votesOf : yX0_votesOf.cls = RX0 ∧ yX0_votesOf.cls ≠ "java/lang/invoke/MethodHandle" ∧ yX0_votesOf.cls ≠ "java/lang/invoke/VarHandle" ∧ (parseMethodDescriptor yX0_votesOf.desc).map (fun d => d.parameters.length) = some 1 := by decide +kernel
theorem hV_X0_votesOfStripes : yX0_votesOfStripes.cls = RX0 ∧ yX0_votesOfStripes.cls ≠ "java/lang/invoke/MethodHandle" ∧ yX0_votesOfStripes.cls ≠ "java/lang/invoke/VarHandle" ∧ (parseMethodDescriptor yX0_votesOfStripes.desc).map (fun d => d.parameters.length) = some 1 := by decide +kernel
theorem hV_X1_at : yX1_at.cls = RX1 ∧ yX1_at.cls ≠ "java/lang/invoke/MethodHandle" ∧ yX1_at.cls ≠ "java/lang/invoke/VarHandle" ∧ (parseMethodDescriptor yX1_at.desc).map (fun d => d.parameters.length) = some 1 := by decide +kernel
theorem hV_X1_becomesAt : yX1_becomesAt.cls = RX1 ∧ yX1_becomesAt.cls ≠ "java/lang/invoke/MethodHandle" ∧ yX1_becomesAt.cls ≠ "java/lang/invoke/VarHandle" ∧ (parseMethodDescriptor yX1_becomesAt.desc).map (fun d => d.parameters.length) = some 2 := by decide +kernel
theorem hV_X1_faultAs : yX1_faultAs.cls = RX1 ∧ yX1_faultAs.cls ≠ "java/lang/invoke/MethodHandle" ∧ yX1_faultAs.cls ≠ "java/lang/invoke/VarHandle" ∧ (parseMethodDescriptor yX1_faultAs.desc).map (fun d => d.parameters.length) = some 1 := by decide +kernel
theorem hV_X1_getsRow : yX1_getsRow.cls = RX1 ∧ yX1_getsRow.cls ≠ "java/lang/invoke/MethodHandle" ∧ yX1_getsRow.cls ≠ "java/lang/invoke/VarHandle" ∧ (parseMethodDescriptor yX1_getsRow.desc).map (fun d => d.parameters.length) = some 2 := by decide +kernel
theorem hV_X2_faulted : yX2_faulted.cls = RX2 ∧ yX2_faulted.cls ≠ "java/lang/invoke/MethodHandle" ∧ yX2_faulted.cls ≠ "java/lang/invoke/VarHandle" ∧ (parseMethodDescriptor yX2_faulted.desc).map (fun d => d.parameters.length) = some 1 := by decide +kernel
theorem hV_X2_hasFront : yX2_hasFront.cls = RX2 ∧ yX2_hasFront.cls ≠ "java/lang/invoke/MethodHandle" ∧ yX2_hasFront.cls ≠ "java/lang/invoke/VarHandle" ∧ (parseMethodDescriptor yX2_hasFront.desc).map (fun d => d.parameters.length) = some 0 := by decide +kernel
theorem hD_X2_isLane : yX2_isLane.cls ≠ "java/lang/invoke/MethodHandle" ∧ yX2_isLane.cls ≠ "java/lang/invoke/VarHandle" ∧ (parseMethodDescriptor yX2_isLane.desc).map (fun d => d.parameters.length) = some 1 := by decide +kernel
theorem hD_X2_isStripe : yX2_isStripe.cls ≠ "java/lang/invoke/MethodHandle" ∧ yX2_isStripe.cls ≠ "java/lang/invoke/VarHandle" ∧ (parseMethodDescriptor yX2_isStripe.desc).map (fun d => d.parameters.length) = some 1 := by decide +kernel
theorem hD_X2_isWay : yX2_isWay.cls ≠ "java/lang/invoke/MethodHandle" ∧ yX2_isWay.cls ≠ "java/lang/invoke/VarHandle" ∧ (parseMethodDescriptor yX2_isWay.desc).map (fun d => d.parameters.length) = some 1 := by decide +kernel
theorem hV_X2_leaveInTrace : yX2_leaveInTrace.cls = RX2 ∧ yX2_leaveInTrace.cls ≠ "java/lang/invoke/MethodHandle" ∧ yX2_leaveInTrace.cls ≠ "java/lang/invoke/VarHandle" ∧ (parseMethodDescriptor yX2_leaveInTrace.desc).map (fun d => d.parameters.length) = some 1 := by decide +kernel
theorem hV_X2_sheetAt : yX2_sheetAt.cls = RX2 ∧ yX2_sheetAt.cls ≠ "java/lang/invoke/MethodHandle" ∧ yX2_sheetAt.cls ≠ "java/lang/invoke/VarHandle" ∧ (parseMethodDescriptor yX2_sheetAt.desc).map (fun d => d.parameters.length) = some 1 := by decide +kernel
theorem hV_X2_toldAsBroken : yX2_toldAsBroken.cls = RX2 ∧ yX2_toldAsBroken.cls ≠ "java/lang/invoke/MethodHandle" ∧ yX2_toldAsBroken.cls ≠ "java/lang/invoke/VarHandle" ∧ (parseMethodDescriptor yX2_toldAsBroken.desc).map (fun d => d.parameters.length) = some 1 := by decide +kernel
theorem hV_X2_toldAsPlain : yX2_toldAsPlain.cls = RX2 ∧ yX2_toldAsPlain.cls ≠ "java/lang/invoke/MethodHandle" ∧ yX2_toldAsPlain.cls ≠ "java/lang/invoke/VarHandle" ∧ (parseMethodDescriptor yX2_toldAsPlain.desc).map (fun d => d.parameters.length) = some 1 := by decide +kernel
theorem hV_X2_toldAsShaded : yX2_toldAsShaded.cls = RX2 ∧ yX2_toldAsShaded.cls ≠ "java/lang/invoke/MethodHandle" ∧ yX2_toldAsShaded.cls ≠ "java/lang/invoke/VarHandle" ∧ (parseMethodDescriptor yX2_toldAsShaded.desc).map (fun d => d.parameters.length) = some 1 := by decide +kernel
set_option maxHeartbeats 4000000 in
set_option maxRecDepth 100000 in
theorem c_X2_isLane (l : Launch) (D : va_G) (cI cS : ClassId) (v : Int32)  : Met l yX2_isLane wsX2_isLane ({ frames := 0, cells := 0, slots := 0, locals := 0 }) (PR D cI cS [.int v] []) (vp_Si (fun r => r = bI (rgB 0 2 v))) 0 0 (fun _ => False) := by
  refine startR (by decide) rfl (Nat.le_of_ble_eq_true rfl) ?_
  intro p e s m below meth c hx hb hr hts hown hlk hml hG hP ls hl
  have hl : lv_has ls 1 [(0, .int v)] := hl
  have hF : CallFix p m c cX2_isLane 1 s _ wsX2_isLane RX2 := ⟨hx, hb, hml, hown, hts⟩
  refine lv_iload_n hx hb dX2_isLane_0 rfl (lv_at hl 0 rfl) ?_
  refine lv_if_lt (tgt := 13) hx hb dX2_isLane_1 (by decide) (fun c_1 => ?_) (fun c_1 => ?_)
  ·
    replace c_1 : v.toInt < 0 := (i32_ltc (b := 0) (by omega)).mp c_1
    refine lv_iconst (v := nI 0) hx hb dX2_isLane_13 (by decide) ?_
    exact xretRz hx hb hr hlk dX2_isLane_14 (false) rfl (by first | (rw [rgB_y (by omega) (by omega)]; rfl) | (rw [rgB_n1 (by omega)]; rfl) | (rw [rgB_n2 (by omega)]; rfl))
  ·
    replace c_1 : ¬ v.toInt < 0 := (not_congr (i32_ltc (b := 0) (by omega))).mp c_1
    refine lv_iload_n hx hb dX2_isLane_4 rfl (lv_at hl 0 rfl) ?_
    refine lv_iconst (v := nI 2) hx hb dX2_isLane_5 (by decide) ?_
    refine lv_icmp_gt (tgt := 13) hx hb dX2_isLane_6 (by decide) (fun c_6 => ?_) (fun c_6 => ?_)
    ·
      replace c_6 : 2 < v.toInt := (i32_gtc (b := 2) (by omega)).mp c_6
      refine lv_iconst (v := nI 0) hx hb dX2_isLane_13 (by decide) ?_
      exact xretRz hx hb hr hlk dX2_isLane_14 (false) rfl (by first | (rw [rgB_y (by omega) (by omega)]; rfl) | (rw [rgB_n1 (by omega)]; rfl) | (rw [rgB_n2 (by omega)]; rfl))
    ·
      replace c_6 : ¬ 2 < v.toInt := (not_congr (i32_gtc (b := 2) (by omega))).mp c_6
      refine lv_iconst (v := nI 1) hx hb dX2_isLane_9 (by decide) ?_
      refine lv_goto (tgt := 14) hx hb dX2_isLane_10 (by decide) ?_
      exact xretRz hx hb hr hlk dX2_isLane_14 (true) rfl (by first | (rw [rgB_y (by omega) (by omega)]; rfl) | (rw [rgB_n1 (by omega)]; rfl) | (rw [rgB_n2 (by omega)]; rfl))

set_option maxHeartbeats 4000000 in
set_option maxRecDepth 100000 in
theorem c_X2_isStripe (l : Launch) (D : va_G) (cI cS : ClassId) (v : Int32)  : Met l yX2_isStripe wsX2_isStripe ({ frames := 0, cells := 0, slots := 0, locals := 0 }) (PR D cI cS [.int v] []) (vp_Si (fun r => r = bI (rgB 0 3 v))) 0 0 (fun _ => False) := by
  refine startR (by decide) rfl (Nat.le_of_ble_eq_true rfl) ?_
  intro p e s m below meth c hx hb hr hts hown hlk hml hG hP ls hl
  have hl : lv_has ls 1 [(0, .int v)] := hl
  have hF : CallFix p m c cX2_isStripe 1 s _ wsX2_isStripe RX2 := ⟨hx, hb, hml, hown, hts⟩
  refine lv_iload_n hx hb dX2_isStripe_0 rfl (lv_at hl 0 rfl) ?_
  refine lv_if_lt (tgt := 13) hx hb dX2_isStripe_1 (by decide) (fun c_1 => ?_) (fun c_1 => ?_)
  ·
    replace c_1 : v.toInt < 0 := (i32_ltc (b := 0) (by omega)).mp c_1
    refine lv_iconst (v := nI 0) hx hb dX2_isStripe_13 (by decide) ?_
    exact xretRz hx hb hr hlk dX2_isStripe_14 (false) rfl (by first | (rw [rgB_y (by omega) (by omega)]; rfl) | (rw [rgB_n1 (by omega)]; rfl) | (rw [rgB_n2 (by omega)]; rfl))
  ·
    replace c_1 : ¬ v.toInt < 0 := (not_congr (i32_ltc (b := 0) (by omega))).mp c_1
    refine lv_iload_n hx hb dX2_isStripe_4 rfl (lv_at hl 0 rfl) ?_
    refine lv_iconst (v := nI 4) hx hb dX2_isStripe_5 (by decide) ?_
    refine lv_icmp_ge (tgt := 13) hx hb dX2_isStripe_6 (by decide) (fun c_6 => ?_) (fun c_6 => ?_)
    ·
      replace c_6 : 4 ≤ v.toInt := (i32_gec (b := 4) (by omega)).mp c_6
      refine lv_iconst (v := nI 0) hx hb dX2_isStripe_13 (by decide) ?_
      exact xretRz hx hb hr hlk dX2_isStripe_14 (false) rfl (by first | (rw [rgB_y (by omega) (by omega)]; rfl) | (rw [rgB_n1 (by omega)]; rfl) | (rw [rgB_n2 (by omega)]; rfl))
    ·
      replace c_6 : ¬ 4 ≤ v.toInt := (not_congr (i32_gec (b := 4) (by omega))).mp c_6
      refine lv_iconst (v := nI 1) hx hb dX2_isStripe_9 (by decide) ?_
      refine lv_goto (tgt := 14) hx hb dX2_isStripe_10 (by decide) ?_
      exact xretRz hx hb hr hlk dX2_isStripe_14 (true) rfl (by first | (rw [rgB_y (by omega) (by omega)]; rfl) | (rw [rgB_n1 (by omega)]; rfl) | (rw [rgB_n2 (by omega)]; rfl))

set_option maxHeartbeats 4000000 in
set_option maxRecDepth 100000 in
theorem c_X2_isWay (l : Launch) (D : va_G) (cI cS : ClassId) (v : Int32)  : Met l yX2_isWay wsX2_isWay ({ frames := 0, cells := 0, slots := 0, locals := 0 }) (PR D cI cS [.int v] []) (vp_Si (fun r => r = bI (rgB 0 3 v))) 0 0 (fun _ => False) := by
  refine startR (by decide) rfl (Nat.le_of_ble_eq_true rfl) ?_
  intro p e s m below meth c hx hb hr hts hown hlk hml hG hP ls hl
  have hl : lv_has ls 1 [(0, .int v)] := hl
  have hF : CallFix p m c cX2_isWay 1 s _ wsX2_isWay RX2 := ⟨hx, hb, hml, hown, hts⟩
  refine lv_iload_n hx hb dX2_isWay_0 rfl (lv_at hl 0 rfl) ?_
  refine lv_if_lt (tgt := 13) hx hb dX2_isWay_1 (by decide) (fun c_1 => ?_) (fun c_1 => ?_)
  ·
    replace c_1 : v.toInt < 0 := (i32_ltc (b := 0) (by omega)).mp c_1
    refine lv_iconst (v := nI 0) hx hb dX2_isWay_13 (by decide) ?_
    exact xretRz hx hb hr hlk dX2_isWay_14 (false) rfl (by first | (rw [rgB_y (by omega) (by omega)]; rfl) | (rw [rgB_n1 (by omega)]; rfl) | (rw [rgB_n2 (by omega)]; rfl))
  ·
    replace c_1 : ¬ v.toInt < 0 := (not_congr (i32_ltc (b := 0) (by omega))).mp c_1
    refine lv_iload_n hx hb dX2_isWay_4 rfl (lv_at hl 0 rfl) ?_
    refine lv_iconst (v := nI 3) hx hb dX2_isWay_5 (by decide) ?_
    refine lv_icmp_gt (tgt := 13) hx hb dX2_isWay_6 (by decide) (fun c_6 => ?_) (fun c_6 => ?_)
    ·
      replace c_6 : 3 < v.toInt := (i32_gtc (b := 3) (by omega)).mp c_6
      refine lv_iconst (v := nI 0) hx hb dX2_isWay_13 (by decide) ?_
      exact xretRz hx hb hr hlk dX2_isWay_14 (false) rfl (by first | (rw [rgB_y (by omega) (by omega)]; rfl) | (rw [rgB_n1 (by omega)]; rfl) | (rw [rgB_n2 (by omega)]; rfl))
    ·
      replace c_6 : ¬ 3 < v.toInt := (not_congr (i32_gtc (b := 3) (by omega))).mp c_6
      refine lv_iconst (v := nI 1) hx hb dX2_isWay_9 (by decide) ?_
      refine lv_goto (tgt := 14) hx hb dX2_isWay_10 (by decide) ?_
      exact xretRz hx hb hr hlk dX2_isWay_14 (true) rfl (by first | (rw [rgB_y (by omega) (by omega)]; rfl) | (rw [rgB_n1 (by omega)]; rfl) | (rw [rgB_n2 (by omega)]; rfl))

set_option maxHeartbeats 4000000 in
set_option maxRecDepth 100000 in
theorem c_X2_isUpperOrLower (l : Launch) (D : va_G) (cI cS : ClassId) (v : Int32)  : Met l yX2_isUpperOrLower wsX2_isUpperOrLower ({ frames := 0, cells := 0, slots := 0, locals := 0 }) (PR D cI cS [.int v] []) (vp_Si (fun r => r = bI (rgB 0 1 v))) 0 0 (fun _ => False) := by
  refine startR (by decide) rfl (Nat.le_of_ble_eq_true rfl) ?_
  intro p e s m below meth c hx hb hr hts hown hlk hml hG hP ls hl
  have hl : lv_has ls 1 [(0, .int v)] := hl
  have hF : CallFix p m c cX2_isUpperOrLower 1 s _ wsX2_isUpperOrLower RX2 := ⟨hx, hb, hml, hown, hts⟩
  refine lv_iload_n hx hb dX2_isUpperOrLower_0 rfl (lv_at hl 0 rfl) ?_
  refine lv_if_eq (tgt := 9) hx hb dX2_isUpperOrLower_1 (by decide) (fun c_1 => ?_) (fun c_1 => ?_)
  ·
    refine lv_iconst (v := nI 1) hx hb dX2_isUpperOrLower_9 (by decide) ?_
    refine lv_goto (tgt := 14) hx hb dX2_isUpperOrLower_10 (by decide) ?_
    exact xretRz hx hb hr hlk dX2_isUpperOrLower_14 (true) rfl (by first | (rw [c_1]; rfl) | (rw [c_6]; rfl) | (rw [rgB_01 c_1 c_6]; rfl))
  ·
    refine lv_iload_n hx hb dX2_isUpperOrLower_4 rfl (lv_at hl 0 rfl) ?_
    refine lv_iconst (v := nI 1) hx hb dX2_isUpperOrLower_5 (by decide) ?_
    refine lv_icmp_ne (tgt := 13) hx hb dX2_isUpperOrLower_6 (by decide) (fun c_6 => ?_) (fun c_6 => ?_)
    ·
      refine lv_iconst (v := nI 0) hx hb dX2_isUpperOrLower_13 (by decide) ?_
      exact xretRz hx hb hr hlk dX2_isUpperOrLower_14 (false) rfl (by first | (rw [c_1]; rfl) | (rw [c_6]; rfl) | (rw [rgB_01 c_1 c_6]; rfl))
    ·
      refine lv_iconst (v := nI 1) hx hb dX2_isUpperOrLower_9 (by decide) ?_
      refine lv_goto (tgt := 14) hx hb dX2_isUpperOrLower_10 (by decide) ?_
      exact xretRz hx hb hr hlk dX2_isUpperOrLower_14 (true) rfl (by first | (rw [c_1]; rfl) | (rw [c_6]; rfl) | (rw [rgB_01 c_1 c_6]; rfl))

set_option maxHeartbeats 4000000 in
set_option maxRecDepth 100000 in
theorem c_X2_isAskedOfDay (l : Launch) (D : va_G) (cI cS : ClassId) (v : Int32)  : Met l yX2_isAskedOfDay wsX2_isAskedOfDay ({ frames := 0, cells := 0, slots := 0, locals := 0 }) (PR D cI cS [.int v] []) (vp_Si (fun r => r = bI (rgB 0 4 v || rgB 10 17 v))) 0 0 (fun _ => False) := by
  refine startR (by decide) rfl (Nat.le_of_ble_eq_true rfl) ?_
  intro p e s m below meth c hx hb hr hts hown hlk hml hG hP ls hl
  have hl : lv_has ls 1 [(0, .int v)] := hl
  have hF : CallFix p m c cX2_isAskedOfDay 1 s _ wsX2_isAskedOfDay RX2 := ⟨hx, hb, hml, hown, hts⟩
  refine lv_iload_n hx hb dX2_isAskedOfDay_0 rfl (lv_at hl 0 rfl) ?_
  refine lv_if_lt (tgt := 9) hx hb dX2_isAskedOfDay_1 (by decide) (fun c_1 => ?_) (fun c_1 => ?_)
  ·
    replace c_1 : v.toInt < 0 := (i32_ltc (b := 0) (by omega)).mp c_1
    refine lv_iload_n hx hb dX2_isAskedOfDay_9 rfl (lv_at hl 0 rfl) ?_
    refine lv_bipush (v := nI 10) hx hb dX2_isAskedOfDay_10 (by decide) ?_
    refine lv_icmp_lt (tgt := 25) hx hb dX2_isAskedOfDay_12 (by decide) (fun c_12 => ?_) (fun c_12 => ?_)
    ·
      replace c_12 : v.toInt < 10 := (i32_ltc (b := 10) (by omega)).mp c_12
      refine lv_iconst (v := nI 0) hx hb dX2_isAskedOfDay_25 (by decide) ?_
      exact xretRz hx hb hr hlk dX2_isAskedOfDay_26 (false) rfl (by first | (rw [rgB_y (a := 0) (b := 4) (by omega) (by omega)]; rfl) | (rw [rgB_y (a := 10) (b := 17) (by omega) (by omega), Bool.or_true]; rfl) | (rw [dayB_n (by omega)]; rfl))
    ·
      replace c_12 : ¬ v.toInt < 10 := (not_congr (i32_ltc (b := 10) (by omega))).mp c_12
      refine lv_iload_n hx hb dX2_isAskedOfDay_15 rfl (lv_at hl 0 rfl) ?_
      refine lv_bipush (v := nI 18) hx hb dX2_isAskedOfDay_16 (by decide) ?_
      refine lv_icmp_ge (tgt := 25) hx hb dX2_isAskedOfDay_18 (by decide) (fun c_18 => ?_) (fun c_18 => ?_)
      ·
        replace c_18 : 18 ≤ v.toInt := (i32_gec (b := 18) (by omega)).mp c_18
        refine lv_iconst (v := nI 0) hx hb dX2_isAskedOfDay_25 (by decide) ?_
        exact xretRz hx hb hr hlk dX2_isAskedOfDay_26 (false) rfl (by first | (rw [rgB_y (a := 0) (b := 4) (by omega) (by omega)]; rfl) | (rw [rgB_y (a := 10) (b := 17) (by omega) (by omega), Bool.or_true]; rfl) | (rw [dayB_n (by omega)]; rfl))
      ·
        replace c_18 : ¬ 18 ≤ v.toInt := (not_congr (i32_gec (b := 18) (by omega))).mp c_18
        refine lv_iconst (v := nI 1) hx hb dX2_isAskedOfDay_21 (by decide) ?_
        refine lv_goto (tgt := 26) hx hb dX2_isAskedOfDay_22 (by decide) ?_
        exact xretRz hx hb hr hlk dX2_isAskedOfDay_26 (true) rfl (by first | (rw [rgB_y (a := 0) (b := 4) (by omega) (by omega)]; rfl) | (rw [rgB_y (a := 10) (b := 17) (by omega) (by omega), Bool.or_true]; rfl) | (rw [dayB_n (by omega)]; rfl))
  ·
    replace c_1 : ¬ v.toInt < 0 := (not_congr (i32_ltc (b := 0) (by omega))).mp c_1
    refine lv_iload_n hx hb dX2_isAskedOfDay_4 rfl (lv_at hl 0 rfl) ?_
    refine lv_iconst (v := nI 4) hx hb dX2_isAskedOfDay_5 (by decide) ?_
    refine lv_icmp_le (tgt := 21) hx hb dX2_isAskedOfDay_6 (by decide) (fun c_6 => ?_) (fun c_6 => ?_)
    ·
      replace c_6 : v.toInt ≤ 4 := (i32_lec (b := 4) (by omega)).mp c_6
      refine lv_iconst (v := nI 1) hx hb dX2_isAskedOfDay_21 (by decide) ?_
      refine lv_goto (tgt := 26) hx hb dX2_isAskedOfDay_22 (by decide) ?_
      exact xretRz hx hb hr hlk dX2_isAskedOfDay_26 (true) rfl (by first | (rw [rgB_y (a := 0) (b := 4) (by omega) (by omega)]; rfl) | (rw [rgB_y (a := 10) (b := 17) (by omega) (by omega), Bool.or_true]; rfl) | (rw [dayB_n (by omega)]; rfl))
    ·
      replace c_6 : ¬ v.toInt ≤ 4 := (not_congr (i32_lec (b := 4) (by omega))).mp c_6
      refine lv_iload_n hx hb dX2_isAskedOfDay_9 rfl (lv_at hl 0 rfl) ?_
      refine lv_bipush (v := nI 10) hx hb dX2_isAskedOfDay_10 (by decide) ?_
      refine lv_icmp_lt (tgt := 25) hx hb dX2_isAskedOfDay_12 (by decide) (fun c_12 => ?_) (fun c_12 => ?_)
      ·
        replace c_12 : v.toInt < 10 := (i32_ltc (b := 10) (by omega)).mp c_12
        refine lv_iconst (v := nI 0) hx hb dX2_isAskedOfDay_25 (by decide) ?_
        exact xretRz hx hb hr hlk dX2_isAskedOfDay_26 (false) rfl (by first | (rw [rgB_y (a := 0) (b := 4) (by omega) (by omega)]; rfl) | (rw [rgB_y (a := 10) (b := 17) (by omega) (by omega), Bool.or_true]; rfl) | (rw [dayB_n (by omega)]; rfl))
      ·
        replace c_12 : ¬ v.toInt < 10 := (not_congr (i32_ltc (b := 10) (by omega))).mp c_12
        refine lv_iload_n hx hb dX2_isAskedOfDay_15 rfl (lv_at hl 0 rfl) ?_
        refine lv_bipush (v := nI 18) hx hb dX2_isAskedOfDay_16 (by decide) ?_
        refine lv_icmp_ge (tgt := 25) hx hb dX2_isAskedOfDay_18 (by decide) (fun c_18 => ?_) (fun c_18 => ?_)
        ·
          replace c_18 : 18 ≤ v.toInt := (i32_gec (b := 18) (by omega)).mp c_18
          refine lv_iconst (v := nI 0) hx hb dX2_isAskedOfDay_25 (by decide) ?_
          exact xretRz hx hb hr hlk dX2_isAskedOfDay_26 (false) rfl (by first | (rw [rgB_y (a := 0) (b := 4) (by omega) (by omega)]; rfl) | (rw [rgB_y (a := 10) (b := 17) (by omega) (by omega), Bool.or_true]; rfl) | (rw [dayB_n (by omega)]; rfl))
        ·
          replace c_18 : ¬ 18 ≤ v.toInt := (not_congr (i32_gec (b := 18) (by omega))).mp c_18
          refine lv_iconst (v := nI 1) hx hb dX2_isAskedOfDay_21 (by decide) ?_
          refine lv_goto (tgt := 26) hx hb dX2_isAskedOfDay_22 (by decide) ?_
          exact xretRz hx hb hr hlk dX2_isAskedOfDay_26 (true) rfl (by first | (rw [rgB_y (a := 0) (b := 4) (by omega) (by omega)]; rfl) | (rw [rgB_y (a := 10) (b := 17) (by omega) (by omega), Bool.or_true]; rfl) | (rw [dayB_n (by omega)]; rfl))

set_option maxHeartbeats 4000000 in
set_option maxRecDepth 100000 in
theorem c_X2_hasFront (l : Launch) (D : va_G) (cI cS : ClassId) (ad : Nat → Nat) (sh : Nat → Bool) (sla : Nat → Nat) (sle : Nat → Nat) (sf : Nat → Nat → Int32) (n : Nat) (fo : Nat) (ki : Nat → Nat) (st : Nat → Nat) (we : Nat → Nat) (lo : Nat → Nat) (n2 : Nat) (go : Nat) (kj : Nat → Nat) (sj : Nat → Nat) (wj : Nat → Nat) (lj : Nat → Nat) (ti : Nat → Int32) (rc : Nat → Nat) (rv : Nat → Nat) (rd : Nat) (tr : Int32) (fa : Nat) (hn : n ≤ 8) : Met l yX2_hasFront wsX2_hasFront ({ frames := 0, cells := 0, slots := 0, locals := 0 }) (PR D cI cS [.ref (ad 0)] (wX cI cS ad sh sla sle sf n fo ki st we lo n2 go kj sj wj lj ti rc rv rd tr fa)) (vp_Si (fun r => r = bI (decide (0 < n)))) 0 0 (fun _ => False) := by
  refine startR (by decide) rfl (Nat.le_of_ble_eq_true rfl) ?_
  intro p e s m below meth c hx hb hr hts hown hlk hml hG hP ls hl
  have hl : lv_has ls 1 [(0, .ref (ad 0))] := hl
  have f20 := hts (.fieldLink RX2 20 "ChairBallot" "now" "LChairBallot$Row;") (by decide +kernel)
  have f75 := hts (.fieldLink RX2 75 "ChairBallot$Row" "count" "I") (by decide +kernel)
  have yX0 : ∀ w ∈ u_ws RX0 TX0 6, w.before _ s = true := fun w h => hts w ((by decide +kernel : ∀ w ∈ wsX00, w ∈ wsX2_hasFront) w h)
  have yX2 : ∀ w ∈ u_ws RX2 TX2 9, w.before _ s = true := fun w h => hts w ((by decide +kernel : ∀ w ∈ wsX20, w ∈ wsX2_hasFront) w h)
  have hF : CallFix p m c cX2_hasFront 1 s _ wsX2_hasFront RX2 := ⟨hx, hb, hml, hown, hts⟩
  refine lv_aload_n hx hb dX2_hasFront_0 rfl (lv_at hl 0 rfl) ?_
  refine va_get (D := D) (ci := 2) (v := .ref (ad 10)) (C := RX2) (T := TX2) (N := 9) hx hb yX2 (fun _ h => h) hown hG.1 hP 0 rfl rfl 1 (by decide) f20 (fun _ h => h) rfl dX2_hasFront_1 ?_
  refine va_get (D := D) (ci := 0) (v := .int (nI n)) (C := RX0) (T := TX0) (N := 6) hx hb yX0 (fun _ h => h) hown hG.1 hP 10 rfl rfl 4 (by decide) f75 (fun _ h => h) rfl dX2_hasFront_4 ?_
  refine lv_if_le (tgt := 14) hx hb dX2_hasFront_7 (by decide) (fun c_7 => ?_) (fun c_7 => ?_)
  ·
    replace c_7 := (nI_leI (a := n) (b := 0) (by omega) (by omega)).mp c_7
    refine lv_iconst (v := nI 0) hx hb dX2_hasFront_14 (by decide) ?_
    exact xretRz hx hb hr hlk dX2_hasFront_15 (false) rfl (by first | (rw [decide_eq_true (by omega)]; rfl) | (rw [decide_eq_false (by omega)]; rfl))
  ·
    replace c_7 := (not_congr (nI_leI (a := n) (b := 0) (by omega) (by omega))).mp c_7
    refine lv_iconst (v := nI 1) hx hb dX2_hasFront_10 (by decide) ?_
    refine lv_goto (tgt := 15) hx hb dX2_hasFront_11 (by decide) ?_
    exact xretRz hx hb hr hlk dX2_hasFront_15 (true) rfl (by first | (rw [decide_eq_true (by omega)]; rfl) | (rw [decide_eq_false (by omega)]; rfl))

set_option maxHeartbeats 4000000 in
set_option maxRecDepth 100000 in
theorem c_X2_faulted (l : Launch) (D : va_G) (cI cS : ClassId) (ad : Nat → Nat) (sh : Nat → Bool) (sla : Nat → Nat) (sle : Nat → Nat) (sf : Nat → Nat → Int32) (n : Nat) (fo : Nat) (ki : Nat → Nat) (st : Nat → Nat) (we : Nat → Nat) (lo : Nat → Nat) (n2 : Nat) (go : Nat) (kj : Nat → Nat) (sj : Nat → Nat) (wj : Nat → Nat) (lj : Nat → Nat) (ti : Nat → Int32) (rc : Nat → Nat) (rv : Nat → Nat) (rd : Nat) (tr : Int32) (fa : Nat) (f : Nat) (hnd : nd (adX ad)) : Met l yX2_faulted wsX2_faulted ({ frames := 0, cells := 0, slots := 0, locals := 0 }) (PR D cI cS [.ref (ad 0), .int (nI f)] (wX cI cS ad sh sla sle sf n fo ki st we lo n2 go kj sj wj lj ti rc rv rd tr fa)) (va_Qi (fun r (zz : Unit) => r = (-10) - nI f) (fun (zz : Unit) t => va_P D vwCl (wX cI cS ad sh sla sle sf n fo ki st we lo n2 go kj sj wj lj ti rc rv rd tr f) t.heap) (AW (adX ad))) 0 0 (AW (adX ad)) := by
  refine startM (by decide) rfl (Nat.le_of_ble_eq_true rfl) hnd rfl ?_
  intro p e s m below meth c hx hb hr hts hown hlk hml hG hP hD hS ls hl
  have hl : lv_has ls 2 [(0, .ref (ad 0)), (1, .int (nI f))] := hl
  have f44 := hts (.fieldLink RX2 44 "ChairBallot" "latestFault" "I") (by decide +kernel)
  have yX2 : ∀ w ∈ u_ws RX2 TX2 9, w.before _ s = true := fun w h => hts w ((by decide +kernel : ∀ w ∈ wsX20, w ∈ wsX2_faulted) w h)
  have hF : CallFix p m c cX2_faulted 2 s _ wsX2_faulted RX2 := ⟨hx, hb, hml, hown, hts⟩
  refine lv_aload_n hx hb dX2_faulted_0 rfl (lv_at hl 0 rfl) ?_
  refine lv_iload_n hx hb dX2_faulted_1 rfl (lv_at hl 1 rfl) ?_
  refine va_put (D := D) (ci := 2) (v := .int (nI f)) (ty := .int) (C := RX2) (T := TX2) (N := 9) hx hb yX2 (fun _ h => h) tyX2 tyX2_ok nmX2 hown hG.1 hP hD hS 0 rfl rfl 8 (by decide) f44 (fun _ h => h) rfl (by decide +kernel) rfl rfl (Nat.le_of_ble_eq_true rfl) dX2_faulted_2 (fun H locs hP hD hS => ?_)
  have hP : va_P D vwCl (wX cI cS ad sh sla sle sf n fo ki st we lo n2 go kj sj wj lj ti rc rv rd tr f) H := hP
  have hD : va_D (AW (adX ad)) (wX cI cS ad sh sla sle sf n fo ki st we lo n2 go kj sj wj lj ti rc rv rd tr f) := hD
  refine lv_bipush (v := (-10)) hx hb dX2_faulted_5 (by decide) ?_
  refine lv_iload_n hx hb dX2_faulted_7 rfl (lv_at hl 1 rfl) ?_
  refine lv_isub hx hb dX2_faulted_8 ?_
  exact xretM hx hb hr hlk dX2_faulted_9 hS () (by rfl) (fun t ht => by rw [ht]; exact hP)

set_option maxHeartbeats 4000000 in
set_option maxRecDepth 100000 in
theorem c_X2_sheetAt (l : Launch) (D : va_G) (cI cS : ClassId) (ad : Nat → Nat) (sh : Nat → Bool) (sla : Nat → Nat) (sle : Nat → Nat) (sf : Nat → Nat → Int32) (n : Nat) (fo : Nat) (ki : Nat → Nat) (st : Nat → Nat) (we : Nat → Nat) (lo : Nat → Nat) (n2 : Nat) (go : Nat) (kj : Nat → Nat) (sj : Nat → Nat) (wj : Nat → Nat) (lj : Nat → Nat) (ti : Nat → Int32) (rc : Nat → Nat) (rv : Nat → Nat) (rd : Nat) (tr : Int32) (fa : Nat) (j : Nat) (hj : j < 4) : Met l yX2_sheetAt wsX2_sheetAt ({ frames := 0, cells := 0, slots := 0, locals := 0 }) (PR D cI cS [.ref (ad 0), .int (nI j)] (wX cI cS ad sh sla sle sf n fo ki st we lo n2 go kj sj wj lj ti rc rv rd tr fa)) (QA (.ref (ad (2 + 2 * j)))) 0 0 (fun _ => False) := by
  refine startR (by decide) rfl (Nat.le_of_ble_eq_true rfl) ?_
  intro p e s m below meth c hx hb hr hts hown hlk hml hG hP ls hl
  have hl : lv_has ls 2 [(0, .ref (ad 0)), (1, .int (nI j))] := hl
  have f13 := hts (.fieldLink RX2 13 "ChairBallot" "sheets" "[LChairBallot$Sheet;") (by decide +kernel)
  have yX2 : ∀ w ∈ u_ws RX2 TX2 9, w.before _ s = true := fun w h => hts w ((by decide +kernel : ∀ w ∈ wsX20, w ∈ wsX2_sheetAt) w h)
  have hF : CallFix p m c cX2_sheetAt 2 s _ wsX2_sheetAt RX2 := ⟨hx, hb, hml, hown, hts⟩
  refine lv_iload_n hx hb dX2_sheetAt_0 rfl (lv_at hl 1 rfl) ?_
  refine lv_if_lt (tgt := 22) hx hb dX2_sheetAt_1 (by decide) (fun c_1 => ?_) (fun c_1 => ?_)
  ·
    replace c_1 := (nI_ltI (a := j) (b := 0) (by omega) (by omega)).mp c_1
    omega
  ·
    replace c_1 := (not_congr (nI_ltI (a := j) (b := 0) (by omega) (by omega))).mp c_1
    refine lv_iload_n hx hb dX2_sheetAt_4 rfl (lv_at hl 1 rfl) ?_
    refine lv_aload_n hx hb dX2_sheetAt_5 rfl (lv_at hl 0 rfl) ?_
    refine va_get (D := D) (ci := 2) (v := .ref (ad 1)) (C := RX2) (T := TX2) (N := 9) hx hb yX2 (fun _ h => h) hown hG.1 hP 0 rfl rfl 0 (by decide) f13 (fun _ h => h) rfl dX2_sheetAt_6 ?_
    refine va_alen (v := nI 4) hx hb hG.1 hP 1 1 rfl rfl rfl dX2_sheetAt_9 ?_
    refine lv_icmp_ge (tgt := 22) hx hb dX2_sheetAt_10 (by decide) (fun c_10 => ?_) (fun c_10 => ?_)
    ·
      replace c_10 := (nI_leI (a := 4) (b := j) (by omega) (by omega)).mp c_10
      omega
    ·
      replace c_10 := (not_congr (nI_leI (a := 4) (b := j) (by omega) (by omega))).mp c_10
      refine lv_aload_n hx hb dX2_sheetAt_13 rfl (lv_at hl 0 rfl) ?_
      refine va_get (D := D) (ci := 2) (v := .ref (ad 1)) (C := RX2) (T := TX2) (N := 9) hx hb yX2 (fun _ h => h) hown hG.1 hP 0 rfl rfl 0 (by decide) f13 (fun _ h => h) rfl dX2_sheetAt_14 ?_
      refine lv_iload_n hx hb dX2_sheetAt_17 rfl (lv_at hl 1 rfl) ?_
      refine xaldq hx hb hG hP 1 rfl (j) rfl (by omega) (by decide) dX2_sheetAt_18 ?_
      refine xtopv (x' := .ref (ad (2 + 2 * j))) (by rfl) ?_
      refine lv_goto (tgt := 23) hx hb dX2_sheetAt_19 (by decide) ?_
      exact xretRa hx hb hr ⟨_, rfl⟩ hlk dX2_sheetAt_23 (Or.inr ⟨_, rfl⟩)

set_option maxHeartbeats 4000000 in
set_option maxRecDepth 100000 in
theorem c_X2_sheetAtN (l : Launch) (D : va_G) (cI cS : ClassId) (ad : Nat → Nat) (sh : Nat → Bool) (sla : Nat → Nat) (sle : Nat → Nat) (sf : Nat → Nat → Int32) (n : Nat) (fo : Nat) (ki : Nat → Nat) (st : Nat → Nat) (we : Nat → Nat) (lo : Nat → Nat) (n2 : Nat) (go : Nat) (kj : Nat → Nat) (sj : Nat → Nat) (wj : Nat → Nat) (lj : Nat → Nat) (ti : Nat → Int32) (rc : Nat → Nat) (rv : Nat → Nat) (rd : Nat) (tr : Int32) (fa : Nat) (k : Int32) (hk : rgB 0 3 k = false) : Met l yX2_sheetAt wsX2_sheetAt ({ frames := 0, cells := 0, slots := 0, locals := 0 }) (PR D cI cS [.ref (ad 0), .int k] (wX cI cS ad sh sla sle sf n fo ki st we lo n2 go kj sj wj lj ti rc rv rd tr fa)) (QA (.null)) 0 0 (fun _ => False) := by
  refine startR (by decide) rfl (Nat.le_of_ble_eq_true rfl) ?_
  intro p e s m below meth c hx hb hr hts hown hlk hml hG hP ls hl
  have hl : lv_has ls 2 [(0, .ref (ad 0)), (1, .int k)] := hl
  have f13 := hts (.fieldLink RX2 13 "ChairBallot" "sheets" "[LChairBallot$Sheet;") (by decide +kernel)
  have yX2 : ∀ w ∈ u_ws RX2 TX2 9, w.before _ s = true := fun w h => hts w ((by decide +kernel : ∀ w ∈ wsX20, w ∈ wsX2_sheetAt) w h)
  have hF : CallFix p m c cX2_sheetAt 2 s _ wsX2_sheetAt RX2 := ⟨hx, hb, hml, hown, hts⟩
  have hk2 := of_decide_eq_false hk
  refine lv_iload_n hx hb dX2_sheetAt_0 rfl (lv_at hl 1 rfl) ?_
  refine lv_if_lt (tgt := 22) hx hb dX2_sheetAt_1 (by decide) (fun c_1 => ?_) (fun c_1 => ?_)
  ·
    replace c_1 : k.toInt < 0 := (i32_ltc (b := 0) (by omega)).mp c_1
    refine lv_null hx hb dX2_sheetAt_22 ?_
    exact xretRa hx hb hr ⟨_, rfl⟩ hlk dX2_sheetAt_23 (Or.inl rfl)
  ·
    replace c_1 : ¬ k.toInt < 0 := (not_congr (i32_ltc (b := 0) (by omega))).mp c_1
    refine lv_iload_n hx hb dX2_sheetAt_4 rfl (lv_at hl 1 rfl) ?_
    refine lv_aload_n hx hb dX2_sheetAt_5 rfl (lv_at hl 0 rfl) ?_
    refine va_get (D := D) (ci := 2) (v := .ref (ad 1)) (C := RX2) (T := TX2) (N := 9) hx hb yX2 (fun _ h => h) hown hG.1 hP 0 rfl rfl 0 (by decide) f13 (fun _ h => h) rfl dX2_sheetAt_6 ?_
    refine va_alen (v := nI 4) hx hb hG.1 hP 1 1 rfl rfl rfl dX2_sheetAt_9 ?_
    refine lv_icmp_ge (tgt := 22) hx hb dX2_sheetAt_10 (by decide) (fun c_10 => ?_) (fun c_10 => ?_)
    ·
      replace c_10 : 4 ≤ k.toInt := (i32_gec (b := 4) (by omega)).mp c_10
      refine lv_null hx hb dX2_sheetAt_22 ?_
      exact xretRa hx hb hr ⟨_, rfl⟩ hlk dX2_sheetAt_23 (Or.inl rfl)
    ·
      replace c_10 : ¬ 4 ≤ k.toInt := (not_congr (i32_gec (b := 4) (by omega))).mp c_10
      omega

set_option maxHeartbeats 4000000 in
set_option maxRecDepth 100000 in
theorem c_X2_ofChair (l : Launch) (D : va_G) (cI cS : ClassId) (ad : Nat → Nat) (sh : Nat → Bool) (sla : Nat → Nat) (sle : Nat → Nat) (sf : Nat → Nat → Int32) (n : Nat) (fo : Nat) (ki : Nat → Nat) (st : Nat → Nat) (we : Nat → Nat) (lo : Nat → Nat) (n2 : Nat) (go : Nat) (kj : Nat → Nat) (sj : Nat → Nat) (wj : Nat → Nat) (lj : Nat → Nat) (ti : Nat → Int32) (rc : Nat → Nat) (rv : Nat → Nat) (rd : Nat) (tr : Int32) (fa : Nat) (k : Int32) (what : Int32) (hn : n ≤ 8) (hfo : fo < 256) (hki : ∀ j, ki j ≤ 2) (hwe : ∀ j, we j ≤ 9) (hst : ∀ j, st j ≤ 3) (hlo : ∀ j, lo j ≤ 3) : Met l yX2_ofChair wsX2_ofChair ({ frames := 3, cells := 0, slots := 0, locals := 63 }) (PR D cI cS [.ref (ad 0), .int k, .int what] (wX cI cS ad sh sla sle sf n fo ki st we lo n2 go kj sj wj lj ti rc rv rd tr fa)) (vp_Si (fun r => r = A_ofChair n fo ki st we lo k what)) 0 0 (fun _ => False) := by
  refine startR (by decide) rfl (Nat.le_of_ble_eq_true rfl) ?_
  intro p e s m below meth c hx hb hr hts hown hlk hml hG hP ls hl
  have hl : lv_has ls 3 [(0, .ref (ad 0)), (1, .int k), (2, .int what)] := hl
  have f20 := hts (.fieldLink RX2 20 "ChairBallot" "now" "LChairBallot$Row;") (by decide +kernel)
  have f81 := hts (.fieldLink RX2 81 "ChairBallot$Row" "kind" "[I") (by decide +kernel)
  have f84 := hts (.fieldLink RX2 84 "ChairBallot$Row" "stripe" "[I") (by decide +kernel)
  have f87 := hts (.fieldLink RX2 87 "ChairBallot$Row" "weight" "[I") (by decide +kernel)
  have f90 := hts (.fieldLink RX2 90 "ChairBallot$Row" "looks" "[I") (by decide +kernel)
  have yX0 : ∀ w ∈ u_ws RX0 TX0 6, w.before _ s = true := fun w h => hts w ((by decide +kernel : ∀ w ∈ wsX00, w ∈ wsX2_ofChair) w h)
  have yX2 : ∀ w ∈ u_ws RX2 TX2 9, w.before _ s = true := fun w h => hts w ((by decide +kernel : ∀ w ∈ wsX20, w ∈ wsX2_ofChair) w h)
  have hF : CallFix p m c cX2_ofChair 3 s _ wsX2_ofChair RX2 := ⟨hx, hb, hml, hown, hts⟩
  refine lv_aload_n hx hb dX2_ofChair_0 rfl (lv_at hl 0 rfl) ?_
  refine va_get (D := D) (ci := 2) (v := .ref (ad 10)) (C := RX2) (T := TX2) (N := 9) hx hb yX2 (fun _ h => h) hown hG.1 hP 0 rfl rfl 1 (by decide) f20 (fun _ h => h) rfl dX2_ofChair_1 ?_
  refine lv_iload_n hx hb dX2_ofChair_4 rfl (lv_at hl 1 rfl) ?_
  refine xrd (va_runV (As := [.int k]) (rest := []) hF (c_X0_has l D cI cS (ad 10) (ad 11) (ad 12) (ad 13) (ad 14) n fo ki st we lo k (by first | assumption | omega)) (cwV 1 hts gX2_ofChair_X0_has rfl rfl rfl hV_X0_has ⟨Nat.le_of_ble_eq_true rfl, Nat.le_of_ble_eq_true rfl⟩) (PR.preV hG (hP.sub (ws' := (wRow cI (ad 10) (ad 11) (ad 12) (ad 13) (ad 14) n fo ki st we lo)) [10, 11, 12, 13, 14] rfl) (ci := 0) rfl rfl) rfl rfl hl.1 rfl (lv_room (Nat.le_of_ble_eq_true rfl)) dX2_ofChair_5 ⟨Nat.le_refl _, Nat.le_refl _⟩) ?_
  refine lv_if_ne (tgt := 13) hx hb dX2_ofChair_8 (by decide) (fun c_8 => ?_) (fun c_8 => ?_)
  ·
    replace c_8 := bI_n0.mp c_8
    obtain ⟨j, hj, rfl⟩ := hasB_t c_8
    have hclj := cl8 (j := j) (by omega)
    refine lv_iload_n hx hb dX2_ofChair_13 rfl (lv_at hl 2 rfl) ?_
    by_cases c_14_0 : what = nI 0
    ·
      refine lv_tableIn (off := 42) (tgt := 56) hx hb dX2_ofChair_14 (by rw [c_14_0]; decide) (by rw [c_14_0]; decide) (by rw [c_14_0]; decide) (by decide) ?_
      refine lv_aload_n hx hb dX2_ofChair_56 rfl (lv_at hl 0 rfl) ?_
      refine va_get (D := D) (ci := 2) (v := .ref (ad 10)) (C := RX2) (T := TX2) (N := 9) hx hb yX2 (fun _ h => h) hown hG.1 hP 0 rfl rfl 1 (by decide) f20 (fun _ h => h) rfl dX2_ofChair_57 ?_
      refine va_get (D := D) (ci := 0) (v := .ref (ad 11)) (C := RX0) (T := TX0) (N := 6) hx hb yX0 (fun _ h => h) hown hG.1 hP 10 rfl rfl 0 (by decide) f81 (fun _ h => h) rfl dX2_ofChair_60 ?_
      refine lv_iload_n hx hb dX2_ofChair_63 rfl (lv_at hl 1 rfl) ?_
      refine xaldN hx hb hG hP 11 rfl (j) rfl (by omega) (by decide) dX2_ofChair_64 ?_
      exact xretR hx hb hr hlk dX2_ofChair_65 (by simp [A_ofChair, nIeq, bI_true, bI_false, c_8, hclj, c_14_0])
    by_cases c_14_1 : what = nI 1
    ·
      refine lv_tableIn (off := 52) (tgt := 66) hx hb dX2_ofChair_14 (by rw [c_14_1]; decide) (by rw [c_14_1]; decide) (by rw [c_14_1]; decide) (by decide) ?_
      refine lv_aload_n hx hb dX2_ofChair_66 rfl (lv_at hl 0 rfl) ?_
      refine va_get (D := D) (ci := 2) (v := .ref (ad 10)) (C := RX2) (T := TX2) (N := 9) hx hb yX2 (fun _ h => h) hown hG.1 hP 0 rfl rfl 1 (by decide) f20 (fun _ h => h) rfl dX2_ofChair_67 ?_
      refine va_get (D := D) (ci := 0) (v := .ref (ad 12)) (C := RX0) (T := TX0) (N := 6) hx hb yX0 (fun _ h => h) hown hG.1 hP 10 rfl rfl 1 (by decide) f84 (fun _ h => h) rfl dX2_ofChair_70 ?_
      refine lv_iload_n hx hb dX2_ofChair_73 rfl (lv_at hl 1 rfl) ?_
      refine xaldN hx hb hG hP 12 rfl (j) rfl (by omega) (by decide) dX2_ofChair_74 ?_
      exact xretR hx hb hr hlk dX2_ofChair_75 (by simp [A_ofChair, nIeq, bI_true, bI_false, c_8, hclj, c_14_1])
    by_cases c_14_2 : what = nI 2
    ·
      refine lv_tableIn (off := 62) (tgt := 76) hx hb dX2_ofChair_14 (by rw [c_14_2]; decide) (by rw [c_14_2]; decide) (by rw [c_14_2]; decide) (by decide) ?_
      refine lv_aload_n hx hb dX2_ofChair_76 rfl (lv_at hl 0 rfl) ?_
      refine va_get (D := D) (ci := 2) (v := .ref (ad 10)) (C := RX2) (T := TX2) (N := 9) hx hb yX2 (fun _ h => h) hown hG.1 hP 0 rfl rfl 1 (by decide) f20 (fun _ h => h) rfl dX2_ofChair_77 ?_
      refine va_get (D := D) (ci := 0) (v := .ref (ad 13)) (C := RX0) (T := TX0) (N := 6) hx hb yX0 (fun _ h => h) hown hG.1 hP 10 rfl rfl 2 (by decide) f87 (fun _ h => h) rfl dX2_ofChair_80 ?_
      refine lv_iload_n hx hb dX2_ofChair_83 rfl (lv_at hl 1 rfl) ?_
      refine xaldN hx hb hG hP 13 rfl (j) rfl (by omega) (by decide) dX2_ofChair_84 ?_
      exact xretR hx hb hr hlk dX2_ofChair_85 (by simp [A_ofChair, nIeq, bI_true, bI_false, c_8, hclj, c_14_2])
    by_cases c_14_3 : what = nI 3
    ·
      refine lv_tableIn (off := 72) (tgt := 86) hx hb dX2_ofChair_14 (by rw [c_14_3]; decide) (by rw [c_14_3]; decide) (by rw [c_14_3]; decide) (by decide) ?_
      refine lv_aload_n hx hb dX2_ofChair_86 rfl (lv_at hl 0 rfl) ?_
      refine va_get (D := D) (ci := 2) (v := .ref (ad 10)) (C := RX2) (T := TX2) (N := 9) hx hb yX2 (fun _ h => h) hown hG.1 hP 0 rfl rfl 1 (by decide) f20 (fun _ h => h) rfl dX2_ofChair_87 ?_
      refine va_get (D := D) (ci := 0) (v := .ref (ad 14)) (C := RX0) (T := TX0) (N := 6) hx hb yX0 (fun _ h => h) hown hG.1 hP 10 rfl rfl 3 (by decide) f90 (fun _ h => h) rfl dX2_ofChair_90 ?_
      refine lv_iload_n hx hb dX2_ofChair_93 rfl (lv_at hl 1 rfl) ?_
      refine xaldN hx hb hG hP 14 rfl (j) rfl (by omega) (by decide) dX2_ofChair_94 ?_
      exact xretR hx hb hr hlk dX2_ofChair_95 (by simp [A_ofChair, nIeq, bI_true, bI_false, c_8, hclj, c_14_3])
    by_cases c_14_4 : what = nI 4
    ·
      refine lv_tableIn (off := 82) (tgt := 96) hx hb dX2_ofChair_14 (by rw [c_14_4]; decide) (by rw [c_14_4]; decide) (by rw [c_14_4]; decide) (by decide) ?_
      refine lv_aload_n hx hb dX2_ofChair_96 rfl (lv_at hl 0 rfl) ?_
      refine va_get (D := D) (ci := 2) (v := .ref (ad 10)) (C := RX2) (T := TX2) (N := 9) hx hb yX2 (fun _ h => h) hown hG.1 hP 0 rfl rfl 1 (by decide) f20 (fun _ h => h) rfl dX2_ofChair_97 ?_
      refine lv_iload_n hx hb dX2_ofChair_100 rfl (lv_at hl 1 rfl) ?_
      refine xrd (va_runV (As := [.int (nI j)]) (rest := []) hF (c_X0_isFolded l D cI cS (ad 10) (ad 11) (ad 12) (ad 13) (ad 14) n fo ki st we lo j (by first | assumption | omega) (by first | assumption | omega)) (cwV 1 hts gX2_ofChair_X0_isFolded rfl rfl rfl hV_X0_isFolded ⟨Nat.le_of_ble_eq_true rfl, Nat.le_of_ble_eq_true rfl⟩) (PR.preV hG (hP.sub (ws' := (wRow cI (ad 10) (ad 11) (ad 12) (ad 13) (ad 14) n fo ki st we lo)) [10, 11, 12, 13, 14] rfl) (ci := 0) rfl rfl) rfl rfl hl.1 rfl (lv_room (Nat.le_of_ble_eq_true rfl)) dX2_ofChair_101 ⟨Nat.le_refl _, Nat.le_refl _⟩) ?_
      refine lv_if_eq (tgt := 111) hx hb dX2_ofChair_104 (by decide) (fun c_104 => ?_) (fun c_104 => ?_)
      ·
        replace c_104 := bI_0.mp c_104
        refine lv_iconst (v := nI 0) hx hb dX2_ofChair_111 (by decide) ?_
        exact xretR hx hb hr hlk dX2_ofChair_112 (by simp [A_ofChair, nIeq, bI_true, bI_false, c_8, hclj, c_14_4, c_104])
      ·
        replace c_104 := bI_n0.mp c_104
        refine lv_iconst (v := nI 1) hx hb dX2_ofChair_107 (by decide) ?_
        refine lv_goto (tgt := 112) hx hb dX2_ofChair_108 (by decide) ?_
        exact xretR hx hb hr hlk dX2_ofChair_112 (by simp [A_ofChair, nIeq, bI_true, bI_false, c_8, hclj, c_14_4, c_104])
    by_cases c_14_5 : what = nI 5
    ·
      refine lv_tableIn (off := 99) (tgt := 113) hx hb dX2_ofChair_14 (by rw [c_14_5]; decide) (by rw [c_14_5]; decide) (by rw [c_14_5]; decide) (by decide) ?_
      refine lv_aload_n hx hb dX2_ofChair_113 rfl (lv_at hl 0 rfl) ?_
      refine va_get (D := D) (ci := 2) (v := .ref (ad 10)) (C := RX2) (T := TX2) (N := 9) hx hb yX2 (fun _ h => h) hown hG.1 hP 0 rfl rfl 1 (by decide) f20 (fun _ h => h) rfl dX2_ofChair_114 ?_
      refine lv_iload_n hx hb dX2_ofChair_117 rfl (lv_at hl 1 rfl) ?_
      refine xrd (va_runV (As := [.int (nI j)]) (rest := []) hF (c_X0_votes l D cI cS (ad 10) (ad 11) (ad 12) (ad 13) (ad 14) n fo ki st we lo j (by first | assumption | omega) (by first | assumption | omega) (by first | assumption | omega) (by first | assumption | omega) (by first | assumption | omega)) (cwV 1 hts gX2_ofChair_X0_votes rfl rfl rfl hV_X0_votes ⟨Nat.le_of_ble_eq_true rfl, Nat.le_of_ble_eq_true rfl⟩) (PR.preV hG (hP.sub (ws' := (wRow cI (ad 10) (ad 11) (ad 12) (ad 13) (ad 14) n fo ki st we lo)) [10, 11, 12, 13, 14] rfl) (ci := 0) rfl rfl) rfl rfl hl.1 rfl (lv_room (Nat.le_of_ble_eq_true rfl)) dX2_ofChair_118 ⟨Nat.le_refl _, Nat.le_refl _⟩) ?_
      exact xretR hx hb hr hlk dX2_ofChair_121 (by simp [A_ofChair, nIeq, bI_true, bI_false, c_8, hclj, c_14_5])
    by_cases c_14_6 : what = nI 6
    ·
      refine lv_tableIn (off := 108) (tgt := 122) hx hb dX2_ofChair_14 (by rw [c_14_6]; decide) (by rw [c_14_6]; decide) (by rw [c_14_6]; decide) (by decide) ?_
      refine lv_aload_n hx hb dX2_ofChair_122 rfl (lv_at hl 0 rfl) ?_
      refine va_get (D := D) (ci := 2) (v := .ref (ad 10)) (C := RX2) (T := TX2) (N := 9) hx hb yX2 (fun _ h => h) hown hG.1 hP 0 rfl rfl 1 (by decide) f20 (fun _ h => h) rfl dX2_ofChair_123 ?_
      refine lv_iload_n hx hb dX2_ofChair_126 rfl (lv_at hl 1 rfl) ?_
      refine xrd (va_runV (As := [.int (nI j)]) (rest := []) hF (c_X0_side l D cI cS (ad 10) (ad 11) (ad 12) (ad 13) (ad 14) n fo ki st we lo j (by first | assumption | omega) (by first | assumption | omega) (by first | assumption | omega) (by first | assumption | omega) (by first | assumption | omega)) (cwV 1 hts gX2_ofChair_X0_side rfl rfl rfl hV_X0_side ⟨Nat.le_of_ble_eq_true rfl, Nat.le_of_ble_eq_true rfl⟩) (PR.preV hG (hP.sub (ws' := (wRow cI (ad 10) (ad 11) (ad 12) (ad 13) (ad 14) n fo ki st we lo)) [10, 11, 12, 13, 14] rfl) (ci := 0) rfl rfl) rfl rfl hl.1 rfl (lv_room (Nat.le_of_ble_eq_true rfl)) dX2_ofChair_127 ⟨Nat.le_refl _, Nat.le_refl _⟩) ?_
      exact xretR hx hb hr hlk dX2_ofChair_130 (by simp [A_ofChair, nIeq, bI_true, bI_false, c_8, hclj, c_14_6])
    refine lv_tableOut (tgt := 131) hx hb dX2_ofChair_14 (by exact xtabN (N := 7) (by decide) (fun j hj => by match j, hj with | 0, _ => exact c_14_0 | 1, _ => exact c_14_1 | 2, _ => exact c_14_2 | 3, _ => exact c_14_3 | 4, _ => exact c_14_4 | 5, _ => exact c_14_5 | 6, _ => exact c_14_6)) (by decide) ?_
    refine lv_bipush (v := (-2)) hx hb dX2_ofChair_131 (by decide) ?_
    exact xretR hx hb hr hlk dX2_ofChair_133 (by simp [A_ofChair, nIeq, bI_true, bI_false, c_8, hclj, c_14_0, c_14_1, c_14_2, c_14_3, c_14_4, c_14_5, c_14_6])
  ·
    replace c_8 := bI_0.mp c_8
    refine lv_iconst (v := (-1)) hx hb dX2_ofChair_11 (by decide) ?_
    exact xretR hx hb hr hlk dX2_ofChair_12 (by simp [A_ofChair, nIeq, bI_true, bI_false, c_8])

set_option maxHeartbeats 4000000 in
set_option maxRecDepth 100000 in
theorem c_X2_paint (l : Launch) (D : va_G) (cI cS : ClassId) (ad : Nat → Nat) (sh : Nat → Bool) (sla : Nat → Nat) (sle : Nat → Nat) (sf : Nat → Nat → Int32) (n : Nat) (fo : Nat) (ki : Nat → Nat) (st : Nat → Nat) (we : Nat → Nat) (lo : Nat → Nat) (n2 : Nat) (go : Nat) (kj : Nat → Nat) (sj : Nat → Nat) (wj : Nat → Nat) (lj : Nat → Nat) (ti : Nat → Int32) (rc : Nat → Nat) (rv : Nat → Nat) (rd : Nat) (tr : Int32) (fa : Nat) (k : Int32) (v : Int32) (hnd : nd (adX ad)) (hn : n ≤ 8) (hst : ∀ j, st j ≤ 3) : Met l yX2_paint wsX2_paint ({ frames := 1, cells := 0, slots := 0, locals := 21 }) (PR D cI cS [.ref (ad 0), .int k, .int v] (wX cI cS ad sh sla sle sf n fo ki st we lo n2 go kj sj wj lj ti rc rv rd tr fa)) (va_Qi (fun r (zz : Unit) => r = A_paint n st k v) (fun (zz : Unit) t => va_P D vwCl (wX cI cS ad sh sla sle sf n fo ki (S_paint n st k v) we lo n2 go kj sj wj lj ti rc rv rd tr fa) t.heap) (AW (adX ad))) 0 0 (AW (adX ad)) := by
  refine startM (by decide) rfl (Nat.le_of_ble_eq_true rfl) hnd rfl ?_
  intro p e s m below meth c hx hb hr hts hown hlk hml hG hP hD hS ls hl
  have hl : lv_has ls 4 [(0, .ref (ad 0)), (1, .int k), (2, .int v)] := hl
  have f20 := hts (.fieldLink RX2 20 "ChairBallot" "now" "LChairBallot$Row;") (by decide +kernel)
  have f84 := hts (.fieldLink RX2 84 "ChairBallot$Row" "stripe" "[I") (by decide +kernel)
  have yX0 : ∀ w ∈ u_ws RX0 TX0 6, w.before _ s = true := fun w h => hts w ((by decide +kernel : ∀ w ∈ wsX00, w ∈ wsX2_paint) w h)
  have yX2 : ∀ w ∈ u_ws RX2 TX2 9, w.before _ s = true := fun w h => hts w ((by decide +kernel : ∀ w ∈ wsX20, w ∈ wsX2_paint) w h)
  have hF : CallFix p m c cX2_paint 4 s _ wsX2_paint RX2 := ⟨hx, hb, hml, hown, hts⟩
  refine lv_aload_n hx hb dX2_paint_0 rfl (lv_at hl 0 rfl) ?_
  refine va_get (D := D) (ci := 2) (v := .ref (ad 10)) (C := RX2) (T := TX2) (N := 9) hx hb yX2 (fun _ h => h) hown hG.1 hP 0 rfl rfl 1 (by decide) f20 (fun _ h => h) rfl dX2_paint_1 ?_
  refine lv_iload_n hx hb dX2_paint_4 rfl (lv_at hl 1 rfl) ?_
  refine xrd (va_runV (As := [.int k]) (rest := []) hF (c_X0_has l D cI cS (ad 10) (ad 11) (ad 12) (ad 13) (ad 14) n fo ki st we lo k (by first | assumption | omega)) (cwV 1 hts gX2_paint_X0_has rfl rfl rfl hV_X0_has ⟨Nat.le_of_ble_eq_true rfl, Nat.le_of_ble_eq_true rfl⟩) (PR.preV hG (hP.sub (ws' := (wRow cI (ad 10) (ad 11) (ad 12) (ad 13) (ad 14) n fo ki st we lo)) [10, 11, 12, 13, 14] rfl) (ci := 0) rfl rfl) rfl rfl hl.1 rfl (lv_room (Nat.le_of_ble_eq_true rfl)) dX2_paint_5 ⟨Nat.le_refl _, Nat.le_refl _⟩) ?_
  refine lv_if_ne (tgt := 13) hx hb dX2_paint_8 (by decide) (fun c_8 => ?_) (fun c_8 => ?_)
  ·
    replace c_8 := bI_n0.mp c_8
    obtain ⟨j, hj, rfl⟩ := hasB_t c_8
    have hclj := cl8 (j := j) (by omega)
    refine lv_iload_n hx hb dX2_paint_13 rfl (lv_at hl 2 rfl) ?_
    refine xrd (va_runS (As := [.int v]) (rest := []) hF (c_X2_isStripe l D cI cS v ) (va_cwS 1 hts gX2_paint_X2_isStripe rfl rfl rfl hD_X2_isStripe ⟨Nat.le_of_ble_eq_true rfl, Nat.le_of_ble_eq_true rfl⟩) (PR.pre hG (hP.sub (ws' := []) [] rfl)) rfl rfl hl.1 rfl (lv_room (Nat.le_of_ble_eq_true rfl)) dX2_paint_14 ⟨Nat.le_refl _, Nat.le_refl _⟩) ?_
    refine lv_if_ne (tgt := 23) hx hb dX2_paint_17 (by decide) (fun c_17 => ?_) (fun c_17 => ?_)
    ·
      replace c_17 := bI_n0.mp c_17
      obtain ⟨w, hw0, hw1, rfl⟩ := rgB_nat (by decide) c_17
      have hclw := cl8 (j := w) (by omega)
      refine lv_aload_n hx hb dX2_paint_23 rfl (lv_at hl 0 rfl) ?_
      refine va_get (D := D) (ci := 2) (v := .ref (ad 10)) (C := RX2) (T := TX2) (N := 9) hx hb yX2 (fun _ h => h) hown hG.1 hP 0 rfl rfl 1 (by decide) f20 (fun _ h => h) rfl dX2_paint_24 ?_
      refine va_get (D := D) (ci := 0) (v := .ref (ad 12)) (C := RX0) (T := TX0) (N := 6) hx hb yX0 (fun _ h => h) hown hG.1 hP 10 rfl rfl 1 (by decide) f84 (fun _ h => h) rfl dX2_paint_27 ?_
      refine lv_iload_n hx hb dX2_paint_30 rfl (lv_at hl 1 rfl) ?_
      refine xaldN hx hb hG hP 12 rfl (j) rfl (by omega) (by decide) dX2_paint_31 ?_
      refine lv_istore_n (lv' := [(3, .int (nI (st j))), (0, .ref (ad 0)), (1, .int (nI j)), (2, .int (nI w))]) hx hb dX2_paint_32 rfl hl (by decide) rfl (fun ls hl => ?_)
      refine lv_aload_n hx hb dX2_paint_33 rfl (lv_at hl 1 rfl) ?_
      refine va_get (D := D) (ci := 2) (v := .ref (ad 10)) (C := RX2) (T := TX2) (N := 9) hx hb yX2 (fun _ h => h) hown hG.1 hP 0 rfl rfl 1 (by decide) f20 (fun _ h => h) rfl dX2_paint_34 ?_
      refine va_get (D := D) (ci := 0) (v := .ref (ad 12)) (C := RX0) (T := TX0) (N := 6) hx hb yX0 (fun _ h => h) hown hG.1 hP 10 rfl rfl 1 (by decide) f84 (fun _ h => h) rfl dX2_paint_37 ?_
      refine lv_iload_n hx hb dX2_paint_40 rfl (lv_at hl 2 rfl) ?_
      refine lv_iload_n hx hb dX2_paint_41 rfl (lv_at hl 3 rfl) ?_
      refine xastN hx hb hG hP hD hS 12 rfl (j) (w) rfl rfl (by omega) (by decide) dX2_paint_42 (fun H locs hP hD hS => ?_)
      have hP : va_P D vwCl (wX cI cS ad sh sla sle sf n fo ki (updN st j w) we lo n2 go kj sj wj lj ti rc rv rd tr fa) H := hP
      have hD : va_D (AW (adX ad)) (wX cI cS ad sh sla sle sf n fo ki (updN st j w) we lo n2 go kj sj wj lj ti rc rv rd tr fa) := hD
      refine lv_iload_n hx hb dX2_paint_43 rfl (lv_at hl 0 rfl) ?_
      exact xretM hx hb hr hlk dX2_paint_44 hS () (by simp [A_paint, c_8, hclj, c_17, hclw]) (fun t ht => by rw [ht]; rw [show S_paint n st (nI j) (nI w) = (updN st j w) from by simp [S_paint, c_8, hclj, c_17, hclw]]; exact hP)
    ·
      replace c_17 := bI_0.mp c_17
      refine lv_bipush (v := (-2)) hx hb dX2_paint_20 (by decide) ?_
      exact xretM hx hb hr hlk dX2_paint_22 hS () (by simp [A_paint, c_8, hclj, c_17]) (fun t ht => by rw [ht]; rw [show S_paint n st (nI j) v = st from by simp [S_paint, c_8, hclj, c_17]]; exact hP)
  ·
    replace c_8 := bI_0.mp c_8
    refine lv_iconst (v := (-1)) hx hb dX2_paint_11 (by decide) ?_
    exact xretM hx hb hr hlk dX2_paint_12 hS () (by simp [A_paint, c_8]) (fun t ht => by rw [ht]; rw [show S_paint n st k v = st from by simp [S_paint, c_8]]; exact hP)

set_option maxHeartbeats 4000000 in
set_option maxRecDepth 100000 in
theorem c_X2_load (l : Launch) (D : va_G) (cI cS : ClassId) (ad : Nat → Nat) (sh : Nat → Bool) (sla : Nat → Nat) (sle : Nat → Nat) (sf : Nat → Nat → Int32) (n : Nat) (fo : Nat) (ki : Nat → Nat) (st : Nat → Nat) (we : Nat → Nat) (lo : Nat → Nat) (n2 : Nat) (go : Nat) (kj : Nat → Nat) (sj : Nat → Nat) (wj : Nat → Nat) (lj : Nat → Nat) (ti : Nat → Int32) (rc : Nat → Nat) (rv : Nat → Nat) (rd : Nat) (tr : Int32) (fa : Nat) (k : Int32) (v : Int32) (hnd : nd (adX ad)) (hn : n ≤ 8) (hwe : ∀ j, we j ≤ 9) : Met l yX2_load wsX2_load ({ frames := 1, cells := 0, slots := 0, locals := 21 }) (PR D cI cS [.ref (ad 0), .int k, .int v] (wX cI cS ad sh sla sle sf n fo ki st we lo n2 go kj sj wj lj ti rc rv rd tr fa)) (va_Qi (fun r (zz : Unit) => r = A_load n we k v) (fun (zz : Unit) t => va_P D vwCl (wX cI cS ad sh sla sle sf n fo ki st (S_load n we k v) lo n2 go kj sj wj lj ti rc rv rd tr fa) t.heap) (AW (adX ad))) 0 0 (AW (adX ad)) := by
  refine startM (by decide) rfl (Nat.le_of_ble_eq_true rfl) hnd rfl ?_
  intro p e s m below meth c hx hb hr hts hown hlk hml hG hP hD hS ls hl
  have hl : lv_has ls 4 [(0, .ref (ad 0)), (1, .int k), (2, .int v)] := hl
  have f20 := hts (.fieldLink RX2 20 "ChairBallot" "now" "LChairBallot$Row;") (by decide +kernel)
  have f87 := hts (.fieldLink RX2 87 "ChairBallot$Row" "weight" "[I") (by decide +kernel)
  have yX0 : ∀ w ∈ u_ws RX0 TX0 6, w.before _ s = true := fun w h => hts w ((by decide +kernel : ∀ w ∈ wsX00, w ∈ wsX2_load) w h)
  have yX2 : ∀ w ∈ u_ws RX2 TX2 9, w.before _ s = true := fun w h => hts w ((by decide +kernel : ∀ w ∈ wsX20, w ∈ wsX2_load) w h)
  have hF : CallFix p m c cX2_load 4 s _ wsX2_load RX2 := ⟨hx, hb, hml, hown, hts⟩
  refine lv_aload_n hx hb dX2_load_0 rfl (lv_at hl 0 rfl) ?_
  refine va_get (D := D) (ci := 2) (v := .ref (ad 10)) (C := RX2) (T := TX2) (N := 9) hx hb yX2 (fun _ h => h) hown hG.1 hP 0 rfl rfl 1 (by decide) f20 (fun _ h => h) rfl dX2_load_1 ?_
  refine lv_iload_n hx hb dX2_load_4 rfl (lv_at hl 1 rfl) ?_
  refine xrd (va_runV (As := [.int k]) (rest := []) hF (c_X0_has l D cI cS (ad 10) (ad 11) (ad 12) (ad 13) (ad 14) n fo ki st we lo k (by first | assumption | omega)) (cwV 1 hts gX2_load_X0_has rfl rfl rfl hV_X0_has ⟨Nat.le_of_ble_eq_true rfl, Nat.le_of_ble_eq_true rfl⟩) (PR.preV hG (hP.sub (ws' := (wRow cI (ad 10) (ad 11) (ad 12) (ad 13) (ad 14) n fo ki st we lo)) [10, 11, 12, 13, 14] rfl) (ci := 0) rfl rfl) rfl rfl hl.1 rfl (lv_room (Nat.le_of_ble_eq_true rfl)) dX2_load_5 ⟨Nat.le_refl _, Nat.le_refl _⟩) ?_
  refine lv_if_ne (tgt := 13) hx hb dX2_load_8 (by decide) (fun c_8 => ?_) (fun c_8 => ?_)
  ·
    replace c_8 := bI_n0.mp c_8
    obtain ⟨j, hj, rfl⟩ := hasB_t c_8
    have hclj := cl8 (j := j) (by omega)
    refine lv_iload_n hx hb dX2_load_13 rfl (lv_at hl 2 rfl) ?_
    refine lv_iconst (v := nI 1) hx hb dX2_load_14 (by decide) ?_
    refine lv_icmp_lt (tgt := 24) hx hb dX2_load_15 (by decide) (fun c_15 => ?_) (fun c_15 => ?_)
    ·
      replace c_15 : v.toInt < 1 := (i32_ltc (b := 1) (by omega)).mp c_15
      have hzv : rgB 1 9 v = false := by first | exact rgB_n1 (by omega) | exact rgB_n2 (by omega)
      refine lv_bipush (v := (-2)) hx hb dX2_load_24 (by decide) ?_
      exact xretM hx hb hr hlk dX2_load_26 hS () (by simp [A_load, c_8, hclj, c_15, hzv]) (fun t ht => by rw [ht]; rw [show S_load n we (nI j) v = we from by simp [S_load, c_8, hclj, c_15, hzv]]; exact hP)
    ·
      replace c_15 : ¬ v.toInt < 1 := (not_congr (i32_ltc (b := 1) (by omega))).mp c_15
      refine lv_iload_n hx hb dX2_load_18 rfl (lv_at hl 2 rfl) ?_
      refine lv_bipush (v := nI 9) hx hb dX2_load_19 (by decide) ?_
      refine lv_icmp_le (tgt := 27) hx hb dX2_load_21 (by decide) (fun c_21 => ?_) (fun c_21 => ?_)
      ·
        replace c_21 : v.toInt ≤ 9 := (i32_lec (b := 9) (by omega)).mp c_21
        have hzv : rgB 1 9 v = true := rgB_y (by omega) (by omega)
        obtain ⟨w, hw0, hw1, rfl⟩ := rgB_nat (by decide) hzv
        have hclw := cl8 (j := w) (by omega)
        refine lv_aload_n hx hb dX2_load_27 rfl (lv_at hl 0 rfl) ?_
        refine va_get (D := D) (ci := 2) (v := .ref (ad 10)) (C := RX2) (T := TX2) (N := 9) hx hb yX2 (fun _ h => h) hown hG.1 hP 0 rfl rfl 1 (by decide) f20 (fun _ h => h) rfl dX2_load_28 ?_
        refine va_get (D := D) (ci := 0) (v := .ref (ad 13)) (C := RX0) (T := TX0) (N := 6) hx hb yX0 (fun _ h => h) hown hG.1 hP 10 rfl rfl 2 (by decide) f87 (fun _ h => h) rfl dX2_load_31 ?_
        refine lv_iload_n hx hb dX2_load_34 rfl (lv_at hl 1 rfl) ?_
        refine xaldN hx hb hG hP 13 rfl (j) rfl (by omega) (by decide) dX2_load_35 ?_
        refine lv_istore_n (lv' := [(3, .int (nI (we j))), (0, .ref (ad 0)), (1, .int (nI j)), (2, .int (nI w))]) hx hb dX2_load_36 rfl hl (by decide) rfl (fun ls hl => ?_)
        refine lv_aload_n hx hb dX2_load_37 rfl (lv_at hl 1 rfl) ?_
        refine va_get (D := D) (ci := 2) (v := .ref (ad 10)) (C := RX2) (T := TX2) (N := 9) hx hb yX2 (fun _ h => h) hown hG.1 hP 0 rfl rfl 1 (by decide) f20 (fun _ h => h) rfl dX2_load_38 ?_
        refine va_get (D := D) (ci := 0) (v := .ref (ad 13)) (C := RX0) (T := TX0) (N := 6) hx hb yX0 (fun _ h => h) hown hG.1 hP 10 rfl rfl 2 (by decide) f87 (fun _ h => h) rfl dX2_load_41 ?_
        refine lv_iload_n hx hb dX2_load_44 rfl (lv_at hl 2 rfl) ?_
        refine lv_iload_n hx hb dX2_load_45 rfl (lv_at hl 3 rfl) ?_
        refine xastN hx hb hG hP hD hS 13 rfl (j) (w) rfl rfl (by omega) (by decide) dX2_load_46 (fun H locs hP hD hS => ?_)
        have hP : va_P D vwCl (wX cI cS ad sh sla sle sf n fo ki st (updN we j w) lo n2 go kj sj wj lj ti rc rv rd tr fa) H := hP
        have hD : va_D (AW (adX ad)) (wX cI cS ad sh sla sle sf n fo ki st (updN we j w) lo n2 go kj sj wj lj ti rc rv rd tr fa) := hD
        refine lv_iload_n hx hb dX2_load_47 rfl (lv_at hl 0 rfl) ?_
        exact xretM hx hb hr hlk dX2_load_48 hS () (by simp [A_load, c_8, hclj, c_15, c_21, hzv, hclw]) (fun t ht => by rw [ht]; rw [show S_load n we (nI j) (nI w) = (updN we j w) from by simp [S_load, c_8, hclj, c_15, c_21, hzv, hclw]]; exact hP)
      ·
        replace c_21 : ¬ v.toInt ≤ 9 := (not_congr (i32_lec (b := 9) (by omega))).mp c_21
        have hzv : rgB 1 9 v = false := by first | exact rgB_n1 (by omega) | exact rgB_n2 (by omega)
        refine lv_bipush (v := (-2)) hx hb dX2_load_24 (by decide) ?_
        exact xretM hx hb hr hlk dX2_load_26 hS () (by simp [A_load, c_8, hclj, c_15, c_21, hzv]) (fun t ht => by rw [ht]; rw [show S_load n we (nI j) v = we from by simp [S_load, c_8, hclj, c_15, c_21, hzv]]; exact hP)
  ·
    replace c_8 := bI_0.mp c_8
    refine lv_iconst (v := (-1)) hx hb dX2_load_11 (by decide) ?_
    exact xretM hx hb hr hlk dX2_load_12 hS () (by simp [A_load, c_8]) (fun t ht => by rw [ht]; rw [show S_load n we k v = we from by simp [S_load, c_8]]; exact hP)

set_option maxHeartbeats 4000000 in
set_option maxRecDepth 100000 in
theorem c_X2_poll (l : Launch) (D : va_G) (cI cS : ClassId) (ad : Nat → Nat) (sh : Nat → Bool) (sla : Nat → Nat) (sle : Nat → Nat) (sf : Nat → Nat → Int32) (n : Nat) (fo : Nat) (ki : Nat → Nat) (st : Nat → Nat) (we : Nat → Nat) (lo : Nat → Nat) (n2 : Nat) (go : Nat) (kj : Nat → Nat) (sj : Nat → Nat) (wj : Nat → Nat) (lj : Nat → Nat) (ti : Nat → Int32) (rc : Nat → Nat) (rv : Nat → Nat) (rd : Nat) (tr : Int32) (fa : Nat) (what : Int32) (hn : n ≤ 8) (hfo : fo < 256) (hki : ∀ j, ki j ≤ 2) (hwe : ∀ j, we j ≤ 9) (hst : ∀ j, st j ≤ 3) (hlo : ∀ j, lo j ≤ 3) : Met l yX2_poll wsX2_poll ({ frames := 5, cells := 0, slots := 0, locals := 107 }) (PR D cI cS [.ref (ad 0), .int what] (wX cI cS ad sh sla sle sf n fo ki st we lo n2 go kj sj wj lj ti rc rv rd tr fa)) (vp_Si (fun r => r = A_poll n fo ki st we lo what)) 0 0 (fun _ => False) := by
  refine startR (by decide) rfl (Nat.le_of_ble_eq_true rfl) ?_
  intro p e s m below meth c hx hb hr hts hown hlk hml hG hP ls hl
  have hl : lv_has ls 2 [(0, .ref (ad 0)), (1, .int what)] := hl
  have f20 := hts (.fieldLink RX2 20 "ChairBallot" "now" "LChairBallot$Row;") (by decide +kernel)
  have yX2 : ∀ w ∈ u_ws RX2 TX2 9, w.before _ s = true := fun w h => hts w ((by decide +kernel : ∀ w ∈ wsX20, w ∈ wsX2_poll) w h)
  have hF : CallFix p m c cX2_poll 2 s _ wsX2_poll RX2 := ⟨hx, hb, hml, hown, hts⟩
  refine lv_aload_n hx hb dX2_poll_0 rfl (lv_at hl 0 rfl) ?_
  refine xrd (va_runV (As := []) (rest := []) hF (c_X2_hasFront l D cI cS ad sh sla sle sf n fo ki st we lo n2 go kj sj wj lj ti rc rv rd tr fa (by first | assumption | omega)) (cwV 0 hts gX2_poll_X2_hasFront rfl rfl rfl hV_X2_hasFront ⟨Nat.le_of_ble_eq_true rfl, Nat.le_of_ble_eq_true rfl⟩) (PR.preV hG hP (ci := 2) rfl rfl) rfl rfl hl.1 rfl (lv_room (Nat.le_of_ble_eq_true rfl)) dX2_poll_1 ⟨Nat.le_refl _, Nat.le_refl _⟩) ?_
  refine lv_if_ne (tgt := 10) hx hb dX2_poll_4 (by decide) (fun c_4 => ?_) (fun c_4 => ?_)
  ·
    replace c_4 := bI_n0.mp c_4
    replace c_4 := of_decide_eq_true c_4
    have hn0 : ¬ n = 0 := by omega
    refine lv_iload_n hx hb dX2_poll_10 rfl (lv_at hl 1 rfl) ?_
    by_cases c_11_0 : what = nI 0
    ·
      refine lv_tableIn (off := 33) (tgt := 44) hx hb dX2_poll_11 (by rw [c_11_0]; decide) (by rw [c_11_0]; decide) (by rw [c_11_0]; decide) (by decide) ?_
      refine lv_aload_n hx hb dX2_poll_44 rfl (lv_at hl 0 rfl) ?_
      refine va_get (D := D) (ci := 2) (v := .ref (ad 10)) (C := RX2) (T := TX2) (N := 9) hx hb yX2 (fun _ h => h) hown hG.1 hP 0 rfl rfl 1 (by decide) f20 (fun _ h => h) rfl dX2_poll_45 ?_
      refine lv_iconst (v := nI 1) hx hb dX2_poll_48 (by decide) ?_
      refine xrd (va_runV (As := [.int (nI 1)]) (rest := []) hF (c_X0_votesOf l D cI cS (ad 10) (ad 11) (ad 12) (ad 13) (ad 14) n fo ki st we lo 1 (by first | assumption | omega) (by first | assumption | omega) (by first | assumption | omega) (by first | assumption | omega) (by first | assumption | omega) (by first | assumption | omega) (by first | assumption | omega)) (cwV 1 hts gX2_poll_X0_votesOf rfl rfl rfl hV_X0_votesOf ⟨Nat.le_of_ble_eq_true rfl, Nat.le_of_ble_eq_true rfl⟩) (PR.preV hG (hP.sub (ws' := (wRow cI (ad 10) (ad 11) (ad 12) (ad 13) (ad 14) n fo ki st we lo)) [10, 11, 12, 13, 14] rfl) (ci := 0) rfl rfl) rfl rfl hl.1 rfl (lv_room (Nat.le_of_ble_eq_true rfl)) dX2_poll_49 ⟨Nat.le_refl _, Nat.le_refl _⟩) ?_
      exact xretR hx hb hr hlk dX2_poll_52 (by first | (simp [A_poll, forS, nIeq, bI_true, bI_false, c_4, hn0, c_11_0]; done) | (simp [A_poll, carB, bI, nIeq, bI_true, bI_false, c_4, hn0, c_11_0]; rfl) | (have c_69b := c_69; simp [A_poll, carB, bI, nIeq, bI_true, bI_false, c_4, hn0, c_11_0]))
    by_cases c_11_1 : what = nI 1
    ·
      refine lv_tableIn (off := 42) (tgt := 53) hx hb dX2_poll_11 (by rw [c_11_1]; decide) (by rw [c_11_1]; decide) (by rw [c_11_1]; decide) (by decide) ?_
      refine lv_aload_n hx hb dX2_poll_53 rfl (lv_at hl 0 rfl) ?_
      refine va_get (D := D) (ci := 2) (v := .ref (ad 10)) (C := RX2) (T := TX2) (N := 9) hx hb yX2 (fun _ h => h) hown hG.1 hP 0 rfl rfl 1 (by decide) f20 (fun _ h => h) rfl dX2_poll_54 ?_
      refine lv_iconst (v := nI 2) hx hb dX2_poll_57 (by decide) ?_
      refine xrd (va_runV (As := [.int (nI 2)]) (rest := []) hF (c_X0_votesOf l D cI cS (ad 10) (ad 11) (ad 12) (ad 13) (ad 14) n fo ki st we lo 2 (by first | assumption | omega) (by first | assumption | omega) (by first | assumption | omega) (by first | assumption | omega) (by first | assumption | omega) (by first | assumption | omega) (by first | assumption | omega)) (cwV 1 hts gX2_poll_X0_votesOf rfl rfl rfl hV_X0_votesOf ⟨Nat.le_of_ble_eq_true rfl, Nat.le_of_ble_eq_true rfl⟩) (PR.preV hG (hP.sub (ws' := (wRow cI (ad 10) (ad 11) (ad 12) (ad 13) (ad 14) n fo ki st we lo)) [10, 11, 12, 13, 14] rfl) (ci := 0) rfl rfl) rfl rfl hl.1 rfl (lv_room (Nat.le_of_ble_eq_true rfl)) dX2_poll_58 ⟨Nat.le_refl _, Nat.le_refl _⟩) ?_
      exact xretR hx hb hr hlk dX2_poll_61 (by first | (simp [A_poll, forS, nIeq, bI_true, bI_false, c_4, hn0, c_11_1]; done) | (simp [A_poll, carB, bI, nIeq, bI_true, bI_false, c_4, hn0, c_11_1]; rfl) | (have c_69b := c_69; simp [A_poll, carB, bI, nIeq, bI_true, bI_false, c_4, hn0, c_11_1]))
    by_cases c_11_2 : what = nI 2
    ·
      refine lv_tableIn (off := 51) (tgt := 62) hx hb dX2_poll_11 (by rw [c_11_2]; decide) (by rw [c_11_2]; decide) (by rw [c_11_2]; decide) (by decide) ?_
      refine lv_aload_n hx hb dX2_poll_62 rfl (lv_at hl 0 rfl) ?_
      refine va_get (D := D) (ci := 2) (v := .ref (ad 10)) (C := RX2) (T := TX2) (N := 9) hx hb yX2 (fun _ h => h) hown hG.1 hP 0 rfl rfl 1 (by decide) f20 (fun _ h => h) rfl dX2_poll_63 ?_
      refine xrd (va_runV (As := []) (rest := []) hF (c_X0_isCarried l D cI cS (ad 10) (ad 11) (ad 12) (ad 13) (ad 14) n fo ki st we lo (by first | assumption | omega) (by first | assumption | omega) (by first | assumption | omega) (by first | assumption | omega) (by first | assumption | omega) (by first | assumption | omega)) (cwV 0 hts gX2_poll_X0_isCarried rfl rfl rfl hV_X0_isCarried ⟨Nat.le_of_ble_eq_true rfl, Nat.le_of_ble_eq_true rfl⟩) (PR.preV hG (hP.sub (ws' := (wRow cI (ad 10) (ad 11) (ad 12) (ad 13) (ad 14) n fo ki st we lo)) [10, 11, 12, 13, 14] rfl) (ci := 0) rfl rfl) rfl rfl hl.1 rfl (lv_room (Nat.le_of_ble_eq_true rfl)) dX2_poll_66 ⟨Nat.le_refl _, Nat.le_refl _⟩) ?_
      refine lv_if_eq (tgt := 76) hx hb dX2_poll_69 (by decide) (fun c_69 => ?_) (fun c_69 => ?_)
      ·
        replace c_69 := bI_0.mp c_69
        replace c_69 := of_decide_eq_false c_69
        refine lv_iconst (v := nI 0) hx hb dX2_poll_76 (by decide) ?_
        exact xretR hx hb hr hlk dX2_poll_77 (by first | (simp [A_poll, forS, nIeq, bI_true, bI_false, c_4, hn0, c_11_2, c_69]; done) | (simp [A_poll, carB, bI, nIeq, bI_true, bI_false, c_4, hn0, c_11_2, c_69]; rfl) | (have c_69b := c_69; simp [A_poll, carB, bI, nIeq, bI_true, bI_false, c_4, hn0, c_11_2, c_69]))
      ·
        replace c_69 := bI_n0.mp c_69
        replace c_69 := of_decide_eq_true c_69
        refine lv_iconst (v := nI 1) hx hb dX2_poll_72 (by decide) ?_
        refine lv_goto (tgt := 77) hx hb dX2_poll_73 (by decide) ?_
        exact xretR hx hb hr hlk dX2_poll_77 (by first | (simp [A_poll, forS, nIeq, bI_true, bI_false, c_4, hn0, c_11_2, c_69]; done) | (simp [A_poll, carB, bI, nIeq, bI_true, bI_false, c_4, hn0, c_11_2, c_69]; rfl) | (have c_69b := c_69; simp [A_poll, carB, bI, nIeq, bI_true, bI_false, c_4, hn0, c_11_2, c_69]))
    by_cases c_11_3 : what = nI 3
    ·
      refine lv_tableIn (off := 67) (tgt := 78) hx hb dX2_poll_11 (by rw [c_11_3]; decide) (by rw [c_11_3]; decide) (by rw [c_11_3]; decide) (by decide) ?_
      refine lv_aload_n hx hb dX2_poll_78 rfl (lv_at hl 0 rfl) ?_
      refine va_get (D := D) (ci := 2) (v := .ref (ad 10)) (C := RX2) (T := TX2) (N := 9) hx hb yX2 (fun _ h => h) hown hG.1 hP 0 rfl rfl 1 (by decide) f20 (fun _ h => h) rfl dX2_poll_79 ?_
      refine lv_iconst (v := nI 1) hx hb dX2_poll_82 (by decide) ?_
      refine xrd (va_runV (As := [.int (nI 1)]) (rest := []) hF (c_X0_chairsOf l D cI cS (ad 10) (ad 11) (ad 12) (ad 13) (ad 14) n fo ki st we lo 1 (by first | assumption | omega) (by first | assumption | omega) (by first | assumption | omega) (by first | assumption | omega) (by first | assumption | omega)) (cwV 1 hts gX2_poll_X0_chairsOf rfl rfl rfl hV_X0_chairsOf ⟨Nat.le_of_ble_eq_true rfl, Nat.le_of_ble_eq_true rfl⟩) (PR.preV hG (hP.sub (ws' := (wRow cI (ad 10) (ad 11) (ad 12) (ad 13) (ad 14) n fo ki st we lo)) [10, 11, 12, 13, 14] rfl) (ci := 0) rfl rfl) rfl rfl hl.1 rfl (lv_room (Nat.le_of_ble_eq_true rfl)) dX2_poll_83 ⟨Nat.le_refl _, Nat.le_refl _⟩) ?_
      exact xretR hx hb hr hlk dX2_poll_86 (by first | (simp [A_poll, forS, nIeq, bI_true, bI_false, c_4, hn0, c_11_3]; done) | (simp [A_poll, carB, bI, nIeq, bI_true, bI_false, c_4, hn0, c_11_3]; rfl) | (have c_69b := c_69; simp [A_poll, carB, bI, nIeq, bI_true, bI_false, c_4, hn0, c_11_3]))
    by_cases c_11_4 : what = nI 4
    ·
      refine lv_tableIn (off := 76) (tgt := 87) hx hb dX2_poll_11 (by rw [c_11_4]; decide) (by rw [c_11_4]; decide) (by rw [c_11_4]; decide) (by decide) ?_
      refine lv_aload_n hx hb dX2_poll_87 rfl (lv_at hl 0 rfl) ?_
      refine va_get (D := D) (ci := 2) (v := .ref (ad 10)) (C := RX2) (T := TX2) (N := 9) hx hb yX2 (fun _ h => h) hown hG.1 hP 0 rfl rfl 1 (by decide) f20 (fun _ h => h) rfl dX2_poll_88 ?_
      refine lv_iconst (v := nI 2) hx hb dX2_poll_91 (by decide) ?_
      refine xrd (va_runV (As := [.int (nI 2)]) (rest := []) hF (c_X0_chairsOf l D cI cS (ad 10) (ad 11) (ad 12) (ad 13) (ad 14) n fo ki st we lo 2 (by first | assumption | omega) (by first | assumption | omega) (by first | assumption | omega) (by first | assumption | omega) (by first | assumption | omega)) (cwV 1 hts gX2_poll_X0_chairsOf rfl rfl rfl hV_X0_chairsOf ⟨Nat.le_of_ble_eq_true rfl, Nat.le_of_ble_eq_true rfl⟩) (PR.preV hG (hP.sub (ws' := (wRow cI (ad 10) (ad 11) (ad 12) (ad 13) (ad 14) n fo ki st we lo)) [10, 11, 12, 13, 14] rfl) (ci := 0) rfl rfl) rfl rfl hl.1 rfl (lv_room (Nat.le_of_ble_eq_true rfl)) dX2_poll_92 ⟨Nat.le_refl _, Nat.le_refl _⟩) ?_
      exact xretR hx hb hr hlk dX2_poll_95 (by first | (simp [A_poll, forS, nIeq, bI_true, bI_false, c_4, hn0, c_11_4]; done) | (simp [A_poll, carB, bI, nIeq, bI_true, bI_false, c_4, hn0, c_11_4]; rfl) | (have c_69b := c_69; simp [A_poll, carB, bI, nIeq, bI_true, bI_false, c_4, hn0, c_11_4]))
    refine lv_tableOut (tgt := 96) hx hb dX2_poll_11 (by exact xtabN (N := 5) (by decide) (fun j hj => by match j, hj with | 0, _ => exact c_11_0 | 1, _ => exact c_11_1 | 2, _ => exact c_11_2 | 3, _ => exact c_11_3 | 4, _ => exact c_11_4)) (by decide) ?_
    refine lv_bipush (v := (-2)) hx hb dX2_poll_96 (by decide) ?_
    exact xretR hx hb hr hlk dX2_poll_98 (by first | (simp [A_poll, forS, nIeq, bI_true, bI_false, c_4, hn0, c_11_0, c_11_1, c_11_2, c_11_3, c_11_4]; done) | (simp [A_poll, carB, bI, nIeq, bI_true, bI_false, c_4, hn0, c_11_0, c_11_1, c_11_2, c_11_3, c_11_4]; rfl) | (have c_69b := c_69; simp [A_poll, carB, bI, nIeq, bI_true, bI_false, c_4, hn0, c_11_0, c_11_1, c_11_2, c_11_3, c_11_4]))
  ·
    replace c_4 := bI_0.mp c_4
    replace c_4 := of_decide_eq_false c_4
    have hn0 : n = 0 := by omega
    refine lv_bipush (v := (-3)) hx hb dX2_poll_7 (by decide) ?_
    exact xretR hx hb hr hlk dX2_poll_9 (by first | (simp [A_poll, forS, nIeq, bI_true, bI_false, c_4, hn0]; done) | (simp [A_poll, carB, bI, nIeq, bI_true, bI_false, c_4, hn0]; rfl) | (have c_69b := c_69; simp [A_poll, carB, bI, nIeq, bI_true, bI_false, c_4, hn0]))

set_option maxHeartbeats 4000000 in
set_option maxRecDepth 100000 in
theorem c_X2_turn (l : Launch) (D : va_G) (cI cS : ClassId) (ad : Nat → Nat) (sh : Nat → Bool) (sla : Nat → Nat) (sle : Nat → Nat) (sf : Nat → Nat → Int32) (n : Nat) (fo : Nat) (ki : Nat → Nat) (st : Nat → Nat) (we : Nat → Nat) (lo : Nat → Nat) (n2 : Nat) (go : Nat) (kj : Nat → Nat) (sj : Nat → Nat) (wj : Nat → Nat) (lj : Nat → Nat) (ti : Nat → Int32) (rc : Nat → Nat) (rv : Nat → Nat) (rd : Nat) (tr : Int32) (fa : Nat) (k : Int32) (v : Int32) (hnd : nd (adX ad)) (hn : n ≤ 8) (hfo : fo < 256) (hlo : ∀ j, lo j ≤ 3) : Met l yX2_turn wsX2_turn ({ frames := 2, cells := 0, slots := 0, locals := 43 }) (PR D cI cS [.ref (ad 0), .int k, .int v] (wX cI cS ad sh sla sle sf n fo ki st we lo n2 go kj sj wj lj ti rc rv rd tr fa)) (va_Qi (fun r (zz : Unit) => r = A_turn n fo lo k v) (fun (zz : Unit) t => va_P D vwCl (wX cI cS ad sh sla sle sf n fo ki st we (S_turn n fo lo k v) n2 go kj sj wj lj ti rc rv rd tr fa) t.heap) (AW (adX ad))) 0 0 (AW (adX ad)) := by
  refine startM (by decide) rfl (Nat.le_of_ble_eq_true rfl) hnd rfl ?_
  intro p e s m below meth c hx hb hr hts hown hlk hml hG hP hD hS ls hl
  have hl : lv_has ls 4 [(0, .ref (ad 0)), (1, .int k), (2, .int v)] := hl
  have f20 := hts (.fieldLink RX2 20 "ChairBallot" "now" "LChairBallot$Row;") (by decide +kernel)
  have f90 := hts (.fieldLink RX2 90 "ChairBallot$Row" "looks" "[I") (by decide +kernel)
  have yX0 : ∀ w ∈ u_ws RX0 TX0 6, w.before _ s = true := fun w h => hts w ((by decide +kernel : ∀ w ∈ wsX00, w ∈ wsX2_turn) w h)
  have yX2 : ∀ w ∈ u_ws RX2 TX2 9, w.before _ s = true := fun w h => hts w ((by decide +kernel : ∀ w ∈ wsX20, w ∈ wsX2_turn) w h)
  have hF : CallFix p m c cX2_turn 4 s _ wsX2_turn RX2 := ⟨hx, hb, hml, hown, hts⟩
  refine lv_aload_n hx hb dX2_turn_0 rfl (lv_at hl 0 rfl) ?_
  refine va_get (D := D) (ci := 2) (v := .ref (ad 10)) (C := RX2) (T := TX2) (N := 9) hx hb yX2 (fun _ h => h) hown hG.1 hP 0 rfl rfl 1 (by decide) f20 (fun _ h => h) rfl dX2_turn_1 ?_
  refine lv_iload_n hx hb dX2_turn_4 rfl (lv_at hl 1 rfl) ?_
  refine xrd (va_runV (As := [.int k]) (rest := []) hF (c_X0_has l D cI cS (ad 10) (ad 11) (ad 12) (ad 13) (ad 14) n fo ki st we lo k (by first | assumption | omega)) (cwV 1 hts gX2_turn_X0_has rfl rfl rfl hV_X0_has ⟨Nat.le_of_ble_eq_true rfl, Nat.le_of_ble_eq_true rfl⟩) (PR.preV hG (hP.sub (ws' := (wRow cI (ad 10) (ad 11) (ad 12) (ad 13) (ad 14) n fo ki st we lo)) [10, 11, 12, 13, 14] rfl) (ci := 0) rfl rfl) rfl rfl hl.1 rfl (lv_room (Nat.le_of_ble_eq_true rfl)) dX2_turn_5 ⟨Nat.le_refl _, Nat.le_refl _⟩) ?_
  refine lv_if_ne (tgt := 13) hx hb dX2_turn_8 (by decide) (fun c_8 => ?_) (fun c_8 => ?_)
  ·
    replace c_8 := bI_n0.mp c_8
    obtain ⟨j, hj, rfl⟩ := hasB_t c_8
    have hclj := cl8 (j := j) (by omega)
    refine lv_iload_n hx hb dX2_turn_13 rfl (lv_at hl 2 rfl) ?_
    refine xrd (va_runS (As := [.int v]) (rest := []) hF (c_X2_isWay l D cI cS v ) (va_cwS 1 hts gX2_turn_X2_isWay rfl rfl rfl hD_X2_isWay ⟨Nat.le_of_ble_eq_true rfl, Nat.le_of_ble_eq_true rfl⟩) (PR.pre hG (hP.sub (ws' := []) [] rfl)) rfl rfl hl.1 rfl (lv_room (Nat.le_of_ble_eq_true rfl)) dX2_turn_14 ⟨Nat.le_refl _, Nat.le_refl _⟩) ?_
    refine lv_if_ne (tgt := 23) hx hb dX2_turn_17 (by decide) (fun c_17 => ?_) (fun c_17 => ?_)
    ·
      replace c_17 := bI_n0.mp c_17
      obtain ⟨w, hw0, hw1, rfl⟩ := rgB_nat (by decide) c_17
      have hclw := cl8 (j := w) (by omega)
      refine lv_aload_n hx hb dX2_turn_23 rfl (lv_at hl 0 rfl) ?_
      refine va_get (D := D) (ci := 2) (v := .ref (ad 10)) (C := RX2) (T := TX2) (N := 9) hx hb yX2 (fun _ h => h) hown hG.1 hP 0 rfl rfl 1 (by decide) f20 (fun _ h => h) rfl dX2_turn_24 ?_
      refine va_get (D := D) (ci := 0) (v := .ref (ad 14)) (C := RX0) (T := TX0) (N := 6) hx hb yX0 (fun _ h => h) hown hG.1 hP 10 rfl rfl 3 (by decide) f90 (fun _ h => h) rfl dX2_turn_27 ?_
      refine lv_iload_n hx hb dX2_turn_30 rfl (lv_at hl 1 rfl) ?_
      refine xaldN hx hb hG hP 14 rfl (j) rfl (by omega) (by decide) dX2_turn_31 ?_
      refine lv_istore_n (lv' := [(3, .int (nI (lo j))), (0, .ref (ad 0)), (1, .int (nI j)), (2, .int (nI w))]) hx hb dX2_turn_32 rfl hl (by decide) rfl (fun ls hl => ?_)
      refine lv_aload_n hx hb dX2_turn_33 rfl (lv_at hl 1 rfl) ?_
      refine va_get (D := D) (ci := 2) (v := .ref (ad 10)) (C := RX2) (T := TX2) (N := 9) hx hb yX2 (fun _ h => h) hown hG.1 hP 0 rfl rfl 1 (by decide) f20 (fun _ h => h) rfl dX2_turn_34 ?_
      refine lv_iload_n hx hb dX2_turn_37 rfl (lv_at hl 2 rfl) ?_
      refine lv_iload_n hx hb dX2_turn_38 rfl (lv_at hl 3 rfl) ?_
      refine xmu (wc := (wRow cI (ad 10) (ad 11) (ad 12) (ad 13) (ad 14) n fo ki st we lo)) (va_runV (As := [.int (nI j), .int (nI w)]) (rest := []) hF (c_X0_turned l D cI cS (ad 10) (ad 11) (ad 12) (ad 13) (ad 14) n fo ki st we lo j w (hnd.sub [10, 11, 12, 13, 14] (by decide) rfl) (by first | assumption | omega) (by first | assumption | omega) (by first | assumption | omega)) (cwV 2 hts gX2_turn_X0_turned rfl rfl rfl hV_X0_turned ⟨Nat.le_of_ble_eq_true rfl, Nat.le_of_ble_eq_true rfl⟩) (PR.preV hG (hP.sub (ws' := (wRow cI (ad 10) (ad 11) (ad 12) (ad 13) (ad 14) n fo ki st we lo)) [10, 11, 12, 13, 14] rfl) (ci := 0) rfl rfl) rfl rfl hl.1 rfl (lv_room (Nat.le_of_ble_eq_true rfl)) dX2_turn_39 ⟨Nat.le_refl _, Nat.le_refl _⟩) hP hD hS [10, 11, 12, 13, 14] rfl rfl (fun _ => rfl) (fun r_39 u_39 H locs q_39 hP hD hS => ?_)
      try dsimp only at q_39 hP hD
      have e_39 := q_39
      subst e_39
      have hP : va_P D vwCl (wX cI cS ad sh sla sle sf n fo ki st we (trn fo lo j w) n2 go kj sj wj lj ti rc rv rd tr fa) H := hP
      have hD : va_D (AW (adX ad)) (wX cI cS ad sh sla sle sf n fo ki st we (trn fo lo j w) n2 go kj sj wj lj ti rc rv rd tr fa) := hD
      refine lv_if_eq (tgt := 49) hx hb dX2_turn_42 (by decide) (fun c_42 => ?_) (fun c_42 => ?_)
      ·
        replace c_42 := bI_0.mp c_42
        replace c_42 := (by simpa using c_42 : (fo.testBit j) = true)
        refine lv_bipush (v := (-3)) hx hb dX2_turn_49 (by decide) ?_
        exact xretM hx hb hr hlk dX2_turn_51 hS () (by simp [A_turn, c_8, hclj, c_17, hclw, c_42]) (fun t ht => by rw [ht]; rw [show S_turn n fo lo (nI j) (nI w) = (trn fo lo j w) from by simp [S_turn, c_8, hclj, c_17, hclw, c_42]]; exact hP)
      ·
        replace c_42 := bI_n0.mp c_42
        replace c_42 := (by simpa using c_42 : (fo.testBit j) = false)
        refine lv_iload_n hx hb dX2_turn_45 rfl (lv_at hl 0 rfl) ?_
        refine lv_goto (tgt := 51) hx hb dX2_turn_46 (by decide) ?_
        exact xretM hx hb hr hlk dX2_turn_51 hS () (by simp [A_turn, c_8, hclj, c_17, hclw, c_42]) (fun t ht => by rw [ht]; rw [show S_turn n fo lo (nI j) (nI w) = (trn fo lo j w) from by simp [S_turn, c_8, hclj, c_17, hclw, c_42]]; exact hP)
    ·
      replace c_17 := bI_0.mp c_17
      refine lv_bipush (v := (-2)) hx hb dX2_turn_20 (by decide) ?_
      exact xretM hx hb hr hlk dX2_turn_22 hS () (by simp [A_turn, c_8, hclj, c_17]) (fun t ht => by rw [ht]; rw [show S_turn n fo lo (nI j) v = lo from by simp [S_turn, c_8, hclj, c_17]]; exact hP)
  ·
    replace c_8 := bI_0.mp c_8
    refine lv_iconst (v := (-1)) hx hb dX2_turn_11 (by decide) ?_
    exact xretM hx hb hr hlk dX2_turn_12 hS () (by simp [A_turn, c_8]) (fun t ht => by rw [ht]; rw [show S_turn n fo lo k v = lo from by simp [S_turn, c_8]]; exact hP)

set_option maxHeartbeats 4000000 in
set_option maxRecDepth 100000 in
theorem c_X2_gust (l : Launch) (D : va_G) (cI cS : ClassId) (ad : Nat → Nat) (sh : Nat → Bool) (sla : Nat → Nat) (sle : Nat → Nat) (sf : Nat → Nat → Int32) (n : Nat) (fo : Nat) (ki : Nat → Nat) (st : Nat → Nat) (we : Nat → Nat) (lo : Nat → Nat) (n2 : Nat) (go : Nat) (kj : Nat → Nat) (sj : Nat → Nat) (wj : Nat → Nat) (lj : Nat → Nat) (ti : Nat → Int32) (rc : Nat → Nat) (rv : Nat → Nat) (rd : Nat) (tr : Int32) (fa : Nat) (k : Int32) (v : Int32) (hnd : nd (adX ad)) (hn : n ≤ 8) (hfo : fo < 256) (hwe : ∀ j, we j ≤ 9) (hlo : ∀ j, lo j ≤ 3) : Met l yX2_gust wsX2_gust ({ frames := 2, cells := 0, slots := 0, locals := 45 }) (PR D cI cS [.ref (ad 0), .int k, .int v] (wX cI cS ad sh sla sle sf n fo ki st we lo n2 go kj sj wj lj ti rc rv rd tr fa)) (va_Qi (fun r (zz : Unit) => r = A_gust n fo we lo k v) (fun (zz : Unit) t => va_P D vwCl (wX cI cS ad sh sla sle sf n fo ki st we (S_gust n fo we lo k v) n2 go kj sj wj lj ti rc rv rd tr fa) t.heap) (AW (adX ad))) 0 0 (AW (adX ad)) := by
  refine startM (by decide) rfl (Nat.le_of_ble_eq_true rfl) hnd rfl ?_
  intro p e s m below meth c hx hb hr hts hown hlk hml hG hP hD hS ls hl
  have hl : lv_has ls 3 [(0, .ref (ad 0)), (1, .int k), (2, .int v)] := hl
  have f20 := hts (.fieldLink RX2 20 "ChairBallot" "now" "LChairBallot$Row;") (by decide +kernel)
  have yX2 : ∀ w ∈ u_ws RX2 TX2 9, w.before _ s = true := fun w h => hts w ((by decide +kernel : ∀ w ∈ wsX20, w ∈ wsX2_gust) w h)
  have hF : CallFix p m c cX2_gust 3 s _ wsX2_gust RX2 := ⟨hx, hb, hml, hown, hts⟩
  refine lv_aload_n hx hb dX2_gust_0 rfl (lv_at hl 0 rfl) ?_
  refine xrd (va_runV (As := []) (rest := []) hF (c_X2_hasFront l D cI cS ad sh sla sle sf n fo ki st we lo n2 go kj sj wj lj ti rc rv rd tr fa (by first | assumption | omega)) (cwV 0 hts gX2_gust_X2_hasFront rfl rfl rfl hV_X2_hasFront ⟨Nat.le_of_ble_eq_true rfl, Nat.le_of_ble_eq_true rfl⟩) (PR.preV hG hP (ci := 2) rfl rfl) rfl rfl hl.1 rfl (lv_room (Nat.le_of_ble_eq_true rfl)) dX2_gust_1 ⟨Nat.le_refl _, Nat.le_refl _⟩) ?_
  refine lv_if_ne (tgt := 10) hx hb dX2_gust_4 (by decide) (fun c_4 => ?_) (fun c_4 => ?_)
  ·
    replace c_4 := bI_n0.mp c_4
    replace c_4 := of_decide_eq_true c_4
    have hn0 : ¬ n = 0 := by omega
    refine lv_iload_n hx hb dX2_gust_10 rfl (lv_at hl 1 rfl) ?_
    refine xrd (va_runS (As := [.int k]) (rest := []) hF (c_X2_isWay l D cI cS k ) (va_cwS 1 hts gX2_gust_X2_isWay rfl rfl rfl hD_X2_isWay ⟨Nat.le_of_ble_eq_true rfl, Nat.le_of_ble_eq_true rfl⟩) (PR.pre hG (hP.sub (ws' := []) [] rfl)) rfl rfl hl.1 rfl (lv_room (Nat.le_of_ble_eq_true rfl)) dX2_gust_11 ⟨Nat.le_refl _, Nat.le_refl _⟩) ?_
    refine lv_if_eq (tgt := 27) hx hb dX2_gust_14 (by decide) (fun c_14 => ?_) (fun c_14 => ?_)
    ·
      replace c_14 := bI_0.mp c_14
      refine lv_bipush (v := (-2)) hx hb dX2_gust_27 (by decide) ?_
      exact xretM hx hb hr hlk dX2_gust_29 hS () (by simp [A_gust, c_4, hn0, c_14]) (fun t ht => by rw [ht]; rw [show S_gust n fo we lo k v = lo from by simp [S_gust, c_4, hn0, c_14]]; exact hP)
    ·
      replace c_14 := bI_n0.mp c_14
      obtain ⟨j, hj0, hj1, rfl⟩ := rgB_nat (by decide) c_14
      have hclj := cl8 (j := j) (by omega)
      refine lv_iload_n hx hb dX2_gust_17 rfl (lv_at hl 2 rfl) ?_
      refine lv_if_lt (tgt := 27) hx hb dX2_gust_18 (by decide) (fun c_18 => ?_) (fun c_18 => ?_)
      ·
        replace c_18 : v.toInt < 0 := (i32_ltc (b := 0) (by omega)).mp c_18
        have hzv : rgB 0 10 v = false := by first | exact rgB_n1 (by omega) | exact rgB_n2 (by omega)
        refine lv_bipush (v := (-2)) hx hb dX2_gust_27 (by decide) ?_
        exact xretM hx hb hr hlk dX2_gust_29 hS () (by simp [A_gust, c_4, hn0, c_14, hclj, c_18, hzv]) (fun t ht => by rw [ht]; rw [show S_gust n fo we lo (nI j) v = lo from by simp [S_gust, c_4, hn0, c_14, hclj, c_18, hzv]]; exact hP)
      ·
        replace c_18 : ¬ v.toInt < 0 := (not_congr (i32_ltc (b := 0) (by omega))).mp c_18
        refine lv_iload_n hx hb dX2_gust_21 rfl (lv_at hl 2 rfl) ?_
        refine lv_bipush (v := nI 10) hx hb dX2_gust_22 (by decide) ?_
        refine lv_icmp_le (tgt := 30) hx hb dX2_gust_24 (by decide) (fun c_24 => ?_) (fun c_24 => ?_)
        ·
          replace c_24 : v.toInt ≤ 10 := (i32_lec (b := 10) (by omega)).mp c_24
          have hzv : rgB 0 10 v = true := rgB_y (by omega) (by omega)
          obtain ⟨w, hw0, hw1, rfl⟩ := rgB_nat (by decide) hzv
          have hclw := cl8 (j := w) (by omega)
          refine lv_aload_n hx hb dX2_gust_30 rfl (lv_at hl 0 rfl) ?_
          refine va_get (D := D) (ci := 2) (v := .ref (ad 10)) (C := RX2) (T := TX2) (N := 9) hx hb yX2 (fun _ h => h) hown hG.1 hP 0 rfl rfl 1 (by decide) f20 (fun _ h => h) rfl dX2_gust_31 ?_
          refine lv_iload_n hx hb dX2_gust_34 rfl (lv_at hl 1 rfl) ?_
          refine lv_iload_n hx hb dX2_gust_35 rfl (lv_at hl 2 rfl) ?_
          refine xmu (wc := (wRow cI (ad 10) (ad 11) (ad 12) (ad 13) (ad 14) n fo ki st we lo)) (va_runV (As := [.int (nI j), .int (nI w)]) (rest := []) hF (c_X0_blown l D cI cS (ad 10) (ad 11) (ad 12) (ad 13) (ad 14) n fo ki st we lo j w (hnd.sub [10, 11, 12, 13, 14] (by decide) rfl) (by first | assumption | omega) (by first | assumption | omega) (by first | assumption | omega) (by first | assumption | omega) (by first | assumption | omega) (by first | assumption | omega)) (cwV 2 hts gX2_gust_X0_blown rfl rfl rfl hV_X0_blown ⟨Nat.le_of_ble_eq_true rfl, Nat.le_of_ble_eq_true rfl⟩) (PR.preV hG (hP.sub (ws' := (wRow cI (ad 10) (ad 11) (ad 12) (ad 13) (ad 14) n fo ki st we lo)) [10, 11, 12, 13, 14] rfl) (ci := 0) rfl rfl) rfl rfl hl.1 rfl (lv_room (Nat.le_of_ble_eq_true rfl)) dX2_gust_36 ⟨Nat.le_refl _, Nat.le_refl _⟩) hP hD hS [10, 11, 12, 13, 14] rfl rfl (fun _ => rfl) (fun r_36 u_36 H locs q_36 hP hD hS => ?_)
          try dsimp only at q_36 hP hD
          have e_36 := q_36
          subst e_36
          have hP : va_P D vwCl (wX cI cS ad sh sla sle sf n fo ki st we (blwL n fo we lo j w) n2 go kj sj wj lj ti rc rv rd tr fa) H := hP
          have hD : va_D (AW (adX ad)) (wX cI cS ad sh sla sle sf n fo ki st we (blwL n fo we lo j w) n2 go kj sj wj lj ti rc rv rd tr fa) := hD
          exact xretM hx hb hr hlk dX2_gust_39 hS () (by simp [A_gust, c_4, hn0, c_14, hclj, c_18, c_24, hzv, hclw]) (fun t ht => by rw [ht]; rw [show S_gust n fo we lo (nI j) (nI w) = (blwL n fo we lo j w) from by simp [S_gust, c_4, hn0, c_14, hclj, c_18, c_24, hzv, hclw]]; exact hP)
        ·
          replace c_24 : ¬ v.toInt ≤ 10 := (not_congr (i32_lec (b := 10) (by omega))).mp c_24
          have hzv : rgB 0 10 v = false := by first | exact rgB_n1 (by omega) | exact rgB_n2 (by omega)
          refine lv_bipush (v := (-2)) hx hb dX2_gust_27 (by decide) ?_
          exact xretM hx hb hr hlk dX2_gust_29 hS () (by simp [A_gust, c_4, hn0, c_14, hclj, c_18, c_24, hzv]) (fun t ht => by rw [ht]; rw [show S_gust n fo we lo (nI j) v = lo from by simp [S_gust, c_4, hn0, c_14, hclj, c_18, c_24, hzv]]; exact hP)
  ·
    replace c_4 := bI_0.mp c_4
    replace c_4 := of_decide_eq_false c_4
    have hn0 : n = 0 := by omega
    refine lv_bipush (v := (-3)) hx hb dX2_gust_7 (by decide) ?_
    exact xretM hx hb hr hlk dX2_gust_9 hS () (by simp [A_gust, c_4, hn0]) (fun t ht => by rw [ht]; rw [show S_gust n fo we lo k v = lo from by simp [S_gust, c_4, hn0]]; exact hP)

set_option maxHeartbeats 4000000 in
set_option maxRecDepth 100000 in
theorem c_X2_rain (l : Launch) (D : va_G) (cI cS : ClassId) (ad : Nat → Nat) (sh : Nat → Bool) (sla : Nat → Nat) (sle : Nat → Nat) (sf : Nat → Nat → Int32) (n : Nat) (fo : Nat) (ki : Nat → Nat) (st : Nat → Nat) (we : Nat → Nat) (lo : Nat → Nat) (n2 : Nat) (go : Nat) (kj : Nat → Nat) (sj : Nat → Nat) (wj : Nat → Nat) (lj : Nat → Nat) (ti : Nat → Int32) (rc : Nat → Nat) (rv : Nat → Nat) (rd : Nat) (tr : Int32) (fa : Nat) (hnd : nd (adX ad)) (hn : n ≤ 8) (hfo : fo < 256) : Met l yX2_rain wsX2_rain ({ frames := 2, cells := 0, slots := 0, locals := 41 }) (PR D cI cS [.ref (ad 0)] (wX cI cS ad sh sla sle sf n fo ki st we lo n2 go kj sj wj lj ti rc rv rd tr fa)) (va_Qi (fun r (zz : Unit) => r = A_rain n fo) (fun (zz : Unit) t => va_P D vwCl (wX cI cS ad sh sla sle sf n (S_rain n fo) ki st we lo n2 go kj sj wj lj ti rc rv rd tr fa) t.heap) (AW (adX ad))) 0 0 (AW (adX ad)) := by
  refine startM (by decide) rfl (Nat.le_of_ble_eq_true rfl) hnd rfl ?_
  intro p e s m below meth c hx hb hr hts hown hlk hml hG hP hD hS ls hl
  have hl : lv_has ls 1 [(0, .ref (ad 0))] := hl
  have f20 := hts (.fieldLink RX2 20 "ChairBallot" "now" "LChairBallot$Row;") (by decide +kernel)
  have yX2 : ∀ w ∈ u_ws RX2 TX2 9, w.before _ s = true := fun w h => hts w ((by decide +kernel : ∀ w ∈ wsX20, w ∈ wsX2_rain) w h)
  have hF : CallFix p m c cX2_rain 1 s _ wsX2_rain RX2 := ⟨hx, hb, hml, hown, hts⟩
  refine lv_aload_n hx hb dX2_rain_0 rfl (lv_at hl 0 rfl) ?_
  refine xrd (va_runV (As := []) (rest := []) hF (c_X2_hasFront l D cI cS ad sh sla sle sf n fo ki st we lo n2 go kj sj wj lj ti rc rv rd tr fa (by first | assumption | omega)) (cwV 0 hts gX2_rain_X2_hasFront rfl rfl rfl hV_X2_hasFront ⟨Nat.le_of_ble_eq_true rfl, Nat.le_of_ble_eq_true rfl⟩) (PR.preV hG hP (ci := 2) rfl rfl) rfl rfl hl.1 rfl (lv_room (Nat.le_of_ble_eq_true rfl)) dX2_rain_1 ⟨Nat.le_refl _, Nat.le_refl _⟩) ?_
  refine lv_if_ne (tgt := 10) hx hb dX2_rain_4 (by decide) (fun c_4 => ?_) (fun c_4 => ?_)
  ·
    replace c_4 := bI_n0.mp c_4
    replace c_4 := of_decide_eq_true c_4
    have hn0 : ¬ n = 0 := by omega
    refine lv_aload_n hx hb dX2_rain_10 rfl (lv_at hl 0 rfl) ?_
    refine va_get (D := D) (ci := 2) (v := .ref (ad 10)) (C := RX2) (T := TX2) (N := 9) hx hb yX2 (fun _ h => h) hown hG.1 hP 0 rfl rfl 1 (by decide) f20 (fun _ h => h) rfl dX2_rain_11 ?_
    refine xmu (wc := (wRow cI (ad 10) (ad 11) (ad 12) (ad 13) (ad 14) n fo ki st we lo)) (va_runV (As := []) (rest := []) hF (c_X0_foldedByRain l D cI cS (ad 10) (ad 11) (ad 12) (ad 13) (ad 14) n fo ki st we lo (hnd.sub [10, 11, 12, 13, 14] (by decide) rfl) (by first | assumption | omega) (by first | assumption | omega)) (cwV 0 hts gX2_rain_X0_foldedByRain rfl rfl rfl hV_X0_foldedByRain ⟨Nat.le_of_ble_eq_true rfl, Nat.le_of_ble_eq_true rfl⟩) (PR.preV hG (hP.sub (ws' := (wRow cI (ad 10) (ad 11) (ad 12) (ad 13) (ad 14) n fo ki st we lo)) [10, 11, 12, 13, 14] rfl) (ci := 0) rfl rfl) rfl rfl hl.1 rfl (lv_room (Nat.le_of_ble_eq_true rfl)) dX2_rain_14 ⟨Nat.le_refl _, Nat.le_refl _⟩) hP hD hS [10, 11, 12, 13, 14] rfl rfl (fun _ => rfl) (fun r_14 u_14 H locs q_14 hP hD hS => ?_)
    try dsimp only at q_14 hP hD
    have e_14 := q_14
    subst e_14
    have hP : va_P D vwCl (wX cI cS ad sh sla sle sf n (2 ^ n - 1) ki st we lo n2 go kj sj wj lj ti rc rv rd tr fa) H := hP
    have hD : va_D (AW (adX ad)) (wX cI cS ad sh sla sle sf n (2 ^ n - 1) ki st we lo n2 go kj sj wj lj ti rc rv rd tr fa) := hD
    exact xretM hx hb hr hlk dX2_rain_17 hS () (by simp [A_rain, c_4, hn0]) (fun t ht => by rw [ht]; rw [show S_rain n fo = (2 ^ n - 1) from by simp [S_rain, c_4, hn0]]; exact hP)
  ·
    replace c_4 := bI_0.mp c_4
    replace c_4 := of_decide_eq_false c_4
    have hn0 : n = 0 := by omega
    refine lv_bipush (v := (-3)) hx hb dX2_rain_7 (by decide) ?_
    exact xretM hx hb hr hlk dX2_rain_9 hS () (by simp [A_rain, c_4, hn0]) (fun t ht => by rw [ht]; rw [show S_rain n fo = fo from by simp [S_rain, c_4, hn0]]; exact hP)

set_option maxHeartbeats 4000000 in
set_option maxRecDepth 100000 in
theorem c_X2_open (l : Launch) (D : va_G) (cI cS : ClassId) (ad : Nat → Nat) (sh : Nat → Bool) (sla : Nat → Nat) (sle : Nat → Nat) (sf : Nat → Nat → Int32) (n : Nat) (fo : Nat) (ki : Nat → Nat) (st : Nat → Nat) (we : Nat → Nat) (lo : Nat → Nat) (n2 : Nat) (go : Nat) (kj : Nat → Nat) (sj : Nat → Nat) (wj : Nat → Nat) (lj : Nat → Nat) (ti : Nat → Int32) (rc : Nat → Nat) (rv : Nat → Nat) (rd : Nat) (tr : Int32) (fa : Nat) (k : Int32) (hnd : nd (adX ad)) (hn : n ≤ 8) (hfo : fo < 256) : Met l yX2_open wsX2_open ({ frames := 2, cells := 0, slots := 0, locals := 42 }) (PR D cI cS [.ref (ad 0), .int k] (wX cI cS ad sh sla sle sf n fo ki st we lo n2 go kj sj wj lj ti rc rv rd tr fa)) (va_Qi (fun r (zz : Unit) => r = A_open n fo k) (fun (zz : Unit) t => va_P D vwCl (wX cI cS ad sh sla sle sf n (S_open n fo k) ki st we lo n2 go kj sj wj lj ti rc rv rd tr fa) t.heap) (AW (adX ad))) 0 0 (AW (adX ad)) := by
  refine startM (by decide) rfl (Nat.le_of_ble_eq_true rfl) hnd rfl ?_
  intro p e s m below meth c hx hb hr hts hown hlk hml hG hP hD hS ls hl
  have hl : lv_has ls 2 [(0, .ref (ad 0)), (1, .int k)] := hl
  have f20 := hts (.fieldLink RX2 20 "ChairBallot" "now" "LChairBallot$Row;") (by decide +kernel)
  have f136 := hts (.fieldLink RX2 136 "ChairBallot$Row" "folded" "I") (by decide +kernel)
  have yX0 : ∀ w ∈ u_ws RX0 TX0 6, w.before _ s = true := fun w h => hts w ((by decide +kernel : ∀ w ∈ wsX00, w ∈ wsX2_open) w h)
  have yX2 : ∀ w ∈ u_ws RX2 TX2 9, w.before _ s = true := fun w h => hts w ((by decide +kernel : ∀ w ∈ wsX20, w ∈ wsX2_open) w h)
  have hF : CallFix p m c cX2_open 2 s _ wsX2_open RX2 := ⟨hx, hb, hml, hown, hts⟩
  refine lv_aload_n hx hb dX2_open_0 rfl (lv_at hl 0 rfl) ?_
  refine va_get (D := D) (ci := 2) (v := .ref (ad 10)) (C := RX2) (T := TX2) (N := 9) hx hb yX2 (fun _ h => h) hown hG.1 hP 0 rfl rfl 1 (by decide) f20 (fun _ h => h) rfl dX2_open_1 ?_
  refine lv_iload_n hx hb dX2_open_4 rfl (lv_at hl 1 rfl) ?_
  refine xrd (va_runV (As := [.int k]) (rest := []) hF (c_X0_has l D cI cS (ad 10) (ad 11) (ad 12) (ad 13) (ad 14) n fo ki st we lo k (by first | assumption | omega)) (cwV 1 hts gX2_open_X0_has rfl rfl rfl hV_X0_has ⟨Nat.le_of_ble_eq_true rfl, Nat.le_of_ble_eq_true rfl⟩) (PR.preV hG (hP.sub (ws' := (wRow cI (ad 10) (ad 11) (ad 12) (ad 13) (ad 14) n fo ki st we lo)) [10, 11, 12, 13, 14] rfl) (ci := 0) rfl rfl) rfl rfl hl.1 rfl (lv_room (Nat.le_of_ble_eq_true rfl)) dX2_open_5 ⟨Nat.le_refl _, Nat.le_refl _⟩) ?_
  refine lv_if_ne (tgt := 13) hx hb dX2_open_8 (by decide) (fun c_8 => ?_) (fun c_8 => ?_)
  ·
    replace c_8 := bI_n0.mp c_8
    obtain ⟨j, hj, rfl⟩ := hasB_t c_8
    have hclj := cl8 (j := j) (by omega)
    refine lv_aload_n hx hb dX2_open_13 rfl (lv_at hl 0 rfl) ?_
    refine va_get (D := D) (ci := 2) (v := .ref (ad 10)) (C := RX2) (T := TX2) (N := 9) hx hb yX2 (fun _ h => h) hown hG.1 hP 0 rfl rfl 1 (by decide) f20 (fun _ h => h) rfl dX2_open_14 ?_
    refine lv_iload_n hx hb dX2_open_17 rfl (lv_at hl 1 rfl) ?_
    refine xmu (wc := (wRow cI (ad 10) (ad 11) (ad 12) (ad 13) (ad 14) n fo ki st we lo)) (va_runV (As := [.int (nI j)]) (rest := []) hF (c_X0_opened l D cI cS (ad 10) (ad 11) (ad 12) (ad 13) (ad 14) n fo ki st we lo j (hnd.sub [10, 11, 12, 13, 14] (by decide) rfl) (by first | assumption | omega) (by first | assumption | omega) (by first | assumption | omega)) (cwV 1 hts gX2_open_X0_opened rfl rfl rfl hV_X0_opened ⟨Nat.le_of_ble_eq_true rfl, Nat.le_of_ble_eq_true rfl⟩) (PR.preV hG (hP.sub (ws' := (wRow cI (ad 10) (ad 11) (ad 12) (ad 13) (ad 14) n fo ki st we lo)) [10, 11, 12, 13, 14] rfl) (ci := 0) rfl rfl) rfl rfl hl.1 rfl (lv_room (Nat.le_of_ble_eq_true rfl)) dX2_open_18 ⟨Nat.le_refl _, Nat.le_refl _⟩) hP hD hS [10, 11, 12, 13, 14] rfl rfl (fun _ => rfl) (fun r_18 u_18 H locs q_18 hP hD hS => ?_)
    try dsimp only at q_18 hP hD
    have e_18 := q_18
    subst e_18
    have hP : va_P D vwCl (wX cI cS ad sh sla sle sf n (opn fo j) ki st we lo n2 go kj sj wj lj ti rc rv rd tr fa) H := hP
    have hD : va_D (AW (adX ad)) (wX cI cS ad sh sla sle sf n (opn fo j) ki st we lo n2 go kj sj wj lj ti rc rv rd tr fa) := hD
    refine lv_if_ne (tgt := 27) hx hb dX2_open_21 (by decide) (fun c_21 => ?_) (fun c_21 => ?_)
    ·
      replace c_21 := bI_n0.mp c_21
      refine lv_aload_n hx hb dX2_open_27 rfl (lv_at hl 0 rfl) ?_
      refine va_get (D := D) (ci := 2) (v := .ref (ad 10)) (C := RX2) (T := TX2) (N := 9) hx hb yX2 (fun _ h => h) hown hG.1 hP 0 rfl rfl 1 (by decide) f20 (fun _ h => h) rfl dX2_open_28 ?_
      refine va_get (D := D) (ci := 0) (v := .int (nI (opn fo j))) (C := RX0) (T := TX0) (N := 6) hx hb yX0 (fun _ h => h) hown hG.1 hP 10 rfl rfl 5 (by decide) f136 (fun _ h => h) rfl dX2_open_31 ?_
      refine xrd (va_runS (As := [.int (nI (opn fo j))]) (rest := []) hF (c_J6_bitCount l D cI cS (opn fo j) (by exact opn_lt hfo (by omega))) (va_cwS 1 hts gX2_open_J6_bitCount_0f7a4 rfl rfl rfl hD_J6_bitCount_0f7a4 ⟨Nat.le_of_ble_eq_true rfl, Nat.le_of_ble_eq_true rfl⟩) (PR.pre hG (hP.sub (ws' := []) [] rfl)) rfl rfl hl.1 rfl (lv_room (Nat.le_of_ble_eq_true rfl)) dX2_open_34 ⟨Nat.le_refl _, Nat.le_refl _⟩) ?_
      exact xretM hx hb hr hlk dX2_open_37 hS () (by first | (simp [A_open, c_8, hclj, c_21]; done) | (simp [A_open, opn, c_8, hclj, c_21]; done)) (fun t ht => by rw [ht]; rw [show S_open n fo (nI j) = (opn fo j) from by simp [S_open, c_8, hclj, c_21]]; exact hP)
    ·
      replace c_21 := bI_0.mp c_21
      refine lv_bipush (v := (-3)) hx hb dX2_open_24 (by decide) ?_
      exact xretM hx hb hr hlk dX2_open_26 hS () (by first | (simp [A_open, c_8, hclj, c_21]; done) | (simp [A_open, opn, c_8, hclj, c_21]; done)) (fun t ht => by rw [ht]; rw [show S_open n fo (nI j) = (opn fo j) from by simp [S_open, c_8, hclj, c_21]]; exact hP)
  ·
    replace c_8 := bI_0.mp c_8
    refine lv_iconst (v := (-1)) hx hb dX2_open_11 (by decide) ?_
    exact xretM hx hb hr hlk dX2_open_12 hS () (by first | (simp [A_open, c_8]; done) | (simp [A_open, opn, c_8]; done)) (fun t ht => by rw [ht]; rw [show S_open n fo k = fo from by simp [S_open, c_8]]; exact hP)

set_option maxHeartbeats 4000000 in
set_option maxRecDepth 100000 in
theorem c_X2_reading (l : Launch) (D : va_G) (cI cS : ClassId) (ad : Nat → Nat) (sh : Nat → Bool) (sla : Nat → Nat) (sle : Nat → Nat) (sf : Nat → Nat → Int32) (n : Nat) (fo : Nat) (ki : Nat → Nat) (st : Nat → Nat) (we : Nat → Nat) (lo : Nat → Nat) (n2 : Nat) (go : Nat) (kj : Nat → Nat) (sj : Nat → Nat) (wj : Nat → Nat) (lj : Nat → Nat) (ti : Nat → Int32) (rc : Nat → Nat) (rv : Nat → Nat) (rd : Nat) (tr : Int32) (fa : Nat) (k : Int32) (v : Int32) (hnd : nd (adX ad)) (hn : n ≤ 8) (hrd : rd ≤ 8) : Met l yX2_reading wsX2_reading ({ frames := 1, cells := 0, slots := 0, locals := 21 }) (PR D cI cS [.ref (ad 0), .int k, .int v] (wX cI cS ad sh sla sle sf n fo ki st we lo n2 go kj sj wj lj ti rc rv rd tr fa)) (va_Qi (fun r (zz : Unit) => r = A_reading n rd k v) (fun (zz : Unit) t => va_P D vwCl (wX cI cS ad sh sla sle sf n fo ki st we lo n2 go kj sj wj lj ti (C_reading n rd rc k v) (V_reading n rd rv k v) (S_reading n rd k v) tr fa) t.heap) (AW (adX ad))) 0 0 (AW (adX ad)) := by
  refine startM (by decide) rfl (Nat.le_of_ble_eq_true rfl) hnd rfl ?_
  intro p e s m below meth c hx hb hr hts hown hlk hml hG hP hD hS ls hl
  have hl : lv_has ls 3 [(0, .ref (ad 0)), (1, .int k), (2, .int v)] := hl
  have f20 := hts (.fieldLink RX2 20 "ChairBallot" "now" "LChairBallot$Row;") (by decide +kernel)
  have f37 := hts (.fieldLink RX2 37 "ChairBallot" "readings" "I") (by decide +kernel)
  have f31 := hts (.fieldLink RX2 31 "ChairBallot" "readChair" "[I") (by decide +kernel)
  have f34 := hts (.fieldLink RX2 34 "ChairBallot" "readVotes" "[I") (by decide +kernel)
  have yX2 : ∀ w ∈ u_ws RX2 TX2 9, w.before _ s = true := fun w h => hts w ((by decide +kernel : ∀ w ∈ wsX20, w ∈ wsX2_reading) w h)
  have hF : CallFix p m c cX2_reading 3 s _ wsX2_reading RX2 := ⟨hx, hb, hml, hown, hts⟩
  refine lv_aload_n hx hb dX2_reading_0 rfl (lv_at hl 0 rfl) ?_
  refine va_get (D := D) (ci := 2) (v := .ref (ad 10)) (C := RX2) (T := TX2) (N := 9) hx hb yX2 (fun _ h => h) hown hG.1 hP 0 rfl rfl 1 (by decide) f20 (fun _ h => h) rfl dX2_reading_1 ?_
  refine lv_iload_n hx hb dX2_reading_4 rfl (lv_at hl 1 rfl) ?_
  refine xrd (va_runV (As := [.int k]) (rest := []) hF (c_X0_has l D cI cS (ad 10) (ad 11) (ad 12) (ad 13) (ad 14) n fo ki st we lo k (by first | assumption | omega)) (cwV 1 hts gX2_reading_X0_has rfl rfl rfl hV_X0_has ⟨Nat.le_of_ble_eq_true rfl, Nat.le_of_ble_eq_true rfl⟩) (PR.preV hG (hP.sub (ws' := (wRow cI (ad 10) (ad 11) (ad 12) (ad 13) (ad 14) n fo ki st we lo)) [10, 11, 12, 13, 14] rfl) (ci := 0) rfl rfl) rfl rfl hl.1 rfl (lv_room (Nat.le_of_ble_eq_true rfl)) dX2_reading_5 ⟨Nat.le_refl _, Nat.le_refl _⟩) ?_
  refine lv_if_ne (tgt := 13) hx hb dX2_reading_8 (by decide) (fun c_8 => ?_) (fun c_8 => ?_)
  ·
    replace c_8 := bI_n0.mp c_8
    obtain ⟨j, hj, rfl⟩ := hasB_t c_8
    have hclj := cl8 (j := j) (by omega)
    refine lv_iload_n hx hb dX2_reading_13 rfl (lv_at hl 2 rfl) ?_
    refine lv_if_lt (tgt := 23) hx hb dX2_reading_14 (by decide) (fun c_14 => ?_) (fun c_14 => ?_)
    ·
      replace c_14 : v.toInt < 0 := (i32_ltc (b := 0) (by omega)).mp c_14
      have hzv : rgB 0 10 v = false := by first | exact rgB_n1 (by omega) | exact rgB_n2 (by omega)
      refine lv_bipush (v := (-2)) hx hb dX2_reading_23 (by decide) ?_
      exact xretM hx hb hr hlk dX2_reading_25 hS () (by simp [A_reading, c_8, hclj, c_14, hzv]) (fun t ht => by rw [ht]; rw [show C_reading n rd rc (nI j) v = rc from by simp [C_reading, okReading, c_8, hclj, c_14, hzv]]; rw [show V_reading n rd rv (nI j) v = rv from by simp [V_reading, okReading, c_8, hclj, c_14, hzv]]; rw [show S_reading n rd (nI j) v = rd from by simp [S_reading, okReading, c_8, hclj, c_14, hzv]]; exact hP)
    ·
      replace c_14 : ¬ v.toInt < 0 := (not_congr (i32_ltc (b := 0) (by omega))).mp c_14
      refine lv_iload_n hx hb dX2_reading_17 rfl (lv_at hl 2 rfl) ?_
      refine lv_bipush (v := nI 10) hx hb dX2_reading_18 (by decide) ?_
      refine lv_icmp_le (tgt := 26) hx hb dX2_reading_20 (by decide) (fun c_20 => ?_) (fun c_20 => ?_)
      ·
        replace c_20 : v.toInt ≤ 10 := (i32_lec (b := 10) (by omega)).mp c_20
        have hzv : rgB 0 10 v = true := rgB_y (by omega) (by omega)
        obtain ⟨w, hw0, hw1, rfl⟩ := rgB_nat (by decide) hzv
        have hclw := cl8 (j := w) (by omega)
        refine lv_aload_n hx hb dX2_reading_26 rfl (lv_at hl 0 rfl) ?_
        refine va_get (D := D) (ci := 2) (v := .int (nI rd)) (C := RX2) (T := TX2) (N := 9) hx hb yX2 (fun _ h => h) hown hG.1 hP 0 rfl rfl 6 (by decide) f37 (fun _ h => h) rfl dX2_reading_27 ?_
        refine lv_bipush (v := nI 8) hx hb dX2_reading_30 (by decide) ?_
        refine lv_icmp_lt (tgt := 38) hx hb dX2_reading_32 (by decide) (fun c_32 => ?_) (fun c_32 => ?_)
        ·
          replace c_32 := (nI_ltI (a := rd) (b := 8) (by omega) (by omega)).mp c_32
          have h8 : ¬ rd = 8 := by omega
          refine lv_aload_n hx hb dX2_reading_38 rfl (lv_at hl 0 rfl) ?_
          refine va_get (D := D) (ci := 2) (v := .ref (ad 21)) (C := RX2) (T := TX2) (N := 9) hx hb yX2 (fun _ h => h) hown hG.1 hP 0 rfl rfl 4 (by decide) f31 (fun _ h => h) rfl dX2_reading_39 ?_
          refine lv_aload_n hx hb dX2_reading_42 rfl (lv_at hl 0 rfl) ?_
          refine va_get (D := D) (ci := 2) (v := .int (nI rd)) (C := RX2) (T := TX2) (N := 9) hx hb yX2 (fun _ h => h) hown hG.1 hP 0 rfl rfl 6 (by decide) f37 (fun _ h => h) rfl dX2_reading_43 ?_
          refine lv_iload_n hx hb dX2_reading_46 rfl (lv_at hl 1 rfl) ?_
          refine xastN hx hb hG hP hD hS 21 rfl (rd) (j) rfl rfl (by omega) (by decide) dX2_reading_47 (fun H locs hP hD hS => ?_)
          have hP : va_P D vwCl (wX cI cS ad sh sla sle sf n fo ki st we lo n2 go kj sj wj lj ti (updN rc rd j) rv rd tr fa) H := hP
          have hD : va_D (AW (adX ad)) (wX cI cS ad sh sla sle sf n fo ki st we lo n2 go kj sj wj lj ti (updN rc rd j) rv rd tr fa) := hD
          refine lv_aload_n hx hb dX2_reading_48 rfl (lv_at hl 0 rfl) ?_
          refine va_get (D := D) (ci := 2) (v := .ref (ad 22)) (C := RX2) (T := TX2) (N := 9) hx hb yX2 (fun _ h => h) hown hG.1 hP 0 rfl rfl 5 (by decide) f34 (fun _ h => h) rfl dX2_reading_49 ?_
          refine lv_aload_n hx hb dX2_reading_52 rfl (lv_at hl 0 rfl) ?_
          refine va_get (D := D) (ci := 2) (v := .int (nI rd)) (C := RX2) (T := TX2) (N := 9) hx hb yX2 (fun _ h => h) hown hG.1 hP 0 rfl rfl 6 (by decide) f37 (fun _ h => h) rfl dX2_reading_53 ?_
          refine lv_iload_n hx hb dX2_reading_56 rfl (lv_at hl 2 rfl) ?_
          refine xastN hx hb hG hP hD hS 22 rfl (rd) (w) rfl rfl (by omega) (by decide) dX2_reading_57 (fun H locs hP hD hS => ?_)
          have hP : va_P D vwCl (wX cI cS ad sh sla sle sf n fo ki st we lo n2 go kj sj wj lj ti (updN rc rd j) (updN rv rd w) rd tr fa) H := hP
          have hD : va_D (AW (adX ad)) (wX cI cS ad sh sla sle sf n fo ki st we lo n2 go kj sj wj lj ti (updN rc rd j) (updN rv rd w) rd tr fa) := hD
          refine lv_aload_n hx hb dX2_reading_58 rfl (lv_at hl 0 rfl) ?_
          refine lv_dup hx hb dX2_reading_59 rfl ?_
          refine va_get (D := D) (ci := 2) (v := .int (nI rd)) (C := RX2) (T := TX2) (N := 9) hx hb yX2 (fun _ h => h) hown hG.1 hP 0 rfl rfl 6 (by decide) f37 (fun _ h => h) rfl dX2_reading_60 ?_
          refine lv_iconst (v := nI 1) hx hb dX2_reading_63 (by decide) ?_
          refine xaddN hx hb dX2_reading_64 ?_
          refine va_put (D := D) (ci := 2) (v := .int (nI (rd + 1))) (ty := .int) (C := RX2) (T := TX2) (N := 9) hx hb yX2 (fun _ h => h) tyX2 tyX2_ok nmX2 hown hG.1 hP hD hS 0 rfl rfl 6 (by decide) f37 (fun _ h => h) rfl (by decide +kernel) rfl rfl (Nat.le_of_ble_eq_true rfl) dX2_reading_65 (fun H locs hP hD hS => ?_)
          have hP : va_P D vwCl (wX cI cS ad sh sla sle sf n fo ki st we lo n2 go kj sj wj lj ti (updN rc rd j) (updN rv rd w) (rd + 1) tr fa) H := hP
          have hD : va_D (AW (adX ad)) (wX cI cS ad sh sla sle sf n fo ki st we lo n2 go kj sj wj lj ti (updN rc rd j) (updN rv rd w) (rd + 1) tr fa) := hD
          refine lv_aload_n hx hb dX2_reading_68 rfl (lv_at hl 0 rfl) ?_
          refine va_get (D := D) (ci := 2) (v := .int (nI (rd + 1))) (C := RX2) (T := TX2) (N := 9) hx hb yX2 (fun _ h => h) hown hG.1 hP 0 rfl rfl 6 (by decide) f37 (fun _ h => h) rfl dX2_reading_69 ?_
          refine lv_iconst (v := nI 1) hx hb dX2_reading_72 (by decide) ?_
          refine xsubN (x := rd + 1) (y := 1) hx hb (by omega) dX2_reading_73 ?_
          exact xretM hx hb hr hlk dX2_reading_74 hS () (by simp [A_reading, c_8, hclj, c_14, c_20, hzv, hclw, c_32, h8]) (fun t ht => by rw [ht]; rw [show C_reading n rd rc (nI j) (nI w) = (updN rc rd j) from by simp [C_reading, okReading, c_8, hclj, c_14, c_20, hzv, hclw, c_32, h8]]; rw [show V_reading n rd rv (nI j) (nI w) = (updN rv rd w) from by simp [V_reading, okReading, c_8, hclj, c_14, c_20, hzv, hclw, c_32, h8]]; rw [show S_reading n rd (nI j) (nI w) = (rd + 1) from by simp [S_reading, okReading, c_8, hclj, c_14, c_20, hzv, hclw, c_32, h8]]; exact hP)
        ·
          replace c_32 := (not_congr (nI_ltI (a := rd) (b := 8) (by omega) (by omega))).mp c_32
          have h8 : rd = 8 := by omega
          refine lv_bipush (v := (-4)) hx hb dX2_reading_35 (by decide) ?_
          exact xretM hx hb hr hlk dX2_reading_37 hS () (by simp [A_reading, c_8, hclj, c_14, c_20, hzv, hclw, c_32, h8]) (fun t ht => by rw [ht]; rw [show C_reading n rd rc (nI j) (nI w) = rc from by simp [C_reading, okReading, c_8, hclj, c_14, c_20, hzv, hclw, c_32, h8]]; rw [show V_reading n rd rv (nI j) (nI w) = rv from by simp [V_reading, okReading, c_8, hclj, c_14, c_20, hzv, hclw, c_32, h8]]; rw [show S_reading n rd (nI j) (nI w) = rd from by simp [S_reading, okReading, c_8, hclj, c_14, c_20, hzv, hclw, c_32, h8]]; exact hP)
      ·
        replace c_20 : ¬ v.toInt ≤ 10 := (not_congr (i32_lec (b := 10) (by omega))).mp c_20
        have hzv : rgB 0 10 v = false := by first | exact rgB_n1 (by omega) | exact rgB_n2 (by omega)
        refine lv_bipush (v := (-2)) hx hb dX2_reading_23 (by decide) ?_
        exact xretM hx hb hr hlk dX2_reading_25 hS () (by simp [A_reading, c_8, hclj, c_14, c_20, hzv]) (fun t ht => by rw [ht]; rw [show C_reading n rd rc (nI j) v = rc from by simp [C_reading, okReading, c_8, hclj, c_14, c_20, hzv]]; rw [show V_reading n rd rv (nI j) v = rv from by simp [V_reading, okReading, c_8, hclj, c_14, c_20, hzv]]; rw [show S_reading n rd (nI j) v = rd from by simp [S_reading, okReading, c_8, hclj, c_14, c_20, hzv]]; exact hP)
  ·
    replace c_8 := bI_0.mp c_8
    refine lv_iconst (v := (-1)) hx hb dX2_reading_11 (by decide) ?_
    exact xretM hx hb hr hlk dX2_reading_12 hS () (by simp [A_reading, c_8]) (fun t ht => by rw [ht]; rw [show C_reading n rd rc k v = rc from by simp [C_reading, okReading, c_8]]; rw [show V_reading n rd rv k v = rv from by simp [V_reading, okReading, c_8]]; rw [show S_reading n rd k v = rd from by simp [S_reading, okReading, c_8]]; exact hP)

set_option maxHeartbeats 4000000 in
set_option maxRecDepth 100000 in
theorem c_X2_back (l : Launch) (D : va_G) (cI cS : ClassId) (ad : Nat → Nat) (sh : Nat → Bool) (sla : Nat → Nat) (sle : Nat → Nat) (sf : Nat → Nat → Int32) (n : Nat) (fo : Nat) (ki : Nat → Nat) (st : Nat → Nat) (we : Nat → Nat) (lo : Nat → Nat) (n2 : Nat) (go : Nat) (kj : Nat → Nat) (sj : Nat → Nat) (wj : Nat → Nat) (lj : Nat → Nat) (ti : Nat → Int32) (rc : Nat → Nat) (rv : Nat → Nat) (rd : Nat) (tr : Int32) (fa : Nat) (k : Int32) (hnd : nd (adX ad)) (hrd : rd ≤ 8) : Met l yX2_back wsX2_back ({ frames := 0, cells := 0, slots := 0, locals := 0 }) (PR D cI cS [.ref (ad 0), .int k] (wX cI cS ad sh sla sle sf n fo ki st we lo n2 go kj sj wj lj ti rc rv rd tr fa)) (va_Qi (fun r (zz : Unit) => r = A_back rd k) (fun (zz : Unit) t => va_P D vwCl (wX cI cS ad sh sla sle sf n fo ki st we lo n2 go kj sj wj lj ti rc rv (S_back rd k) tr fa) t.heap) (AW (adX ad))) 0 0 (AW (adX ad)) := by
  refine startM (by decide) rfl (Nat.le_of_ble_eq_true rfl) hnd rfl ?_
  intro p e s m below meth c hx hb hr hts hown hlk hml hG hP hD hS ls hl
  have hl : lv_has ls 2 [(0, .ref (ad 0)), (1, .int k)] := hl
  have f37 := hts (.fieldLink RX2 37 "ChairBallot" "readings" "I") (by decide +kernel)
  have yX2 : ∀ w ∈ u_ws RX2 TX2 9, w.before _ s = true := fun w h => hts w ((by decide +kernel : ∀ w ∈ wsX20, w ∈ wsX2_back) w h)
  have hF : CallFix p m c cX2_back 2 s _ wsX2_back RX2 := ⟨hx, hb, hml, hown, hts⟩
  refine lv_iload_n hx hb dX2_back_0 rfl (lv_at hl 1 rfl) ?_
  refine lv_if_lt (tgt := 12) hx hb dX2_back_1 (by decide) (fun c_1 => ?_) (fun c_1 => ?_)
  ·
    replace c_1 : k.toInt < 0 := (i32_ltc (b := 0) (by omega)).mp c_1
    have hzk : rgB 0 rd k = false := by first | exact rgB_n1 (by omega) | exact rgB_n2 (by omega)
    refine lv_bipush (v := (-2)) hx hb dX2_back_12 (by decide) ?_
    exact xretM hx hb hr hlk dX2_back_14 hS () (by simp [A_back, c_1, hzk]) (fun t ht => by rw [ht]; rw [show S_back rd k = rd from by simp [S_back, c_1, hzk]]; exact hP)
  ·
    replace c_1 : ¬ k.toInt < 0 := (not_congr (i32_ltc (b := 0) (by omega))).mp c_1
    refine lv_iload_n hx hb dX2_back_4 rfl (lv_at hl 1 rfl) ?_
    refine lv_aload_n hx hb dX2_back_5 rfl (lv_at hl 0 rfl) ?_
    refine va_get (D := D) (ci := 2) (v := .int (nI rd)) (C := RX2) (T := TX2) (N := 9) hx hb yX2 (fun _ h => h) hown hG.1 hP 0 rfl rfl 6 (by decide) f37 (fun _ h => h) rfl dX2_back_6 ?_
    refine lv_icmp_le (tgt := 15) hx hb dX2_back_9 (by decide) (fun c_9 => ?_) (fun c_9 => ?_)
    ·
      replace c_9 : k.toInt ≤ ((rd : Nat) : Int) := (i32_lec (b := rd) (by omega)).mp c_9
      have hzk : rgB 0 rd k = true := rgB_y (by omega) (by omega)
      obtain ⟨j, hj0, hj1, rfl⟩ := rgB_nat (by decide) hzk
      have hcl := cl8 (j := j) (by omega)
      refine lv_aload_n hx hb dX2_back_15 rfl (lv_at hl 0 rfl) ?_
      refine lv_dup hx hb dX2_back_16 rfl ?_
      refine va_get (D := D) (ci := 2) (v := .int (nI rd)) (C := RX2) (T := TX2) (N := 9) hx hb yX2 (fun _ h => h) hown hG.1 hP 0 rfl rfl 6 (by decide) f37 (fun _ h => h) rfl dX2_back_17 ?_
      refine lv_iload_n hx hb dX2_back_20 rfl (lv_at hl 1 rfl) ?_
      refine xsubN (x := rd) (y := j) hx hb (by omega) dX2_back_21 ?_
      refine va_put (D := D) (ci := 2) (v := .int (nI (rd - j))) (ty := .int) (C := RX2) (T := TX2) (N := 9) hx hb yX2 (fun _ h => h) tyX2 tyX2_ok nmX2 hown hG.1 hP hD hS 0 rfl rfl 6 (by decide) f37 (fun _ h => h) rfl (by decide +kernel) rfl rfl (Nat.le_of_ble_eq_true rfl) dX2_back_22 (fun H locs hP hD hS => ?_)
      have hP : va_P D vwCl (wX cI cS ad sh sla sle sf n fo ki st we lo n2 go kj sj wj lj ti rc rv (rd - j) tr fa) H := hP
      have hD : va_D (AW (adX ad)) (wX cI cS ad sh sla sle sf n fo ki st we lo n2 go kj sj wj lj ti rc rv (rd - j) tr fa) := hD
      refine lv_aload_n hx hb dX2_back_25 rfl (lv_at hl 0 rfl) ?_
      refine va_get (D := D) (ci := 2) (v := .int (nI (rd - j))) (C := RX2) (T := TX2) (N := 9) hx hb yX2 (fun _ h => h) hown hG.1 hP 0 rfl rfl 6 (by decide) f37 (fun _ h => h) rfl dX2_back_26 ?_
      exact xretM hx hb hr hlk dX2_back_29 hS () (by simp [A_back, c_1, c_9, hzk, hcl]) (fun t ht => by rw [ht]; rw [show S_back rd (nI j) = (rd - j) from by simp [S_back, c_1, c_9, hzk, hcl]]; exact hP)
    ·
      replace c_9 : ¬ k.toInt ≤ ((rd : Nat) : Int) := (not_congr (i32_lec (b := rd) (by omega))).mp c_9
      have hzk : rgB 0 rd k = false := by first | exact rgB_n1 (by omega) | exact rgB_n2 (by omega)
      refine lv_bipush (v := (-2)) hx hb dX2_back_12 (by decide) ?_
      exact xretM hx hb hr hlk dX2_back_14 hS () (by simp [A_back, c_1, c_9, hzk]) (fun t ht => by rw [ht]; rw [show S_back rd k = rd from by simp [S_back, c_1, c_9, hzk]]; exact hP)

set_option maxHeartbeats 4000000 in
set_option maxRecDepth 100000 in
theorem c_X2_leaveInTrace (l : Launch) (D : va_G) (cI cS : ClassId) (ad : Nat → Nat) (sh : Nat → Bool) (sla : Nat → Nat) (sle : Nat → Nat) (sf : Nat → Nat → Int32) (n : Nat) (fo : Nat) (ki : Nat → Nat) (st : Nat → Nat) (we : Nat → Nat) (lo : Nat → Nat) (n2 : Nat) (go : Nat) (kj : Nat → Nat) (sj : Nat → Nat) (wj : Nat → Nat) (lj : Nat → Nat) (ti : Nat → Int32) (rc : Nat → Nat) (rv : Nat → Nat) (rd : Nat) (tr : Int32) (fa : Nat) (b : Nat) (hnd : nd (adX ad)) : Met l yX2_leaveInTrace wsX2_leaveInTrace ({ frames := 0, cells := 0, slots := 0, locals := 0 }) (PR D cI cS [.ref (ad 0), .int (nI b)] (wX cI cS ad sh sla sle sf n fo ki st we lo n2 go kj sj wj lj ti rc rv rd tr fa)) (va_Qv (fun (zz : Unit) => True) (fun (zz : Unit) t => va_P D vwCl (wX cI cS ad sh sla sle sf n fo ki st we lo n2 go kj sj wj lj ti rc rv rd (tr1 tr b) fa) t.heap) (AW (adX ad))) 0 0 (AW (adX ad)) := by
  refine startM (by decide) rfl (Nat.le_of_ble_eq_true rfl) hnd rfl ?_
  intro p e s m below meth c hx hb hr hts hown hlk hml hG hP hD hS ls hl
  have hl : lv_has ls 2 [(0, .ref (ad 0)), (1, .int (nI b))] := hl
  have f41 := hts (.fieldLink RX2 41 "ChairBallot" "traced" "I") (by decide +kernel)
  have yX2 : ∀ w ∈ u_ws RX2 TX2 9, w.before _ s = true := fun w h => hts w ((by decide +kernel : ∀ w ∈ wsX20, w ∈ wsX2_leaveInTrace) w h)
  have hF : CallFix p m c cX2_leaveInTrace 2 s _ wsX2_leaveInTrace RX2 := ⟨hx, hb, hml, hown, hts⟩
  refine lv_aload_n hx hb dX2_leaveInTrace_0 rfl (lv_at hl 0 rfl) ?_
  refine lv_bipush (v := nI 31) hx hb dX2_leaveInTrace_1 (by decide) ?_
  refine lv_aload_n hx hb dX2_leaveInTrace_3 rfl (lv_at hl 0 rfl) ?_
  refine va_get (D := D) (ci := 2) (v := .int tr) (C := RX2) (T := TX2) (N := 9) hx hb yX2 (fun _ h => h) hown hG.1 hP 0 rfl rfl 7 (by decide) f41 (fun _ h => h) rfl dX2_leaveInTrace_4 ?_
  refine lv_imul hx hb dX2_leaveInTrace_7 ?_
  refine lv_iload_n hx hb dX2_leaveInTrace_8 rfl (lv_at hl 1 rfl) ?_
  refine lv_iadd hx hb dX2_leaveInTrace_9 ?_
  refine va_put (D := D) (ci := 2) (v := .int (((nI 31) * tr) + (nI b))) (ty := .int) (C := RX2) (T := TX2) (N := 9) hx hb yX2 (fun _ h => h) tyX2 tyX2_ok nmX2 hown hG.1 hP hD hS 0 rfl rfl 7 (by decide) f41 (fun _ h => h) rfl (by decide +kernel) rfl rfl (Nat.le_of_ble_eq_true rfl) dX2_leaveInTrace_10 (fun H locs hP hD hS => ?_)
  have hP : va_P D vwCl (wX cI cS ad sh sla sle sf n fo ki st we lo n2 go kj sj wj lj ti rc rv rd (((nI 31) * tr) + (nI b)) fa) H := hP
  have hD : va_D (AW (adX ad)) (wX cI cS ad sh sla sle sf n fo ki st we lo n2 go kj sj wj lj ti rc rv rd (((nI 31) * tr) + (nI b)) fa) := hD
  exact xretMv hx hb hr hlk dX2_leaveInTrace_13 hS () (by trivial) (fun t ht => by rw [ht]; rw [show tr1 tr b = (((nI 31) * tr) + (nI b)) from by simp only [tr1]]; exact hP)

set_option maxHeartbeats 4000000 in
set_option maxRecDepth 100000 in
theorem c_X2_toldAsPlain (l : Launch) (D : va_G) (cI cS : ClassId) (ad : Nat → Nat) (sh : Nat → Bool) (sla : Nat → Nat) (sle : Nat → Nat) (sf : Nat → Nat → Int32) (n : Nat) (fo : Nat) (ki : Nat → Nat) (st : Nat → Nat) (we : Nat → Nat) (lo : Nat → Nat) (n2 : Nat) (go : Nat) (kj : Nat → Nat) (sj : Nat → Nat) (wj : Nat → Nat) (lj : Nat → Nat) (ti : Nat → Int32) (rc : Nat → Nat) (rv : Nat → Nat) (rd : Nat) (tr : Int32) (fa : Nat) (w : Nat) (hnd : nd (adX ad)) : Met l yX2_toldAsPlain wsX2_toldAsPlain ({ frames := 1, cells := 0, slots := 0, locals := 21 }) (PR D cI cS [.ref (ad 0), .int (nI w)] (wX cI cS ad sh sla sle sf n fo ki st we lo n2 go kj sj wj lj ti rc rv rd tr fa)) (va_Qi (fun r (zz : Unit) => r = nI w) (fun (zz : Unit) t => va_P D vwCl (wX cI cS ad sh sla sle sf n fo ki st we lo n2 go kj sj wj lj ti rc rv rd (tr1 tr 1) fa) t.heap) (AW (adX ad))) 0 0 (AW (adX ad)) := by
  refine startM (by decide) rfl (Nat.le_of_ble_eq_true rfl) hnd rfl ?_
  intro p e s m below meth c hx hb hr hts hown hlk hml hG hP hD hS ls hl
  have hl : lv_has ls 2 [(0, .ref (ad 0)), (1, .int (nI w))] := hl
  have hF : CallFix p m c cX2_toldAsPlain 2 s _ wsX2_toldAsPlain RX2 := ⟨hx, hb, hml, hown, hts⟩
  refine lv_aload_n hx hb dX2_toldAsPlain_0 rfl (lv_at hl 0 rfl) ?_
  refine lv_iconst (v := nI 1) hx hb dX2_toldAsPlain_1 (by decide) ?_
  refine xmuWv (va_runV (As := [.int (nI 1)]) (rest := []) hF (c_X2_leaveInTrace l D cI cS ad sh sla sle sf n fo ki st we lo n2 go kj sj wj lj ti rc rv rd tr fa 1 hnd) (cwV 1 hts gX2_toldAsPlain_X2_leaveInTrace rfl rfl rfl hV_X2_leaveInTrace ⟨Nat.le_of_ble_eq_true rfl, Nat.le_of_ble_eq_true rfl⟩) (PR.preV hG hP (ci := 2) rfl rfl) rfl rfl hl.1 rfl (lv_room (Nat.le_of_ble_eq_true rfl)) dX2_toldAsPlain_2 ⟨Nat.le_refl _, Nat.le_refl _⟩) hD hS rfl (fun _ => rfl) (fun u_2 H locs q_2 hP hD hS => ?_)
  try dsimp only at q_2 hP hD
  have hP : va_P D vwCl (wX cI cS ad sh sla sle sf n fo ki st we lo n2 go kj sj wj lj ti rc rv rd (tr1 tr 1) fa) H := hP
  have hD : va_D (AW (adX ad)) (wX cI cS ad sh sla sle sf n fo ki st we lo n2 go kj sj wj lj ti rc rv rd (tr1 tr 1) fa) := hD
  refine lv_iload_n hx hb dX2_toldAsPlain_5 rfl (lv_at hl 1 rfl) ?_
  exact xretM hx hb hr hlk dX2_toldAsPlain_6 hS () (by rfl) (fun t ht => by rw [ht]; exact hP)

set_option maxHeartbeats 4000000 in
set_option maxRecDepth 100000 in
theorem c_X2_toldAsShaded (l : Launch) (D : va_G) (cI cS : ClassId) (ad : Nat → Nat) (sh : Nat → Bool) (sla : Nat → Nat) (sle : Nat → Nat) (sf : Nat → Nat → Int32) (n : Nat) (fo : Nat) (ki : Nat → Nat) (st : Nat → Nat) (we : Nat → Nat) (lo : Nat → Nat) (n2 : Nat) (go : Nat) (kj : Nat → Nat) (sj : Nat → Nat) (wj : Nat → Nat) (lj : Nat → Nat) (ti : Nat → Int32) (rc : Nat → Nat) (rv : Nat → Nat) (rd : Nat) (tr : Int32) (fa : Nat) (w : Nat) (hnd : nd (adX ad)) : Met l yX2_toldAsShaded wsX2_toldAsShaded ({ frames := 2, cells := 0, slots := 0, locals := 42 }) (PR D cI cS [.ref (ad 0), .int (nI w)] (wX cI cS ad sh sla sle sf n fo ki st we lo n2 go kj sj wj lj ti rc rv rd tr fa)) (va_Qi (fun r (zz : Unit) => r = nI (w + 100)) (fun (zz : Unit) t => va_P D vwCl (wX cI cS ad sh sla sle sf n fo ki st we lo n2 go kj sj wj lj ti rc rv rd (tr1 (tr1 tr 2) 1) fa) t.heap) (AW (adX ad))) 0 0 (AW (adX ad)) := by
  refine startM (by decide) rfl (Nat.le_of_ble_eq_true rfl) hnd rfl ?_
  intro p e s m below meth c hx hb hr hts hown hlk hml hG hP hD hS ls hl
  have hl : lv_has ls 2 [(0, .ref (ad 0)), (1, .int (nI w))] := hl
  have hF : CallFix p m c cX2_toldAsShaded 2 s _ wsX2_toldAsShaded RX2 := ⟨hx, hb, hml, hown, hts⟩
  refine lv_aload_n hx hb dX2_toldAsShaded_0 rfl (lv_at hl 0 rfl) ?_
  refine lv_iconst (v := nI 2) hx hb dX2_toldAsShaded_1 (by decide) ?_
  refine xmuWv (va_runV (As := [.int (nI 2)]) (rest := []) hF (c_X2_leaveInTrace l D cI cS ad sh sla sle sf n fo ki st we lo n2 go kj sj wj lj ti rc rv rd tr fa 2 hnd) (cwV 1 hts gX2_toldAsShaded_X2_leaveInTrace rfl rfl rfl hV_X2_leaveInTrace ⟨Nat.le_of_ble_eq_true rfl, Nat.le_of_ble_eq_true rfl⟩) (PR.preV hG hP (ci := 2) rfl rfl) rfl rfl hl.1 rfl (lv_room (Nat.le_of_ble_eq_true rfl)) dX2_toldAsShaded_2 ⟨Nat.le_refl _, Nat.le_refl _⟩) hD hS rfl (fun _ => rfl) (fun u_2 H locs q_2 hP hD hS => ?_)
  try dsimp only at q_2 hP hD
  have hP : va_P D vwCl (wX cI cS ad sh sla sle sf n fo ki st we lo n2 go kj sj wj lj ti rc rv rd (tr1 tr 2) fa) H := hP
  have hD : va_D (AW (adX ad)) (wX cI cS ad sh sla sle sf n fo ki st we lo n2 go kj sj wj lj ti rc rv rd (tr1 tr 2) fa) := hD
  refine lv_aload_n hx hb dX2_toldAsShaded_5 rfl (lv_at hl 0 rfl) ?_
  refine lv_iload_n hx hb dX2_toldAsShaded_6 rfl (lv_at hl 1 rfl) ?_
  refine xmuW (va_runV (As := [.int (nI w)]) (rest := []) hF (c_X2_toldAsPlain l D cI cS ad sh sla sle sf n fo ki st we lo n2 go kj sj wj lj ti rc rv rd (tr1 tr 2) fa w hnd) (cwV 1 hts gX2_toldAsShaded_X2_toldAsPlain rfl rfl rfl hV_X2_toldAsPlain ⟨Nat.le_of_ble_eq_true rfl, Nat.le_of_ble_eq_true rfl⟩) (PR.preV hG hP (ci := 2) rfl rfl) rfl rfl hl.1 rfl (lv_room (Nat.le_of_ble_eq_true rfl)) dX2_toldAsShaded_7 ⟨Nat.le_refl _, Nat.le_refl _⟩) hD hS rfl (fun _ => rfl) (fun r_7 u_7 H locs q_7 hP hD hS => ?_)
  try dsimp only at q_7 hP hD
  have e_7 := q_7
  subst e_7
  have hP : va_P D vwCl (wX cI cS ad sh sla sle sf n fo ki st we lo n2 go kj sj wj lj ti rc rv rd (tr1 (tr1 tr 2) 1) fa) H := hP
  have hD : va_D (AW (adX ad)) (wX cI cS ad sh sla sle sf n fo ki st we lo n2 go kj sj wj lj ti rc rv rd (tr1 (tr1 tr 2) 1) fa) := hD
  refine lv_bipush (v := nI 100) hx hb dX2_toldAsShaded_10 (by decide) ?_
  refine xaddN hx hb dX2_toldAsShaded_12 ?_
  exact xretM hx hb hr hlk dX2_toldAsShaded_13 hS () (by rfl) (fun t ht => by rw [ht]; exact hP)

set_option maxHeartbeats 4000000 in
set_option maxRecDepth 100000 in
theorem c_X2_toldAsBroken (l : Launch) (D : va_G) (cI cS : ClassId) (ad : Nat → Nat) (sh : Nat → Bool) (sla : Nat → Nat) (sle : Nat → Nat) (sf : Nat → Nat → Int32) (n : Nat) (fo : Nat) (ki : Nat → Nat) (st : Nat → Nat) (we : Nat → Nat) (lo : Nat → Nat) (n2 : Nat) (go : Nat) (kj : Nat → Nat) (sj : Nat → Nat) (wj : Nat → Nat) (lj : Nat → Nat) (ti : Nat → Int32) (rc : Nat → Nat) (rv : Nat → Nat) (rd : Nat) (tr : Int32) (fa : Nat) (w : Nat) (hnd : nd (adX ad)) : Met l yX2_toldAsBroken wsX2_toldAsBroken ({ frames := 3, cells := 0, slots := 0, locals := 63 }) (PR D cI cS [.ref (ad 0), .int (nI w)] (wX cI cS ad sh sla sle sf n fo ki st we lo n2 go kj sj wj lj ti rc rv rd tr fa)) (va_Qi (fun r (zz : Unit) => r = nI (w + 100 + w)) (fun (zz : Unit) t => va_P D vwCl (wX cI cS ad sh sla sle sf n fo ki st we lo n2 go kj sj wj lj ti rc rv rd (tr1 (tr1 (tr1 (tr1 tr 3) 2) 1) 1) fa) t.heap) (AW (adX ad))) 0 0 (AW (adX ad)) := by
  refine startM (by decide) rfl (Nat.le_of_ble_eq_true rfl) hnd rfl ?_
  intro p e s m below meth c hx hb hr hts hown hlk hml hG hP hD hS ls hl
  have hl : lv_has ls 3 [(0, .ref (ad 0)), (1, .int (nI w))] := hl
  have hF : CallFix p m c cX2_toldAsBroken 3 s _ wsX2_toldAsBroken RX2 := ⟨hx, hb, hml, hown, hts⟩
  refine lv_aload_n hx hb dX2_toldAsBroken_0 rfl (lv_at hl 0 rfl) ?_
  refine lv_iconst (v := nI 3) hx hb dX2_toldAsBroken_1 (by decide) ?_
  refine xmuWv (va_runV (As := [.int (nI 3)]) (rest := []) hF (c_X2_leaveInTrace l D cI cS ad sh sla sle sf n fo ki st we lo n2 go kj sj wj lj ti rc rv rd tr fa 3 hnd) (cwV 1 hts gX2_toldAsBroken_X2_leaveInTrace rfl rfl rfl hV_X2_leaveInTrace ⟨Nat.le_of_ble_eq_true rfl, Nat.le_of_ble_eq_true rfl⟩) (PR.preV hG hP (ci := 2) rfl rfl) rfl rfl hl.1 rfl (lv_room (Nat.le_of_ble_eq_true rfl)) dX2_toldAsBroken_2 ⟨Nat.le_refl _, Nat.le_refl _⟩) hD hS rfl (fun _ => rfl) (fun u_2 H locs q_2 hP hD hS => ?_)
  try dsimp only at q_2 hP hD
  have hP : va_P D vwCl (wX cI cS ad sh sla sle sf n fo ki st we lo n2 go kj sj wj lj ti rc rv rd (tr1 tr 3) fa) H := hP
  have hD : va_D (AW (adX ad)) (wX cI cS ad sh sla sle sf n fo ki st we lo n2 go kj sj wj lj ti rc rv rd (tr1 tr 3) fa) := hD
  refine lv_aload_n hx hb dX2_toldAsBroken_5 rfl (lv_at hl 0 rfl) ?_
  refine lv_iload_n hx hb dX2_toldAsBroken_6 rfl (lv_at hl 1 rfl) ?_
  refine xmuW (va_runV (As := [.int (nI w)]) (rest := []) hF (c_X2_toldAsShaded l D cI cS ad sh sla sle sf n fo ki st we lo n2 go kj sj wj lj ti rc rv rd (tr1 tr 3) fa w hnd) (cwV 1 hts gX2_toldAsBroken_X2_toldAsShaded rfl rfl rfl hV_X2_toldAsShaded ⟨Nat.le_of_ble_eq_true rfl, Nat.le_of_ble_eq_true rfl⟩) (PR.preV hG hP (ci := 2) rfl rfl) rfl rfl hl.1 rfl (lv_room (Nat.le_of_ble_eq_true rfl)) dX2_toldAsBroken_7 ⟨Nat.le_refl _, Nat.le_refl _⟩) hD hS rfl (fun _ => rfl) (fun r_7 u_7 H locs q_7 hP hD hS => ?_)
  try dsimp only at q_7 hP hD
  have e_7 := q_7
  subst e_7
  have hP : va_P D vwCl (wX cI cS ad sh sla sle sf n fo ki st we lo n2 go kj sj wj lj ti rc rv rd (tr1 (tr1 (tr1 tr 3) 2) 1) fa) H := hP
  have hD : va_D (AW (adX ad)) (wX cI cS ad sh sla sle sf n fo ki st we lo n2 go kj sj wj lj ti rc rv rd (tr1 (tr1 (tr1 tr 3) 2) 1) fa) := hD
  refine lv_istore_n (lv' := [(2, .int (nI (w + 100))), (0, .ref (ad 0)), (1, .int (nI w))]) hx hb dX2_toldAsBroken_10 rfl hl (by decide) rfl (fun ls hl => ?_)
  refine lv_iload_n hx hb dX2_toldAsBroken_11 rfl (lv_at hl 0 rfl) ?_
  refine lv_aload_n hx hb dX2_toldAsBroken_12 rfl (lv_at hl 1 rfl) ?_
  refine lv_iload_n hx hb dX2_toldAsBroken_13 rfl (lv_at hl 2 rfl) ?_
  refine xmuW (va_runV (As := [.int (nI w)]) (rest := [.int (nI (w + 100))]) hF (c_X2_toldAsPlain l D cI cS ad sh sla sle sf n fo ki st we lo n2 go kj sj wj lj ti rc rv rd (tr1 (tr1 (tr1 tr 3) 2) 1) fa w hnd) (cwV 1 hts gX2_toldAsBroken_X2_toldAsPlain rfl rfl rfl hV_X2_toldAsPlain ⟨Nat.le_of_ble_eq_true rfl, Nat.le_of_ble_eq_true rfl⟩) (PR.preV hG hP (ci := 2) rfl rfl) rfl rfl hl.1 rfl (lv_room (Nat.le_of_ble_eq_true rfl)) dX2_toldAsBroken_14 ⟨Nat.le_refl _, Nat.le_refl _⟩) hD hS rfl (fun _ => rfl) (fun r_14 u_14 H locs q_14 hP hD hS => ?_)
  try dsimp only at q_14 hP hD
  have e_14 := q_14
  subst e_14
  have hP : va_P D vwCl (wX cI cS ad sh sla sle sf n fo ki st we lo n2 go kj sj wj lj ti rc rv rd (tr1 (tr1 (tr1 (tr1 tr 3) 2) 1) 1) fa) H := hP
  have hD : va_D (AW (adX ad)) (wX cI cS ad sh sla sle sf n fo ki st we lo n2 go kj sj wj lj ti rc rv rd (tr1 (tr1 (tr1 (tr1 tr 3) 2) 1) 1) fa) := hD
  refine xaddN hx hb dX2_toldAsBroken_17 ?_
  exact xretM hx hb hr hlk dX2_toldAsBroken_18 hS () (by rfl) (fun t ht => by rw [ht]; exact hP)

set_option maxHeartbeats 4000000 in
set_option maxRecDepth 100000 in
theorem c_X2_tell (l : Launch) (D : va_G) (cI cS : ClassId) (ad : Nat → Nat) (sh : Nat → Bool) (sla : Nat → Nat) (sle : Nat → Nat) (sf : Nat → Nat → Int32) (n : Nat) (fo : Nat) (ki : Nat → Nat) (st : Nat → Nat) (we : Nat → Nat) (lo : Nat → Nat) (n2 : Nat) (go : Nat) (kj : Nat → Nat) (sj : Nat → Nat) (wj : Nat → Nat) (lj : Nat → Nat) (ti : Nat → Int32) (rc : Nat → Nat) (rv : Nat → Nat) (rd : Nat) (tr : Int32) (fa : Nat) (k : Int32) (hnd : nd (adX ad)) (hn : n ≤ 8) (hki : ∀ j, ki j ≤ 2) : Met l yX2_tell wsX2_tell ({ frames := 4, cells := 0, slots := 0, locals := 85 }) (PR D cI cS [.ref (ad 0), .int k] (wX cI cS ad sh sla sle sf n fo ki st we lo n2 go kj sj wj lj ti rc rv rd tr fa)) (va_Qi (fun r (zz : Unit) => r = A_tell n ki we k) (fun (zz : Unit) t => va_P D vwCl (wX cI cS ad sh sla sle sf n fo ki st we lo n2 go kj sj wj lj ti rc rv rd (S_tell n ki tr k) fa) t.heap) (AW (adX ad))) 0 0 (AW (adX ad)) := by
  refine startM (by decide) rfl (Nat.le_of_ble_eq_true rfl) hnd rfl ?_
  intro p e s m below meth c hx hb hr hts hown hlk hml hG hP hD hS ls hl
  have hl : lv_has ls 2 [(0, .ref (ad 0)), (1, .int k)] := hl
  have f20 := hts (.fieldLink RX2 20 "ChairBallot" "now" "LChairBallot$Row;") (by decide +kernel)
  have f81 := hts (.fieldLink RX2 81 "ChairBallot$Row" "kind" "[I") (by decide +kernel)
  have f87 := hts (.fieldLink RX2 87 "ChairBallot$Row" "weight" "[I") (by decide +kernel)
  have yX0 : ∀ w ∈ u_ws RX0 TX0 6, w.before _ s = true := fun w h => hts w ((by decide +kernel : ∀ w ∈ wsX00, w ∈ wsX2_tell) w h)
  have yX2 : ∀ w ∈ u_ws RX2 TX2 9, w.before _ s = true := fun w h => hts w ((by decide +kernel : ∀ w ∈ wsX20, w ∈ wsX2_tell) w h)
  have hF : CallFix p m c cX2_tell 2 s _ wsX2_tell RX2 := ⟨hx, hb, hml, hown, hts⟩
  refine lv_aload_n hx hb dX2_tell_0 rfl (lv_at hl 0 rfl) ?_
  refine va_get (D := D) (ci := 2) (v := .ref (ad 10)) (C := RX2) (T := TX2) (N := 9) hx hb yX2 (fun _ h => h) hown hG.1 hP 0 rfl rfl 1 (by decide) f20 (fun _ h => h) rfl dX2_tell_1 ?_
  refine lv_iload_n hx hb dX2_tell_4 rfl (lv_at hl 1 rfl) ?_
  refine xrd (va_runV (As := [.int k]) (rest := []) hF (c_X0_has l D cI cS (ad 10) (ad 11) (ad 12) (ad 13) (ad 14) n fo ki st we lo k (by first | assumption | omega)) (cwV 1 hts gX2_tell_X0_has rfl rfl rfl hV_X0_has ⟨Nat.le_of_ble_eq_true rfl, Nat.le_of_ble_eq_true rfl⟩) (PR.preV hG (hP.sub (ws' := (wRow cI (ad 10) (ad 11) (ad 12) (ad 13) (ad 14) n fo ki st we lo)) [10, 11, 12, 13, 14] rfl) (ci := 0) rfl rfl) rfl rfl hl.1 rfl (lv_room (Nat.le_of_ble_eq_true rfl)) dX2_tell_5 ⟨Nat.le_refl _, Nat.le_refl _⟩) ?_
  refine lv_if_ne (tgt := 13) hx hb dX2_tell_8 (by decide) (fun c_8 => ?_) (fun c_8 => ?_)
  ·
    replace c_8 := bI_n0.mp c_8
    obtain ⟨j, hj, rfl⟩ := hasB_t c_8
    have hclj := cl8 (j := j) (by omega)
    have hkj := hki j
    refine lv_aload_n hx hb dX2_tell_13 rfl (lv_at hl 0 rfl) ?_
    refine va_get (D := D) (ci := 2) (v := .ref (ad 10)) (C := RX2) (T := TX2) (N := 9) hx hb yX2 (fun _ h => h) hown hG.1 hP 0 rfl rfl 1 (by decide) f20 (fun _ h => h) rfl dX2_tell_14 ?_
    refine va_get (D := D) (ci := 0) (v := .ref (ad 11)) (C := RX0) (T := TX0) (N := 6) hx hb yX0 (fun _ h => h) hown hG.1 hP 10 rfl rfl 0 (by decide) f81 (fun _ h => h) rfl dX2_tell_17 ?_
    refine lv_iload_n hx hb dX2_tell_20 rfl (lv_at hl 1 rfl) ?_
    refine xaldN hx hb hG hP 11 rfl (j) rfl (by omega) (by decide) dX2_tell_21 ?_
    by_cases c_22_0 : ki j = 0
    ·
      refine lv_lookup (off := 26) (tgt := 48) hx hb dX2_tell_22 (by decide) (by rw [c_22_0]; decide) (by decide) ?_
      refine lv_aload_n hx hb dX2_tell_48 rfl (lv_at hl 0 rfl) ?_
      refine lv_aload_n hx hb dX2_tell_49 rfl (lv_at hl 0 rfl) ?_
      refine va_get (D := D) (ci := 2) (v := .ref (ad 10)) (C := RX2) (T := TX2) (N := 9) hx hb yX2 (fun _ h => h) hown hG.1 hP 0 rfl rfl 1 (by decide) f20 (fun _ h => h) rfl dX2_tell_50 ?_
      refine va_get (D := D) (ci := 0) (v := .ref (ad 13)) (C := RX0) (T := TX0) (N := 6) hx hb yX0 (fun _ h => h) hown hG.1 hP 10 rfl rfl 2 (by decide) f87 (fun _ h => h) rfl dX2_tell_53 ?_
      refine lv_iload_n hx hb dX2_tell_56 rfl (lv_at hl 1 rfl) ?_
      refine xaldN hx hb hG hP 13 rfl (j) rfl (by omega) (by decide) dX2_tell_57 ?_
      refine xmuW (va_runV (As := [.int (nI (we j))]) (rest := []) hF (c_X2_toldAsPlain l D cI cS ad sh sla sle sf n fo ki st we lo n2 go kj sj wj lj ti rc rv rd tr fa (we j) hnd) (cwV 1 hts gX2_tell_X2_toldAsPlain rfl rfl rfl hV_X2_toldAsPlain ⟨Nat.le_of_ble_eq_true rfl, Nat.le_of_ble_eq_true rfl⟩) (PR.preV hG hP (ci := 2) rfl rfl) rfl rfl hl.1 rfl (lv_room (Nat.le_of_ble_eq_true rfl)) dX2_tell_58 ⟨Nat.le_refl _, Nat.le_refl _⟩) hD hS rfl (fun _ => rfl) (fun r_58 u_58 H locs q_58 hP hD hS => ?_)
      try dsimp only at q_58 hP hD
      have e_58 := q_58
      subst e_58
      have hP : va_P D vwCl (wX cI cS ad sh sla sle sf n fo ki st we lo n2 go kj sj wj lj ti rc rv rd (tr1 tr 1) fa) H := hP
      have hD : va_D (AW (adX ad)) (wX cI cS ad sh sla sle sf n fo ki st we lo n2 go kj sj wj lj ti rc rv rd (tr1 tr 1) fa) := hD
      exact xretM hx hb hr hlk dX2_tell_61 hS () (by simp [A_tell, tellV, c_8, hclj, c_22_0]) (fun t ht => by rw [ht]; rw [show S_tell n ki tr (nI j) = (tr1 tr 1) from by simp [S_tell, tellT, c_8, hclj, c_22_0]]; exact hP)
    by_cases c_22_1 : ki j = 1
    ·
      refine lv_lookup (off := 40) (tgt := 62) hx hb dX2_tell_22 (by decide) (by rw [c_22_1]; decide) (by decide) ?_
      refine lv_aload_n hx hb dX2_tell_62 rfl (lv_at hl 0 rfl) ?_
      refine lv_aload_n hx hb dX2_tell_63 rfl (lv_at hl 0 rfl) ?_
      refine va_get (D := D) (ci := 2) (v := .ref (ad 10)) (C := RX2) (T := TX2) (N := 9) hx hb yX2 (fun _ h => h) hown hG.1 hP 0 rfl rfl 1 (by decide) f20 (fun _ h => h) rfl dX2_tell_64 ?_
      refine va_get (D := D) (ci := 0) (v := .ref (ad 13)) (C := RX0) (T := TX0) (N := 6) hx hb yX0 (fun _ h => h) hown hG.1 hP 10 rfl rfl 2 (by decide) f87 (fun _ h => h) rfl dX2_tell_67 ?_
      refine lv_iload_n hx hb dX2_tell_70 rfl (lv_at hl 1 rfl) ?_
      refine xaldN hx hb hG hP 13 rfl (j) rfl (by omega) (by decide) dX2_tell_71 ?_
      refine xmuW (va_runV (As := [.int (nI (we j))]) (rest := []) hF (c_X2_toldAsShaded l D cI cS ad sh sla sle sf n fo ki st we lo n2 go kj sj wj lj ti rc rv rd tr fa (we j) hnd) (cwV 1 hts gX2_tell_X2_toldAsShaded rfl rfl rfl hV_X2_toldAsShaded ⟨Nat.le_of_ble_eq_true rfl, Nat.le_of_ble_eq_true rfl⟩) (PR.preV hG hP (ci := 2) rfl rfl) rfl rfl hl.1 rfl (lv_room (Nat.le_of_ble_eq_true rfl)) dX2_tell_72 ⟨Nat.le_refl _, Nat.le_refl _⟩) hD hS rfl (fun _ => rfl) (fun r_72 u_72 H locs q_72 hP hD hS => ?_)
      try dsimp only at q_72 hP hD
      have e_72 := q_72
      subst e_72
      have hP : va_P D vwCl (wX cI cS ad sh sla sle sf n fo ki st we lo n2 go kj sj wj lj ti rc rv rd (tr1 (tr1 tr 2) 1) fa) H := hP
      have hD : va_D (AW (adX ad)) (wX cI cS ad sh sla sle sf n fo ki st we lo n2 go kj sj wj lj ti rc rv rd (tr1 (tr1 tr 2) 1) fa) := hD
      exact xretM hx hb hr hlk dX2_tell_75 hS () (by simp [A_tell, tellV, c_8, hclj, c_22_1]) (fun t ht => by rw [ht]; rw [show S_tell n ki tr (nI j) = (tr1 (tr1 tr 2) 1) from by simp [S_tell, tellT, c_8, hclj, c_22_1]]; exact hP)
    refine lv_lookup (off := 54) (tgt := 76) hx hb dX2_tell_22 (by decide) (by rw [nI_toInt (by omega)]; simp only [Op.lookupswitch.offset_cons, Op.lookupswitch.offset_nil]; rw [if_neg (by omega)]; rw [if_neg (by omega)]) (by decide) ?_
    refine lv_aload_n hx hb dX2_tell_76 rfl (lv_at hl 0 rfl) ?_
    refine lv_aload_n hx hb dX2_tell_77 rfl (lv_at hl 0 rfl) ?_
    refine va_get (D := D) (ci := 2) (v := .ref (ad 10)) (C := RX2) (T := TX2) (N := 9) hx hb yX2 (fun _ h => h) hown hG.1 hP 0 rfl rfl 1 (by decide) f20 (fun _ h => h) rfl dX2_tell_78 ?_
    refine va_get (D := D) (ci := 0) (v := .ref (ad 13)) (C := RX0) (T := TX0) (N := 6) hx hb yX0 (fun _ h => h) hown hG.1 hP 10 rfl rfl 2 (by decide) f87 (fun _ h => h) rfl dX2_tell_81 ?_
    refine lv_iload_n hx hb dX2_tell_84 rfl (lv_at hl 1 rfl) ?_
    refine xaldN hx hb hG hP 13 rfl (j) rfl (by omega) (by decide) dX2_tell_85 ?_
    refine xmuW (va_runV (As := [.int (nI (we j))]) (rest := []) hF (c_X2_toldAsBroken l D cI cS ad sh sla sle sf n fo ki st we lo n2 go kj sj wj lj ti rc rv rd tr fa (we j) hnd) (cwV 1 hts gX2_tell_X2_toldAsBroken rfl rfl rfl hV_X2_toldAsBroken ⟨Nat.le_of_ble_eq_true rfl, Nat.le_of_ble_eq_true rfl⟩) (PR.preV hG hP (ci := 2) rfl rfl) rfl rfl hl.1 rfl (lv_room (Nat.le_of_ble_eq_true rfl)) dX2_tell_86 ⟨Nat.le_refl _, Nat.le_refl _⟩) hD hS rfl (fun _ => rfl) (fun r_86 u_86 H locs q_86 hP hD hS => ?_)
    try dsimp only at q_86 hP hD
    have e_86 := q_86
    subst e_86
    have hP : va_P D vwCl (wX cI cS ad sh sla sle sf n fo ki st we lo n2 go kj sj wj lj ti rc rv rd (tr1 (tr1 (tr1 (tr1 tr 3) 2) 1) 1) fa) H := hP
    have hD : va_D (AW (adX ad)) (wX cI cS ad sh sla sle sf n fo ki st we lo n2 go kj sj wj lj ti rc rv rd (tr1 (tr1 (tr1 (tr1 tr 3) 2) 1) 1) fa) := hD
    exact xretM hx hb hr hlk dX2_tell_89 hS () (by simp [A_tell, tellV, c_8, hclj, c_22_0, c_22_1]) (fun t ht => by rw [ht]; rw [show S_tell n ki tr (nI j) = (tr1 (tr1 (tr1 (tr1 tr 3) 2) 1) 1) from by simp [S_tell, tellT, c_8, hclj, c_22_0, c_22_1]]; exact hP)
  ·
    replace c_8 := bI_0.mp c_8
    refine lv_iconst (v := (-1)) hx hb dX2_tell_11 (by decide) ?_
    exact xretM hx hb hr hlk dX2_tell_12 hS () (by simp [A_tell, tellV, c_8]) (fun t ht => by rw [ht]; rw [show S_tell n ki tr k = tr from by simp [S_tell, tellT, c_8]]; exact hP)

set_option maxHeartbeats 4000000 in
set_option maxRecDepth 100000 in
theorem c_X2_chalk (l : Launch) (D : va_G) (cI cS : ClassId) (ad : Nat → Nat) (sh : Nat → Bool) (sla : Nat → Nat) (sle : Nat → Nat) (sf : Nat → Nat → Int32) (n : Nat) (fo : Nat) (ki : Nat → Nat) (st : Nat → Nat) (we : Nat → Nat) (lo : Nat → Nat) (n2 : Nat) (go : Nat) (kj : Nat → Nat) (sj : Nat → Nat) (wj : Nat → Nat) (lj : Nat → Nat) (ti : Nat → Int32) (rc : Nat → Nat) (rv : Nat → Nat) (rd : Nat) (tr : Int32) (fa : Nat) (k : Int32) (hnd : nd (adX ad)) (hn : n ≤ 8) (hki : ∀ j, ki j ≤ 2) : Met l yX2_chalk wsX2_chalk ({ frames := 1, cells := 0, slots := 0, locals := 21 }) (PR D cI cS [.ref (ad 0), .int k] (wX cI cS ad sh sla sle sf n fo ki st we lo n2 go kj sj wj lj ti rc rv rd tr fa)) (va_Qi (fun r (zz : Unit) => r = A_chalk n ki k) (fun (zz : Unit) t => va_P D vwCl (wX cI cS ad sh sla sle sf n fo ki st we lo n2 go kj sj wj lj ti rc rv rd (S_chalk n ki tr k) fa) t.heap) (AW (adX ad))) 0 0 (AW (adX ad)) := by
  refine startM (by decide) rfl (Nat.le_of_ble_eq_true rfl) hnd rfl ?_
  intro p e s m below meth c hx hb hr hts hown hlk hml hG hP hD hS ls hl
  have hl : lv_has ls 2 [(0, .ref (ad 0)), (1, .int k)] := hl
  have f20 := hts (.fieldLink RX2 20 "ChairBallot" "now" "LChairBallot$Row;") (by decide +kernel)
  have f81 := hts (.fieldLink RX2 81 "ChairBallot$Row" "kind" "[I") (by decide +kernel)
  have yX0 : ∀ w ∈ u_ws RX0 TX0 6, w.before _ s = true := fun w h => hts w ((by decide +kernel : ∀ w ∈ wsX00, w ∈ wsX2_chalk) w h)
  have yX2 : ∀ w ∈ u_ws RX2 TX2 9, w.before _ s = true := fun w h => hts w ((by decide +kernel : ∀ w ∈ wsX20, w ∈ wsX2_chalk) w h)
  have hF : CallFix p m c cX2_chalk 2 s _ wsX2_chalk RX2 := ⟨hx, hb, hml, hown, hts⟩
  refine lv_aload_n hx hb dX2_chalk_0 rfl (lv_at hl 0 rfl) ?_
  refine va_get (D := D) (ci := 2) (v := .ref (ad 10)) (C := RX2) (T := TX2) (N := 9) hx hb yX2 (fun _ h => h) hown hG.1 hP 0 rfl rfl 1 (by decide) f20 (fun _ h => h) rfl dX2_chalk_1 ?_
  refine lv_iload_n hx hb dX2_chalk_4 rfl (lv_at hl 1 rfl) ?_
  refine xrd (va_runV (As := [.int k]) (rest := []) hF (c_X0_has l D cI cS (ad 10) (ad 11) (ad 12) (ad 13) (ad 14) n fo ki st we lo k (by first | assumption | omega)) (cwV 1 hts gX2_chalk_X0_has rfl rfl rfl hV_X0_has ⟨Nat.le_of_ble_eq_true rfl, Nat.le_of_ble_eq_true rfl⟩) (PR.preV hG (hP.sub (ws' := (wRow cI (ad 10) (ad 11) (ad 12) (ad 13) (ad 14) n fo ki st we lo)) [10, 11, 12, 13, 14] rfl) (ci := 0) rfl rfl) rfl rfl hl.1 rfl (lv_room (Nat.le_of_ble_eq_true rfl)) dX2_chalk_5 ⟨Nat.le_refl _, Nat.le_refl _⟩) ?_
  refine lv_if_ne (tgt := 13) hx hb dX2_chalk_8 (by decide) (fun c_8 => ?_) (fun c_8 => ?_)
  ·
    replace c_8 := bI_n0.mp c_8
    obtain ⟨j, hj, rfl⟩ := hasB_t c_8
    have hclj := cl8 (j := j) (by omega)
    have hkj := hki j
    refine lv_aload_n hx hb dX2_chalk_13 rfl (lv_at hl 0 rfl) ?_
    refine va_get (D := D) (ci := 2) (v := .ref (ad 10)) (C := RX2) (T := TX2) (N := 9) hx hb yX2 (fun _ h => h) hown hG.1 hP 0 rfl rfl 1 (by decide) f20 (fun _ h => h) rfl dX2_chalk_14 ?_
    refine va_get (D := D) (ci := 0) (v := .ref (ad 11)) (C := RX0) (T := TX0) (N := 6) hx hb yX0 (fun _ h => h) hown hG.1 hP 10 rfl rfl 0 (by decide) f81 (fun _ h => h) rfl dX2_chalk_17 ?_
    refine lv_iload_n hx hb dX2_chalk_20 rfl (lv_at hl 1 rfl) ?_
    refine xaldN hx hb hG hP 11 rfl (j) rfl (by omega) (by decide) dX2_chalk_21 ?_
    refine lv_iconst (v := nI 2) hx hb dX2_chalk_22 (by decide) ?_
    refine lv_icmp_ne (tgt := 34) hx hb dX2_chalk_23 (by decide) (fun c_23 => ?_) (fun c_23 => ?_)
    ·
      replace c_23 := (not_congr (nI_eq (a := ki j) (b := 2) (by omega) (by omega))).mp c_23
      refine lv_aload_n hx hb dX2_chalk_34 rfl (lv_at hl 0 rfl) ?_
      refine lv_iconst (v := nI 4) hx hb dX2_chalk_35 (by decide) ?_
      refine xmuWv (va_runV (As := [.int (nI 4)]) (rest := []) hF (c_X2_leaveInTrace l D cI cS ad sh sla sle sf n fo ki st we lo n2 go kj sj wj lj ti rc rv rd tr fa 4 hnd) (cwV 1 hts gX2_chalk_X2_leaveInTrace rfl rfl rfl hV_X2_leaveInTrace ⟨Nat.le_of_ble_eq_true rfl, Nat.le_of_ble_eq_true rfl⟩) (PR.preV hG hP (ci := 2) rfl rfl) rfl rfl hl.1 rfl (lv_room (Nat.le_of_ble_eq_true rfl)) dX2_chalk_36 ⟨Nat.le_refl _, Nat.le_refl _⟩) hD hS rfl (fun _ => rfl) (fun u_36 H locs q_36 hP hD hS => ?_)
      try dsimp only at q_36 hP hD
      have hP : va_P D vwCl (wX cI cS ad sh sla sle sf n fo ki st we lo n2 go kj sj wj lj ti rc rv rd (tr1 tr 4) fa) H := hP
      have hD : va_D (AW (adX ad)) (wX cI cS ad sh sla sle sf n fo ki st we lo n2 go kj sj wj lj ti rc rv rd (tr1 tr 4) fa) := hD
      refine lv_iload_n hx hb dX2_chalk_39 rfl (lv_at hl 1 rfl) ?_
      exact xretM hx hb hr hlk dX2_chalk_40 hS () (by simp [A_chalk, c_8, hclj, c_23]) (fun t ht => by rw [ht]; rw [show S_chalk n ki tr (nI j) = (tr1 tr 4) from by simp [S_chalk, tr1, c_8, hclj, c_23]]; exact hP)
    ·
      replace c_23 := (nI_eq (a := ki j) (b := 2) (by omega) (by omega)).mp c_23
      refine lv_aload_n hx hb dX2_chalk_26 rfl (lv_at hl 0 rfl) ?_
      refine lv_iconst (v := nI 5) hx hb dX2_chalk_27 (by decide) ?_
      refine xmuWv (va_runV (As := [.int (nI 5)]) (rest := []) hF (c_X2_leaveInTrace l D cI cS ad sh sla sle sf n fo ki st we lo n2 go kj sj wj lj ti rc rv rd tr fa 5 hnd) (cwV 1 hts gX2_chalk_X2_leaveInTrace rfl rfl rfl hV_X2_leaveInTrace ⟨Nat.le_of_ble_eq_true rfl, Nat.le_of_ble_eq_true rfl⟩) (PR.preV hG hP (ci := 2) rfl rfl) rfl rfl hl.1 rfl (lv_room (Nat.le_of_ble_eq_true rfl)) dX2_chalk_28 ⟨Nat.le_refl _, Nat.le_refl _⟩) hD hS rfl (fun _ => rfl) (fun u_28 H locs q_28 hP hD hS => ?_)
      try dsimp only at q_28 hP hD
      have hP : va_P D vwCl (wX cI cS ad sh sla sle sf n fo ki st we lo n2 go kj sj wj lj ti rc rv rd (tr1 tr 5) fa) H := hP
      have hD : va_D (AW (adX ad)) (wX cI cS ad sh sla sle sf n fo ki st we lo n2 go kj sj wj lj ti rc rv rd (tr1 tr 5) fa) := hD
      refine lv_bipush (v := nI 40) hx hb dX2_chalk_31 (by decide) ?_
      exact xretM hx hb hr hlk dX2_chalk_33 hS () (by simp [A_chalk, c_8, hclj, c_23]) (fun t ht => by rw [ht]; rw [show S_chalk n ki tr (nI j) = (tr1 tr 5) from by simp [S_chalk, tr1, c_8, hclj, c_23]]; exact hP)
  ·
    replace c_8 := bI_0.mp c_8
    refine lv_iconst (v := (-1)) hx hb dX2_chalk_11 (by decide) ?_
    exact xretM hx hb hr hlk dX2_chalk_12 hS () (by simp [A_chalk, c_8]) (fun t ht => by rw [ht]; rw [show S_chalk n ki tr k = tr from by simp [S_chalk, tr1, c_8]]; exact hP)

set_option maxHeartbeats 4000000 in
set_option maxRecDepth 100000 in
theorem c_X2_as (l : Launch) (D : va_G) (cI cS : ClassId) (ad : Nat → Nat) (sh : Nat → Bool) (sla : Nat → Nat) (sle : Nat → Nat) (sf : Nat → Nat → Int32) (n : Nat) (fo : Nat) (ki : Nat → Nat) (st : Nat → Nat) (we : Nat → Nat) (lo : Nat → Nat) (n2 : Nat) (go : Nat) (kj : Nat → Nat) (sj : Nat → Nat) (wj : Nat → Nat) (lj : Nat → Nat) (ti : Nat → Int32) (rc : Nat → Nat) (rv : Nat → Nat) (rd : Nat) (tr : Int32) (fa : Nat) (k : Int32) (v : Int32) (hnd : nd (adX ad)) (hn : n ≤ 8) (hki : ∀ j, ki j ≤ 2) : Met l yX2_as wsX2_as ({ frames := 1, cells := 0, slots := 0, locals := 21 }) (PR D cI cS [.ref (ad 0), .int k, .int v] (wX cI cS ad sh sla sle sf n fo ki st we lo n2 go kj sj wj lj ti rc rv rd tr fa)) (va_Qi (fun r (zz : Unit) => r = A_as n ki k v) (fun (zz : Unit) t => va_P D vwCl (wX cI cS ad sh sla sle sf n fo ki st we lo n2 go kj sj wj lj ti rc rv rd tr (S_as n ki k v)) t.heap) (AW (adX ad))) 0 0 (AW (adX ad)) := by
  refine startM (by decide) rfl (Nat.le_of_ble_eq_true rfl) hnd rfl ?_
  intro p e s m below meth c hx hb hr hts hown hlk hml hG hP hD hS ls hl
  have hl : lv_has ls 3 [(0, .ref (ad 0)), (1, .int k), (2, .int v)] := hl
  have f44 := hts (.fieldLink RX2 44 "ChairBallot" "latestFault" "I") (by decide +kernel)
  have f20 := hts (.fieldLink RX2 20 "ChairBallot" "now" "LChairBallot$Row;") (by decide +kernel)
  have f81 := hts (.fieldLink RX2 81 "ChairBallot$Row" "kind" "[I") (by decide +kernel)
  have yX0 : ∀ w ∈ u_ws RX0 TX0 6, w.before _ s = true := fun w h => hts w ((by decide +kernel : ∀ w ∈ wsX00, w ∈ wsX2_as) w h)
  have yX2 : ∀ w ∈ u_ws RX2 TX2 9, w.before _ s = true := fun w h => hts w ((by decide +kernel : ∀ w ∈ wsX20, w ∈ wsX2_as) w h)
  have hF : CallFix p m c cX2_as 3 s _ wsX2_as RX2 := ⟨hx, hb, hml, hown, hts⟩
  refine lv_aload_n hx hb dX2_as_0 rfl (lv_at hl 0 rfl) ?_
  refine lv_iconst (v := nI 0) hx hb dX2_as_1 (by decide) ?_
  refine va_put (D := D) (ci := 2) (v := .int (nI 0)) (ty := .int) (C := RX2) (T := TX2) (N := 9) hx hb yX2 (fun _ h => h) tyX2 tyX2_ok nmX2 hown hG.1 hP hD hS 0 rfl rfl 8 (by decide) f44 (fun _ h => h) rfl (by decide +kernel) rfl rfl (Nat.le_of_ble_eq_true rfl) dX2_as_2 (fun H locs hP hD hS => ?_)
  have hP : va_P D vwCl (wX cI cS ad sh sla sle sf n fo ki st we lo n2 go kj sj wj lj ti rc rv rd tr 0) H := hP
  have hD : va_D (AW (adX ad)) (wX cI cS ad sh sla sle sf n fo ki st we lo n2 go kj sj wj lj ti rc rv rd tr 0) := hD
  refine lv_aload_n hx hb dX2_as_5 rfl (lv_at hl 0 rfl) ?_
  refine va_get (D := D) (ci := 2) (v := .ref (ad 10)) (C := RX2) (T := TX2) (N := 9) hx hb yX2 (fun _ h => h) hown hG.1 hP 0 rfl rfl 1 (by decide) f20 (fun _ h => h) rfl dX2_as_6 ?_
  refine lv_iload_n hx hb dX2_as_9 rfl (lv_at hl 1 rfl) ?_
  refine xrd (va_runV (As := [.int k]) (rest := []) hF (c_X0_has l D cI cS (ad 10) (ad 11) (ad 12) (ad 13) (ad 14) n fo ki st we lo k (by first | assumption | omega)) (cwV 1 hts gX2_as_X0_has rfl rfl rfl hV_X0_has ⟨Nat.le_of_ble_eq_true rfl, Nat.le_of_ble_eq_true rfl⟩) (PR.preV hG (hP.sub (ws' := (wRow cI (ad 10) (ad 11) (ad 12) (ad 13) (ad 14) n fo ki st we lo)) [10, 11, 12, 13, 14] rfl) (ci := 0) rfl rfl) rfl rfl hl.1 rfl (lv_room (Nat.le_of_ble_eq_true rfl)) dX2_as_10 ⟨Nat.le_refl _, Nat.le_refl _⟩) ?_
  refine lv_if_ne (tgt := 18) hx hb dX2_as_13 (by decide) (fun c_13 => ?_) (fun c_13 => ?_)
  ·
    replace c_13 := bI_n0.mp c_13
    obtain ⟨j, hj, rfl⟩ := hasB_t c_13
    have hclj := cl8 (j := j) (by omega)
    have hkj := hki j
    refine lv_iload_n hx hb dX2_as_18 rfl (lv_at hl 2 rfl) ?_
    refine lv_if_lt (tgt := 27) hx hb dX2_as_19 (by decide) (fun c_19 => ?_) (fun c_19 => ?_)
    ·
      replace c_19 : v.toInt < 0 := (i32_ltc (b := 0) (by omega)).mp c_19
      have hzv : rgB 0 2 v = false := by first | exact rgB_n1 (by omega) | exact rgB_n2 (by omega)
      refine lv_bipush (v := (-2)) hx hb dX2_as_27 (by decide) ?_
      exact xretM hx hb hr hlk dX2_as_29 hS () (by simp [A_as, c_13, hclj, c_19, hzv]) (fun t ht => by rw [ht]; rw [show S_as n ki (nI j) v = 0 from by simp [S_as, c_13, hclj, c_19, hzv]]; exact hP)
    ·
      replace c_19 : ¬ v.toInt < 0 := (not_congr (i32_ltc (b := 0) (by omega))).mp c_19
      refine lv_iload_n hx hb dX2_as_22 rfl (lv_at hl 2 rfl) ?_
      refine lv_iconst (v := nI 2) hx hb dX2_as_23 (by decide) ?_
      refine lv_icmp_le (tgt := 30) hx hb dX2_as_24 (by decide) (fun c_24 => ?_) (fun c_24 => ?_)
      ·
        replace c_24 : v.toInt ≤ 2 := (i32_lec (b := 2) (by omega)).mp c_24
        have hzv : rgB 0 2 v = true := rgB_y (by omega) (by omega)
        refine lv_aload_n hx hb dX2_as_30 rfl (lv_at hl 0 rfl) ?_
        refine va_get (D := D) (ci := 2) (v := .ref (ad 10)) (C := RX2) (T := TX2) (N := 9) hx hb yX2 (fun _ h => h) hown hG.1 hP 0 rfl rfl 1 (by decide) f20 (fun _ h => h) rfl dX2_as_31 ?_
        refine va_get (D := D) (ci := 0) (v := .ref (ad 11)) (C := RX0) (T := TX0) (N := 6) hx hb yX0 (fun _ h => h) hown hG.1 hP 10 rfl rfl 0 (by decide) f81 (fun _ h => h) rfl dX2_as_34 ?_
        refine lv_iload_n hx hb dX2_as_37 rfl (lv_at hl 1 rfl) ?_
        refine xaldN hx hb hG hP 11 rfl (j) rfl (by omega) (by decide) dX2_as_38 ?_
        refine lv_iload_n hx hb dX2_as_39 rfl (lv_at hl 2 rfl) ?_
        refine lv_icmp_lt (tgt := 47) hx hb dX2_as_40 (by decide) (fun c_40 => ?_) (fun c_40 => ?_)
        ·
          replace c_40 : ((ki j : Nat) : Int) < v.toInt := (i32_gtc (b := ki j) (by omega)).mp c_40
          have hle : ¬ v.toInt ≤ (ki j : Int) := by omega
          refine lv_aload_n hx hb dX2_as_47 rfl (lv_at hl 0 rfl) ?_
          refine lv_iconst (v := nI 2) hx hb dX2_as_48 (by decide) ?_
          refine xmuW (va_runV (As := [.int (nI 2)]) (rest := []) hF (c_X2_faulted l D cI cS ad sh sla sle sf n fo ki st we lo n2 go kj sj wj lj ti rc rv rd tr 0 2 hnd) (cwV 1 hts gX2_as_X2_faulted rfl rfl rfl hV_X2_faulted ⟨Nat.le_of_ble_eq_true rfl, Nat.le_of_ble_eq_true rfl⟩) (PR.preV hG hP (ci := 2) rfl rfl) rfl rfl hl.1 rfl (lv_room (Nat.le_of_ble_eq_true rfl)) dX2_as_49 ⟨Nat.le_refl _, Nat.le_refl _⟩) hD hS rfl (fun _ => rfl) (fun r_49 u_49 H locs q_49 hP hD hS => ?_)
          try dsimp only at q_49 hP hD
          have e_49 := q_49
          subst e_49
          have hP : va_P D vwCl (wX cI cS ad sh sla sle sf n fo ki st we lo n2 go kj sj wj lj ti rc rv rd tr 2) H := hP
          have hD : va_D (AW (adX ad)) (wX cI cS ad sh sla sle sf n fo ki st we lo n2 go kj sj wj lj ti rc rv rd tr 2) := hD
          exact xretM hx hb hr hlk dX2_as_52 hS () (by simp [A_as, c_13, hclj, c_19, c_24, hzv, c_40, hle]) (fun t ht => by rw [ht]; rw [show S_as n ki (nI j) v = 2 from by simp [S_as, c_13, hclj, c_19, c_24, hzv, c_40, hle]]; exact hP)
        ·
          replace c_40 : ¬ ((ki j : Nat) : Int) < v.toInt := (not_congr (i32_gtc (b := ki j) (by omega))).mp c_40
          have hle : v.toInt ≤ (ki j : Int) := by omega
          refine lv_iconst (v := nI 1) hx hb dX2_as_43 (by decide) ?_
          refine lv_goto (tgt := 52) hx hb dX2_as_44 (by decide) ?_
          exact xretM hx hb hr hlk dX2_as_52 hS () (by simp [A_as, c_13, hclj, c_19, c_24, hzv, c_40, hle]) (fun t ht => by rw [ht]; rw [show S_as n ki (nI j) v = 0 from by simp [S_as, c_13, hclj, c_19, c_24, hzv, c_40, hle]]; exact hP)
      ·
        replace c_24 : ¬ v.toInt ≤ 2 := (not_congr (i32_lec (b := 2) (by omega))).mp c_24
        have hzv : rgB 0 2 v = false := by first | exact rgB_n1 (by omega) | exact rgB_n2 (by omega)
        refine lv_bipush (v := (-2)) hx hb dX2_as_27 (by decide) ?_
        exact xretM hx hb hr hlk dX2_as_29 hS () (by simp [A_as, c_13, hclj, c_19, c_24, hzv]) (fun t ht => by rw [ht]; rw [show S_as n ki (nI j) v = 0 from by simp [S_as, c_13, hclj, c_19, c_24, hzv]]; exact hP)
  ·
    replace c_13 := bI_0.mp c_13
    refine lv_iconst (v := (-1)) hx hb dX2_as_16 (by decide) ?_
    exact xretM hx hb hr hlk dX2_as_17 hS () (by simp [A_as, c_13]) (fun t ht => by rw [ht]; rw [show S_as n ki k v = 0 from by simp [S_as, c_13]]; exact hP)

set_option maxHeartbeats 4000000 in
set_option maxRecDepth 100000 in
theorem c_X2_trace (l : Launch) (D : va_G) (cI cS : ClassId) (ad : Nat → Nat) (sh : Nat → Bool) (sla : Nat → Nat) (sle : Nat → Nat) (sf : Nat → Nat → Int32) (n : Nat) (fo : Nat) (ki : Nat → Nat) (st : Nat → Nat) (we : Nat → Nat) (lo : Nat → Nat) (n2 : Nat) (go : Nat) (kj : Nat → Nat) (sj : Nat → Nat) (wj : Nat → Nat) (lj : Nat → Nat) (ti : Nat → Int32) (rc : Nat → Nat) (rv : Nat → Nat) (rd : Nat) (tr : Int32) (fa : Nat)  : Met l yX2_trace wsX2_trace ({ frames := 0, cells := 0, slots := 0, locals := 0 }) (PR D cI cS [.ref (ad 0)] (wX cI cS ad sh sla sle sf n fo ki st we lo n2 go kj sj wj lj ti rc rv rd tr fa)) (vp_Si (fun r => r = tr)) 0 0 (fun _ => False) := by
  refine startR (by decide) rfl (Nat.le_of_ble_eq_true rfl) ?_
  intro p e s m below meth c hx hb hr hts hown hlk hml hG hP ls hl
  have hl : lv_has ls 1 [(0, .ref (ad 0))] := hl
  have f41 := hts (.fieldLink RX2 41 "ChairBallot" "traced" "I") (by decide +kernel)
  have yX2 : ∀ w ∈ u_ws RX2 TX2 9, w.before _ s = true := fun w h => hts w ((by decide +kernel : ∀ w ∈ wsX20, w ∈ wsX2_trace) w h)
  have hF : CallFix p m c cX2_trace 1 s _ wsX2_trace RX2 := ⟨hx, hb, hml, hown, hts⟩
  refine lv_aload_n hx hb dX2_trace_0 rfl (lv_at hl 0 rfl) ?_
  refine va_get (D := D) (ci := 2) (v := .int tr) (C := RX2) (T := TX2) (N := 9) hx hb yX2 (fun _ h => h) hown hG.1 hP 0 rfl rfl 7 (by decide) f41 (fun _ h => h) rfl dX2_trace_1 ?_
  exact xretR hx hb hr hlk dX2_trace_4 (by rfl)

set_option maxHeartbeats 4000000 in
set_option maxRecDepth 100000 in
theorem c_X2_fault (l : Launch) (D : va_G) (cI cS : ClassId) (ad : Nat → Nat) (sh : Nat → Bool) (sla : Nat → Nat) (sle : Nat → Nat) (sf : Nat → Nat → Int32) (n : Nat) (fo : Nat) (ki : Nat → Nat) (st : Nat → Nat) (we : Nat → Nat) (lo : Nat → Nat) (n2 : Nat) (go : Nat) (kj : Nat → Nat) (sj : Nat → Nat) (wj : Nat → Nat) (lj : Nat → Nat) (ti : Nat → Int32) (rc : Nat → Nat) (rv : Nat → Nat) (rd : Nat) (tr : Int32) (fa : Nat)  : Met l yX2_fault wsX2_fault ({ frames := 0, cells := 0, slots := 0, locals := 0 }) (PR D cI cS [.ref (ad 0)] (wX cI cS ad sh sla sle sf n fo ki st we lo n2 go kj sj wj lj ti rc rv rd tr fa)) (vp_Si (fun r => r = nI fa)) 0 0 (fun _ => False) := by
  refine startR (by decide) rfl (Nat.le_of_ble_eq_true rfl) ?_
  intro p e s m below meth c hx hb hr hts hown hlk hml hG hP ls hl
  have hl : lv_has ls 1 [(0, .ref (ad 0))] := hl
  have f44 := hts (.fieldLink RX2 44 "ChairBallot" "latestFault" "I") (by decide +kernel)
  have yX2 : ∀ w ∈ u_ws RX2 TX2 9, w.before _ s = true := fun w h => hts w ((by decide +kernel : ∀ w ∈ wsX20, w ∈ wsX2_fault) w h)
  have hF : CallFix p m c cX2_fault 1 s _ wsX2_fault RX2 := ⟨hx, hb, hml, hown, hts⟩
  refine lv_aload_n hx hb dX2_fault_0 rfl (lv_at hl 0 rfl) ?_
  refine va_get (D := D) (ci := 2) (v := .int (nI fa)) (C := RX2) (T := TX2) (N := 9) hx hb yX2 (fun _ h => h) hown hG.1 hP 0 rfl rfl 8 (by decide) f44 (fun _ h => h) rfl dX2_fault_1 ?_
  exact xretR hx hb hr hlk dX2_fault_4 (by rfl)

set_option maxHeartbeats 4000000 in
set_option maxRecDepth 100000 in
theorem c_X2_many (l : Launch) (D : va_G) (cI cS : ClassId) (ad : Nat → Nat) (sh : Nat → Bool) (sla : Nat → Nat) (sle : Nat → Nat) (sf : Nat → Nat → Int32) (n : Nat) (fo : Nat) (ki : Nat → Nat) (st : Nat → Nat) (we : Nat → Nat) (lo : Nat → Nat) (n2 : Nat) (go : Nat) (kj : Nat → Nat) (sj : Nat → Nat) (wj : Nat → Nat) (lj : Nat → Nat) (ti : Nat → Int32) (rc : Nat → Nat) (rv : Nat → Nat) (rd : Nat) (tr : Int32) (fa : Nat) (what : Int32) (hn : n ≤ 8) (hfo : fo < 256) (hki : ∀ j, ki j ≤ 2) (hwe : ∀ j, we j ≤ 9) (hst : ∀ j, st j ≤ 3) (hlo : ∀ j, lo j ≤ 3) : Met l yX2_many wsX2_many ({ frames := 4, cells := 0, slots := 0, locals := 86 }) (PR D cI cS [.ref (ad 0), .int what] (wX cI cS ad sh sla sle sf n fo ki st we lo n2 go kj sj wj lj ti rc rv rd tr fa)) (vp_Si (fun r => r = A_many n fo ki we rd what)) 0 0 (fun _ => False) := by
  refine startR (by decide) rfl (Nat.le_of_ble_eq_true rfl) ?_
  intro p e s m below meth c hx hb hr hts hown hlk hml hG hP ls hl
  have hl : lv_has ls 2 [(0, .ref (ad 0)), (1, .int what)] := hl
  have f20 := hts (.fieldLink RX2 20 "ChairBallot" "now" "LChairBallot$Row;") (by decide +kernel)
  have f75 := hts (.fieldLink RX2 75 "ChairBallot$Row" "count" "I") (by decide +kernel)
  have f136 := hts (.fieldLink RX2 136 "ChairBallot$Row" "folded" "I") (by decide +kernel)
  have f37 := hts (.fieldLink RX2 37 "ChairBallot" "readings" "I") (by decide +kernel)
  have yX0 : ∀ w ∈ u_ws RX0 TX0 6, w.before _ s = true := fun w h => hts w ((by decide +kernel : ∀ w ∈ wsX00, w ∈ wsX2_many) w h)
  have yX2 : ∀ w ∈ u_ws RX2 TX2 9, w.before _ s = true := fun w h => hts w ((by decide +kernel : ∀ w ∈ wsX20, w ∈ wsX2_many) w h)
  have hF : CallFix p m c cX2_many 2 s _ wsX2_many RX2 := ⟨hx, hb, hml, hown, hts⟩
  refine lv_iload_n hx hb dX2_many_0 rfl (lv_at hl 1 rfl) ?_
  by_cases c_1_0 : what = nI 0
  ·
    refine lv_tableIn (off := 31) (tgt := 32) hx hb dX2_many_1 (by rw [c_1_0]; decide) (by rw [c_1_0]; decide) (by rw [c_1_0]; decide) (by decide) ?_
    refine lv_aload_n hx hb dX2_many_32 rfl (lv_at hl 0 rfl) ?_
    refine va_get (D := D) (ci := 2) (v := .ref (ad 10)) (C := RX2) (T := TX2) (N := 9) hx hb yX2 (fun _ h => h) hown hG.1 hP 0 rfl rfl 1 (by decide) f20 (fun _ h => h) rfl dX2_many_33 ?_
    refine va_get (D := D) (ci := 0) (v := .int (nI n)) (C := RX0) (T := TX0) (N := 6) hx hb yX0 (fun _ h => h) hown hG.1 hP 10 rfl rfl 4 (by decide) f75 (fun _ h => h) rfl dX2_many_36 ?_
    exact xretR hx hb hr hlk dX2_many_39 (by first | (simp [A_many, nIeq, c_1_0]; done) | (simp only [A_many, c_1_0]; rw [vs_all hst]; simp [nIeq]))
  by_cases c_1_1 : what = nI 1
  ·
    refine lv_tableIn (off := 39) (tgt := 40) hx hb dX2_many_1 (by rw [c_1_1]; decide) (by rw [c_1_1]; decide) (by rw [c_1_1]; decide) (by decide) ?_
    refine lv_aload_n hx hb dX2_many_40 rfl (lv_at hl 0 rfl) ?_
    refine va_get (D := D) (ci := 2) (v := .ref (ad 10)) (C := RX2) (T := TX2) (N := 9) hx hb yX2 (fun _ h => h) hown hG.1 hP 0 rfl rfl 1 (by decide) f20 (fun _ h => h) rfl dX2_many_41 ?_
    refine va_get (D := D) (ci := 0) (v := .int (nI fo)) (C := RX0) (T := TX0) (N := 6) hx hb yX0 (fun _ h => h) hown hG.1 hP 10 rfl rfl 5 (by decide) f136 (fun _ h => h) rfl dX2_many_44 ?_
    refine xrd (va_runS (As := [.int (nI fo)]) (rest := []) hF (c_J6_bitCount l D cI cS fo (by first | assumption | omega)) (va_cwS 1 hts gX2_many_J6_bitCount_0f7a4 rfl rfl rfl hD_J6_bitCount_0f7a4 ⟨Nat.le_of_ble_eq_true rfl, Nat.le_of_ble_eq_true rfl⟩) (PR.pre hG (hP.sub (ws' := []) [] rfl)) rfl rfl hl.1 rfl (lv_room (Nat.le_of_ble_eq_true rfl)) dX2_many_47 ⟨Nat.le_refl _, Nat.le_refl _⟩) ?_
    exact xretR hx hb hr hlk dX2_many_50 (by first | (simp [A_many, nIeq, c_1_1]; done) | (simp only [A_many, c_1_1]; rw [vs_all hst]; simp [nIeq]))
  by_cases c_1_2 : what = nI 2
  ·
    refine lv_tableIn (off := 50) (tgt := 51) hx hb dX2_many_1 (by rw [c_1_2]; decide) (by rw [c_1_2]; decide) (by rw [c_1_2]; decide) (by decide) ?_
    refine lv_aload_n hx hb dX2_many_51 rfl (lv_at hl 0 rfl) ?_
    refine va_get (D := D) (ci := 2) (v := .ref (ad 10)) (C := RX2) (T := TX2) (N := 9) hx hb yX2 (fun _ h => h) hown hG.1 hP 0 rfl rfl 1 (by decide) f20 (fun _ h => h) rfl dX2_many_52 ?_
    refine lv_bipush (v := nI 15) hx hb dX2_many_55 (by decide) ?_
    refine xrd (va_runV (As := [.int (nI 15)]) (rest := []) hF (c_X0_votesOfStripes l D cI cS (ad 10) (ad 11) (ad 12) (ad 13) (ad 14) n fo ki st we lo 15 (by first | assumption | omega) (by first | assumption | omega) (by first | assumption | omega) (by first | assumption | omega) (by first | assumption | omega) (by first | assumption | omega)) (cwV 1 hts gX2_many_X0_votesOfStripes rfl rfl rfl hV_X0_votesOfStripes ⟨Nat.le_of_ble_eq_true rfl, Nat.le_of_ble_eq_true rfl⟩) (PR.preV hG (hP.sub (ws' := (wRow cI (ad 10) (ad 11) (ad 12) (ad 13) (ad 14) n fo ki st we lo)) [10, 11, 12, 13, 14] rfl) (ci := 0) rfl rfl) rfl rfl hl.1 rfl (lv_room (Nat.le_of_ble_eq_true rfl)) dX2_many_57 ⟨Nat.le_refl _, Nat.le_refl _⟩) ?_
    exact xretR hx hb hr hlk dX2_many_60 (by first | (simp [A_many, nIeq, c_1_2]; done) | (simp only [A_many, c_1_2]; rw [vs_all hst]; simp [nIeq]))
  by_cases c_1_3 : what = nI 3
  ·
    refine lv_tableIn (off := 60) (tgt := 61) hx hb dX2_many_1 (by rw [c_1_3]; decide) (by rw [c_1_3]; decide) (by rw [c_1_3]; decide) (by decide) ?_
    refine lv_aload_n hx hb dX2_many_61 rfl (lv_at hl 0 rfl) ?_
    refine va_get (D := D) (ci := 2) (v := .int (nI rd)) (C := RX2) (T := TX2) (N := 9) hx hb yX2 (fun _ h => h) hown hG.1 hP 0 rfl rfl 6 (by decide) f37 (fun _ h => h) rfl dX2_many_62 ?_
    exact xretR hx hb hr hlk dX2_many_65 (by first | (simp [A_many, nIeq, c_1_3]; done) | (simp only [A_many, c_1_3]; rw [vs_all hst]; simp [nIeq]))
  refine lv_tableOut (tgt := 66) hx hb dX2_many_1 (by exact xtabN (N := 4) (by decide) (fun j hj => by match j, hj with | 0, _ => exact c_1_0 | 1, _ => exact c_1_1 | 2, _ => exact c_1_2 | 3, _ => exact c_1_3)) (by decide) ?_
  refine lv_bipush (v := (-2)) hx hb dX2_many_66 (by decide) ?_
  exact xretR hx hb hr hlk dX2_many_68 (by first | (simp [A_many, nIeq, c_1_0, c_1_1, c_1_2, c_1_3]; done) | (simp only [A_many, c_1_0, c_1_1, c_1_2, c_1_3]; rw [vs_all hst]; simp [nIeq]))

set_option maxHeartbeats 4000000 in
set_option maxRecDepth 100000 in
theorem c_X2_sheet (l : Launch) (D : va_G) (cI cS : ClassId) (ad : Nat → Nat) (sh : Nat → Bool) (sla : Nat → Nat) (sle : Nat → Nat) (sf : Nat → Nat → Int32) (n : Nat) (fo : Nat) (ki : Nat → Nat) (st : Nat → Nat) (we : Nat → Nat) (lo : Nat → Nat) (n2 : Nat) (go : Nat) (kj : Nat → Nat) (sj : Nat → Nat) (wj : Nat → Nat) (lj : Nat → Nat) (ti : Nat → Int32) (rc : Nat → Nat) (rv : Nat → Nat) (rd : Nat) (tr : Int32) (fa : Nat) (k : Int32) (v : Int32) (i : Int32) (hnd : nd (adX ad)) (hsla : ∀ j, sla j ≤ 2) (hsle : ∀ j, sle j ≤ 60) : Met l yX2_sheet wsX2_sheet ({ frames := 2, cells := 0, slots := 0, locals := 44 }) (PR D cI cS [.ref (ad 0), .int k, .int v, .int i] (wX cI cS ad sh sla sle sf n fo ki st we lo n2 go kj sj wj lj ti rc rv rd tr fa)) (va_Qi (fun r (zz : Unit) => r = A_sheet k v i) (fun (zz : Unit) t => va_P D vwCl (wX cI cS ad (ifU (okSheet k v i) sh k.toNatClampNeg true) (ifU (okSheet k v i) sla k.toNatClampNeg v.toNatClampNeg) (ifU (okSheet k v i) sle k.toNatClampNeg i.toNatClampNeg) (ifU (okSheet k v i) sf k.toNatClampNeg (clrF i.toNatClampNeg (sf k.toNatClampNeg))) n fo ki st we lo n2 go kj sj wj lj ti rc rv rd tr (S_sheet k v i)) t.heap) (AW (adX ad))) 0 0 (AW (adX ad)) := by
  refine startM (by decide) rfl (Nat.le_of_ble_eq_true rfl) hnd rfl ?_
  intro p e s m below meth c hx hb hr hts hown hlk hml hG hP hD hS ls hl
  have hl : lv_has ls 5 [(0, .ref (ad 0)), (1, .int k), (2, .int v), (3, .int i)] := hl
  have f44 := hts (.fieldLink RX2 44 "ChairBallot" "latestFault" "I") (by decide +kernel)
  have yX2 : ∀ w ∈ u_ws RX2 TX2 9, w.before _ s = true := fun w h => hts w ((by decide +kernel : ∀ w ∈ wsX20, w ∈ wsX2_sheet) w h)
  have hF : CallFix p m c cX2_sheet 5 s _ wsX2_sheet RX2 := ⟨hx, hb, hml, hown, hts⟩
  refine lv_aload_n hx hb dX2_sheet_0 rfl (lv_at hl 0 rfl) ?_
  refine lv_iconst (v := nI 0) hx hb dX2_sheet_1 (by decide) ?_
  refine va_put (D := D) (ci := 2) (v := .int (nI 0)) (ty := .int) (C := RX2) (T := TX2) (N := 9) hx hb yX2 (fun _ h => h) tyX2 tyX2_ok nmX2 hown hG.1 hP hD hS 0 rfl rfl 8 (by decide) f44 (fun _ h => h) rfl (by decide +kernel) rfl rfl (Nat.le_of_ble_eq_true rfl) dX2_sheet_2 (fun H locs hP hD hS => ?_)
  have hP : va_P D vwCl (wX cI cS ad sh sla sle sf n fo ki st we lo n2 go kj sj wj lj ti rc rv rd tr 0) H := hP
  have hD : va_D (AW (adX ad)) (wX cI cS ad sh sla sle sf n fo ki st we lo n2 go kj sj wj lj ti rc rv rd tr 0) := hD
  refine lv_aload_n hx hb dX2_sheet_5 rfl (lv_at hl 0 rfl) ?_
  refine lv_iload_n hx hb dX2_sheet_6 rfl (lv_at hl 1 rfl) ?_
  rcases b_tf (rgB 0 3 k) with hkk | hkk
  ·
    refine xrda (va_runV (As := [.int k]) (rest := []) hF (c_X2_sheetAtN l D cI cS ad sh sla sle sf n fo ki st we lo n2 go kj sj wj lj ti rc rv rd tr 0 k (by first | assumption | omega)) (cwV 1 hts gX2_sheet_X2_sheetAt rfl rfl rfl hV_X2_sheetAt ⟨Nat.le_of_ble_eq_true rfl, Nat.le_of_ble_eq_true rfl⟩) (PR.preV hG hP (ci := 2) rfl rfl) rfl rfl hl.1 rfl (lv_room (Nat.le_of_ble_eq_true rfl)) dX2_sheet_7 ⟨Nat.le_refl _, Nat.le_refl _⟩) ?_
    refine lv_astoreN (lv' := [(4, .null), (0, .ref (ad 0)), (1, .int k), (2, .int v), (3, .int i)]) hx hb dX2_sheet_10 hl (by decide) rfl (fun ls hl => ?_)
    refine lv_aloadN hx hb dX2_sheet_12 (lv_at hl 0 rfl) ?_
    refine lv_ifnonnullN hx hb dX2_sheet_14 ?_
    refine lv_iconst (v := (-1)) hx hb dX2_sheet_17 (by decide) ?_
    exact xretM hx hb hr hlk dX2_sheet_18 hS () (by simp [A_sheet, hkk]) (fun t ht => by rw [ht]; rw [show ifU (okSheet k v i) sh k.toNatClampNeg true = sh from by simp [okSheet, ifU, hkk]]; rw [show ifU (okSheet k v i) sla k.toNatClampNeg v.toNatClampNeg = sla from by simp [okSheet, ifU, hkk]]; rw [show ifU (okSheet k v i) sle k.toNatClampNeg i.toNatClampNeg = sle from by simp [okSheet, ifU, hkk]]; rw [show ifU (okSheet k v i) sf k.toNatClampNeg (clrF i.toNatClampNeg (sf k.toNatClampNeg)) = sf from by simp [okSheet, ifU, hkk]]; rw [show S_sheet k v i = 0 from by simp [S_sheet, hkk]]; exact hP)
  ·
    obtain ⟨j, hj0, hj3, rfl⟩ := rgB_nat (by decide) hkk
    have hclj := cl8 (j := j) (by omega)
    refine xrda (va_runV (As := [.int (nI j)]) (rest := []) hF (c_X2_sheetAt l D cI cS ad sh sla sle sf n fo ki st we lo n2 go kj sj wj lj ti rc rv rd tr 0 j (by first | assumption | omega)) (cwV 1 hts gX2_sheet_X2_sheetAt rfl rfl rfl hV_X2_sheetAt ⟨Nat.le_of_ble_eq_true rfl, Nat.le_of_ble_eq_true rfl⟩) (PR.preV hG hP (ci := 2) rfl rfl) rfl rfl hl.1 rfl (lv_room (Nat.le_of_ble_eq_true rfl)) dX2_sheet_7 ⟨Nat.le_refl _, Nat.le_refl _⟩) ?_
    refine lv_astore (lv' := [(4, .ref (ad (2 + 2 * j))), (0, .ref (ad 0)), (1, .int (nI j)), (2, .int v), (3, .int i)]) hx hb dX2_sheet_10 hl (by decide) rfl (fun ls hl => ?_)
    refine lv_aload hx hb dX2_sheet_12 (lv_at hl 0 rfl) ?_
    refine lv_ifnonnull (tgt := 19) hx hb dX2_sheet_14 (by decide) ?_
    refine lv_iload_n hx hb dX2_sheet_19 rfl (lv_at hl 3 rfl) ?_
    refine xrd (va_runS (As := [.int v]) (rest := []) hF (c_X2_isLane l D cI cS v ) (va_cwS 1 hts gX2_sheet_X2_isLane rfl rfl rfl hD_X2_isLane ⟨Nat.le_of_ble_eq_true rfl, Nat.le_of_ble_eq_true rfl⟩) (PR.pre hG (hP.sub (ws' := []) [] rfl)) rfl rfl hl.1 rfl (lv_room (Nat.le_of_ble_eq_true rfl)) dX2_sheet_20 ⟨Nat.le_refl _, Nat.le_refl _⟩) ?_
    refine lv_if_eq (tgt := 32) hx hb dX2_sheet_23 (by decide) (fun c_23 => ?_) (fun c_23 => ?_)
    ·
      replace c_23 := bI_0.mp c_23
      refine lv_bipush (v := (-2)) hx hb dX2_sheet_32 (by decide) ?_
      exact xretM hx hb hr hlk dX2_sheet_34 hS () (by simp [A_sheet, hkk, hclj, c_23]) (fun t ht => by rw [ht]; rw [show ifU (okSheet (nI j) v i) sh (nI j).toNatClampNeg true = sh from by simp [okSheet, ifU, hkk, hclj, c_23]]; rw [show ifU (okSheet (nI j) v i) sla (nI j).toNatClampNeg v.toNatClampNeg = sla from by simp [okSheet, ifU, hkk, hclj, c_23]]; rw [show ifU (okSheet (nI j) v i) sle (nI j).toNatClampNeg i.toNatClampNeg = sle from by simp [okSheet, ifU, hkk, hclj, c_23]]; rw [show ifU (okSheet (nI j) v i) sf (nI j).toNatClampNeg (clrF i.toNatClampNeg (sf (nI j).toNatClampNeg)) = sf from by simp [okSheet, ifU, hkk, hclj, c_23]]; rw [show S_sheet (nI j) v i = 0 from by simp [S_sheet, hkk, hclj, c_23]]; exact hP)
    ·
      replace c_23 := bI_n0.mp c_23
      obtain ⟨w, hw0, hw1, rfl⟩ := rgB_nat (by decide) c_23
      have hclw := cl8 (j := w) (by omega)
      refine lv_iload_n hx hb dX2_sheet_26 rfl (lv_at hl 4 rfl) ?_
      refine lv_bipush (v := nI 60) hx hb dX2_sheet_27 (by decide) ?_
      refine lv_icmp_le (tgt := 35) hx hb dX2_sheet_29 (by decide) (fun c_29 => ?_) (fun c_29 => ?_)
      ·
        replace c_29 : i.toInt ≤ 60 := (i32_lec (b := 60) (by omega)).mp c_29
        have hi60 : i.toInt ≤ 60 := by omega
        refine lv_iload_n hx hb dX2_sheet_35 rfl (lv_at hl 4 rfl) ?_
        refine lv_if_ge (tgt := 45) hx hb dX2_sheet_36 (by decide) (fun c_36 => ?_) (fun c_36 => ?_)
        ·
          replace c_36 : 0 ≤ i.toInt := (i32_gec (b := 0) (by omega)).mp c_36
          have hzi : rgB 0 60 i = true := rgB_y (by omega) (by omega)
          have hi0 : ¬ i.toInt < 0 := by omega
          obtain ⟨u, hu0, hu1, rfl⟩ := rgB_nat (by decide) hzi
          have hclu := cl8 (j := u) (by omega)
          refine lv_aload hx hb dX2_sheet_45 (lv_at hl 0 rfl) ?_
          refine lv_iload_n hx hb dX2_sheet_47 rfl (lv_at hl 3 rfl) ?_
          refine lv_iload_n hx hb dX2_sheet_48 rfl (lv_at hl 4 rfl) ?_
          refine xmuv (wc := (wSheet cI (ad (2 + 2 * j)) (ad (3 + 2 * j)) (sh j) (sla j) (sle j) (sf j))) (va_runV (As := [.int (nI w), .int (nI u)]) (rest := []) hF (c_X1_getsRow l D cI cS (ad (2 + 2 * j)) (ad (3 + 2 * j)) (sh j) (sla j) (sle j) (sf j) w u (ndX (j := j) (by omega) hnd) (by first | assumption | omega) (by first | assumption | omega)) (cwV 2 hts gX2_sheet_X1_getsRow rfl rfl rfl hV_X1_getsRow ⟨Nat.le_of_ble_eq_true rfl, Nat.le_of_ble_eq_true rfl⟩) (PR.preV hG (hP.sub (ws' := (wSheet cI (ad (2 + 2 * j)) (ad (3 + 2 * j)) (sh j) (sla j) (sle j) (sf j))) [2 + 2 * j, 3 + 2 * j] (wX_sub (j := j) (by omega))) (ci := 1) rfl rfl) rfl rfl hl.1 rfl (lv_room (Nat.le_of_ble_eq_true rfl)) dX2_sheet_49 ⟨Nat.le_refl _, Nat.le_refl _⟩) hP hD hS [2 + 2 * j, 3 + 2 * j] (wX_map (j := j) (by omega)) rfl (fun _ => rfl) (fun u_49 H locs q_49 hP hD hS => ?_)
          try dsimp only at q_49 hP hD
          rw [wX_xset (j := j) (by omega)] at hP hD
          have hP : va_P D vwCl (wX cI cS ad (va_up sh j true) (va_up sla j w) (va_up sle j u) (va_up sf j (clrF u (sf j))) n fo ki st we lo n2 go kj sj wj lj ti rc rv rd tr 0) H := hP
          have hD : va_D (AW (adX ad)) (wX cI cS ad (va_up sh j true) (va_up sla j w) (va_up sle j u) (va_up sf j (clrF u (sf j))) n fo ki st we lo n2 go kj sj wj lj ti rc rv rd tr 0) := hD
          refine lv_iconst (v := nI 1) hx hb dX2_sheet_52 (by decide) ?_
          exact xretM hx hb hr hlk dX2_sheet_53 hS () (by simp [A_sheet, hkk, hclj, c_23, hclw, c_29, hi60, c_36, hzi, hi0, hclu]) (fun t ht => by rw [ht]; rw [show ifU (okSheet (nI j) (nI w) (nI u)) sh (nI j).toNatClampNeg true = (va_up sh j true) from by simp [okSheet, ifU, hkk, hclj, c_23, hclw, c_29, hi60, c_36, hzi, hi0, hclu]]; rw [show ifU (okSheet (nI j) (nI w) (nI u)) sla (nI j).toNatClampNeg (nI w).toNatClampNeg = (va_up sla j w) from by simp [okSheet, ifU, hkk, hclj, c_23, hclw, c_29, hi60, c_36, hzi, hi0, hclu]]; rw [show ifU (okSheet (nI j) (nI w) (nI u)) sle (nI j).toNatClampNeg (nI u).toNatClampNeg = (va_up sle j u) from by simp [okSheet, ifU, hkk, hclj, c_23, hclw, c_29, hi60, c_36, hzi, hi0, hclu]]; rw [show ifU (okSheet (nI j) (nI w) (nI u)) sf (nI j).toNatClampNeg (clrF (nI u).toNatClampNeg (sf (nI j).toNatClampNeg)) = (va_up sf j (clrF u (sf j))) from by simp [okSheet, ifU, hkk, hclj, c_23, hclw, c_29, hi60, c_36, hzi, hi0, hclu]]; rw [show S_sheet (nI j) (nI w) (nI u) = 0 from by simp [S_sheet, hkk, hclj, c_23, hclw, c_29, hi60, c_36, hzi, hi0, hclu]]; exact hP)
        ·
          replace c_36 : ¬ 0 ≤ i.toInt := (not_congr (i32_gec (b := 0) (by omega))).mp c_36
          have hi0 : i.toInt < 0 := by omega
          have hzi : rgB 0 60 i = false := rgB_n1 hi0
          refine lv_aload_n hx hb dX2_sheet_39 rfl (lv_at hl 1 rfl) ?_
          refine lv_iconst (v := nI 4) hx hb dX2_sheet_40 (by decide) ?_
          refine xmuW (va_runV (As := [.int (nI 4)]) (rest := []) hF (c_X2_faulted l D cI cS ad sh sla sle sf n fo ki st we lo n2 go kj sj wj lj ti rc rv rd tr 0 4 hnd) (cwV 1 hts gX2_sheet_X2_faulted rfl rfl rfl hV_X2_faulted ⟨Nat.le_of_ble_eq_true rfl, Nat.le_of_ble_eq_true rfl⟩) (PR.preV hG hP (ci := 2) rfl rfl) rfl rfl hl.1 rfl (lv_room (Nat.le_of_ble_eq_true rfl)) dX2_sheet_41 ⟨Nat.le_refl _, Nat.le_refl _⟩) hD hS rfl (fun _ => rfl) (fun r_41 u_41 H locs q_41 hP hD hS => ?_)
          try dsimp only at q_41 hP hD
          have e_41 := q_41
          subst e_41
          have hP : va_P D vwCl (wX cI cS ad sh sla sle sf n fo ki st we lo n2 go kj sj wj lj ti rc rv rd tr 4) H := hP
          have hD : va_D (AW (adX ad)) (wX cI cS ad sh sla sle sf n fo ki st we lo n2 go kj sj wj lj ti rc rv rd tr 4) := hD
          exact xretM hx hb hr hlk dX2_sheet_44 hS () (by simp [A_sheet, hkk, hclj, c_23, hclw, c_29, hi60, c_36, hzi, hi0]) (fun t ht => by rw [ht]; rw [show ifU (okSheet (nI j) (nI w) i) sh (nI j).toNatClampNeg true = sh from by simp [okSheet, ifU, hkk, hclj, c_23, hclw, c_29, hi60, c_36, hzi, hi0]]; rw [show ifU (okSheet (nI j) (nI w) i) sla (nI j).toNatClampNeg (nI w).toNatClampNeg = sla from by simp [okSheet, ifU, hkk, hclj, c_23, hclw, c_29, hi60, c_36, hzi, hi0]]; rw [show ifU (okSheet (nI j) (nI w) i) sle (nI j).toNatClampNeg i.toNatClampNeg = sle from by simp [okSheet, ifU, hkk, hclj, c_23, hclw, c_29, hi60, c_36, hzi, hi0]]; rw [show ifU (okSheet (nI j) (nI w) i) sf (nI j).toNatClampNeg (clrF i.toNatClampNeg (sf (nI j).toNatClampNeg)) = sf from by simp [okSheet, ifU, hkk, hclj, c_23, hclw, c_29, hi60, c_36, hzi, hi0]]; rw [show S_sheet (nI j) (nI w) i = 4 from by simp [S_sheet, hkk, hclj, c_23, hclw, c_29, hi60, c_36, hzi, hi0]]; exact hP)
      ·
        replace c_29 : ¬ i.toInt ≤ 60 := (not_congr (i32_lec (b := 60) (by omega))).mp c_29
        have hzi : rgB 0 60 i = false := rgB_n2 (by omega)
        have hi0 : ¬ i.toInt < 0 := by omega
        refine lv_bipush (v := (-2)) hx hb dX2_sheet_32 (by decide) ?_
        exact xretM hx hb hr hlk dX2_sheet_34 hS () (by simp [A_sheet, hkk, hclj, c_23, hclw, c_29, hzi, hi0]) (fun t ht => by rw [ht]; rw [show ifU (okSheet (nI j) (nI w) i) sh (nI j).toNatClampNeg true = sh from by simp [okSheet, ifU, hkk, hclj, c_23, hclw, c_29, hzi, hi0]]; rw [show ifU (okSheet (nI j) (nI w) i) sla (nI j).toNatClampNeg (nI w).toNatClampNeg = sla from by simp [okSheet, ifU, hkk, hclj, c_23, hclw, c_29, hzi, hi0]]; rw [show ifU (okSheet (nI j) (nI w) i) sle (nI j).toNatClampNeg i.toNatClampNeg = sle from by simp [okSheet, ifU, hkk, hclj, c_23, hclw, c_29, hzi, hi0]]; rw [show ifU (okSheet (nI j) (nI w) i) sf (nI j).toNatClampNeg (clrF i.toNatClampNeg (sf (nI j).toNatClampNeg)) = sf from by simp [okSheet, ifU, hkk, hclj, c_23, hclw, c_29, hzi, hi0]]; rw [show S_sheet (nI j) (nI w) i = 0 from by simp [S_sheet, hkk, hclj, c_23, hclw, c_29, hzi, hi0]]; exact hP)

set_option maxHeartbeats 4000000 in
set_option maxRecDepth 100000 in
theorem c_X2_lose (l : Launch) (D : va_G) (cI cS : ClassId) (ad : Nat → Nat) (sh : Nat → Bool) (sla : Nat → Nat) (sle : Nat → Nat) (sf : Nat → Nat → Int32) (n : Nat) (fo : Nat) (ki : Nat → Nat) (st : Nat → Nat) (we : Nat → Nat) (lo : Nat → Nat) (n2 : Nat) (go : Nat) (kj : Nat → Nat) (sj : Nat → Nat) (wj : Nat → Nat) (lj : Nat → Nat) (ti : Nat → Int32) (rc : Nat → Nat) (rv : Nat → Nat) (rd : Nat) (tr : Int32) (fa : Nat) (k : Int32) (hnd : nd (adX ad)) : Met l yX2_lose wsX2_lose ({ frames := 1, cells := 0, slots := 0, locals := 21 }) (PR D cI cS [.ref (ad 0), .int k] (wX cI cS ad sh sla sle sf n fo ki st we lo n2 go kj sj wj lj ti rc rv rd tr fa)) (va_Qi (fun r (zz : Unit) => r = A_lose sh k) (fun (zz : Unit) t => va_P D vwCl (wX cI cS ad (ifU (rgB 0 3 k) sh k.toNatClampNeg false) sla sle sf n fo ki st we lo n2 go kj sj wj lj ti rc rv rd tr fa) t.heap) (AW (adX ad))) 0 0 (AW (adX ad)) := by
  refine startM (by decide) rfl (Nat.le_of_ble_eq_true rfl) hnd rfl ?_
  intro p e s m below meth c hx hb hr hts hown hlk hml hG hP hD hS ls hl
  have hl : lv_has ls 4 [(0, .ref (ad 0)), (1, .int k)] := hl
  have f233 := hts (.fieldLink RX2 233 "ChairBallot$Sheet" "hasRow" "Z") (by decide +kernel)
  have yX1 : ∀ w ∈ u_ws RX1 TX1 4, w.before _ s = true := fun w h => hts w ((by decide +kernel : ∀ w ∈ wsX10, w ∈ wsX2_lose) w h)
  have hF : CallFix p m c cX2_lose 4 s _ wsX2_lose RX2 := ⟨hx, hb, hml, hown, hts⟩
  refine lv_aload_n hx hb dX2_lose_0 rfl (lv_at hl 0 rfl) ?_
  refine lv_iload_n hx hb dX2_lose_1 rfl (lv_at hl 1 rfl) ?_
  rcases b_tf (rgB 0 3 k) with hkk | hkk
  ·
    refine xrda (va_runV (As := [.int k]) (rest := []) hF (c_X2_sheetAtN l D cI cS ad sh sla sle sf n fo ki st we lo n2 go kj sj wj lj ti rc rv rd tr fa k (by first | assumption | omega)) (cwV 1 hts gX2_lose_X2_sheetAt rfl rfl rfl hV_X2_sheetAt ⟨Nat.le_of_ble_eq_true rfl, Nat.le_of_ble_eq_true rfl⟩) (PR.preV hG hP (ci := 2) rfl rfl) rfl rfl hl.1 rfl (lv_room (Nat.le_of_ble_eq_true rfl)) dX2_lose_2 ⟨Nat.le_refl _, Nat.le_refl _⟩) ?_
    refine lv_astore_nN (lv' := [(2, .null), (0, .ref (ad 0)), (1, .int k)]) hx hb dX2_lose_5 rfl hl (by decide) rfl (fun ls hl => ?_)
    refine lv_aload_nN hx hb dX2_lose_6 rfl (lv_at hl 0 rfl) ?_
    refine lv_ifnonnullN hx hb dX2_lose_7 ?_
    refine lv_iconst (v := (-1)) hx hb dX2_lose_10 (by decide) ?_
    exact xretM hx hb hr hlk dX2_lose_11 hS () (by simp [A_lose, bI_true, bI_false, hkk]) (fun t ht => by rw [ht]; rw [show ifU (rgB 0 3 k) sh k.toNatClampNeg false = sh from by simp [ifU, hkk]]; exact hP)
  ·
    obtain ⟨j, hj0, hj3, rfl⟩ := rgB_nat (by decide) hkk
    have hclj := cl8 (j := j) (by omega)
    refine xrda (va_runV (As := [.int (nI j)]) (rest := []) hF (c_X2_sheetAt l D cI cS ad sh sla sle sf n fo ki st we lo n2 go kj sj wj lj ti rc rv rd tr fa j (by first | assumption | omega)) (cwV 1 hts gX2_lose_X2_sheetAt rfl rfl rfl hV_X2_sheetAt ⟨Nat.le_of_ble_eq_true rfl, Nat.le_of_ble_eq_true rfl⟩) (PR.preV hG hP (ci := 2) rfl rfl) rfl rfl hl.1 rfl (lv_room (Nat.le_of_ble_eq_true rfl)) dX2_lose_2 ⟨Nat.le_refl _, Nat.le_refl _⟩) ?_
    refine lv_astore_n (lv' := [(2, .ref (ad (2 + 2 * j))), (0, .ref (ad 0)), (1, .int (nI j))]) hx hb dX2_lose_5 rfl hl (by decide) rfl (fun ls hl => ?_)
    refine lv_aload_n hx hb dX2_lose_6 rfl (lv_at hl 0 rfl) ?_
    refine lv_ifnonnull (tgt := 12) hx hb dX2_lose_7 (by decide) ?_
    refine lv_aload_n hx hb dX2_lose_12 rfl (lv_at hl 0 rfl) ?_
    refine va_get (D := D) (ci := 1) (v := .int (bI (sh j))) (C := RX1) (T := TX1) (N := 4) hx hb yX1 (fun _ h => h) hown hG.1 hP (2 + 2 * j) (wX_so (j := j) (by omega)) rfl 1 (by decide) f233 (fun _ h => h) rfl dX2_lose_13 ?_
    refine lv_istore_n (lv' := [(3, .int (bI (sh j))), (2, .ref (ad (2 + 2 * j))), (0, .ref (ad 0)), (1, .int (nI j))]) hx hb dX2_lose_16 rfl hl (by decide) rfl (fun ls hl => ?_)
    refine lv_aload_n hx hb dX2_lose_17 rfl (lv_at hl 1 rfl) ?_
    refine lv_iconst (v := nI 0) hx hb dX2_lose_18 (by decide) ?_
    refine xtop (x' := bI false) rfl ?_
    refine va_put (D := D) (ci := 1) (v := .int (bI false)) (ty := .boolean) (C := RX1) (T := TX1) (N := 4) hx hb yX1 (fun _ h => h) tyX1 tyX1_ok nmX1 hown hG.1 hP hD hS (2 + 2 * j) (wX_so (j := j) (by omega)) rfl 1 (by decide) f233 (fun _ h => h) rfl (by decide +kernel) bI_nar bI_fit (Nat.le_of_ble_eq_true rfl) dX2_lose_19 (fun H locs hP hD hS => ?_)
    have hP := (wX_setO (j := j) (by omega)) ▸ hP
    have hD := (wX_setO (j := j) (by omega)) ▸ hD
    have hP : va_P D vwCl (wX cI cS ad (va_up sh j false) sla sle sf n fo ki st we lo n2 go kj sj wj lj ti rc rv rd tr fa) H := hP
    have hD : va_D (AW (adX ad)) (wX cI cS ad (va_up sh j false) sla sle sf n fo ki st we lo n2 go kj sj wj lj ti rc rv rd tr fa) := hD
    refine lv_iload_n hx hb dX2_lose_22 rfl (lv_at hl 0 rfl) ?_
    refine lv_if_eq (tgt := 30) hx hb dX2_lose_23 (by decide) (fun c_23 => ?_) (fun c_23 => ?_)
    ·
      replace c_23 := bI_0.mp c_23
      refine lv_iconst (v := nI 0) hx hb dX2_lose_30 (by decide) ?_
      exact xretM hx hb hr hlk dX2_lose_31 hS () (by simp [A_lose, bI_true, bI_false, hkk, hclj, c_23]) (fun t ht => by rw [ht]; rw [show ifU (rgB 0 3 (nI j)) sh (nI j).toNatClampNeg false = (va_up sh j false) from by simp [ifU, hkk, hclj, c_23]]; exact hP)
    ·
      replace c_23 := bI_n0.mp c_23
      refine lv_iconst (v := nI 1) hx hb dX2_lose_26 (by decide) ?_
      refine lv_goto (tgt := 31) hx hb dX2_lose_27 (by decide) ?_
      exact xretM hx hb hr hlk dX2_lose_31 hS () (by simp [A_lose, bI_true, bI_false, hkk, hclj, c_23]) (fun t ht => by rw [ht]; rw [show ifU (rgB 0 3 (nI j)) sh (nI j).toNatClampNeg false = (va_up sh j false) from by simp [ifU, hkk, hclj, c_23]]; exact hP)

set_option maxHeartbeats 4000000 in
set_option maxRecDepth 100000 in
theorem c_X2_put (l : Launch) (D : va_G) (cI cS : ClassId) (ad : Nat → Nat) (sh : Nat → Bool) (sla : Nat → Nat) (sle : Nat → Nat) (sf : Nat → Nat → Int32) (n : Nat) (fo : Nat) (ki : Nat → Nat) (st : Nat → Nat) (we : Nat → Nat) (lo : Nat → Nat) (n2 : Nat) (go : Nat) (kj : Nat → Nat) (sj : Nat → Nat) (wj : Nat → Nat) (lj : Nat → Nat) (ti : Nat → Int32) (rc : Nat → Nat) (rv : Nat → Nat) (rd : Nat) (tr : Int32) (fa : Nat) (k : Int32) (i : Int32) (v : Int32) (hnd : nd (adX ad)) (hsla : ∀ j, sla j ≤ 2) (hsle : ∀ j, sle j ≤ 60) : Met l yX2_put wsX2_put ({ frames := 2, cells := 0, slots := 0, locals := 44 }) (PR D cI cS [.ref (ad 0), .int k, .int i, .int v] (wX cI cS ad sh sla sle sf n fo ki st we lo n2 go kj sj wj lj ti rc rv rd tr fa)) (va_Qi (fun r (zz : Unit) => r = A_put sh sle k i) (fun (zz : Unit) t => va_P D vwCl (wX cI cS ad sh sla sle (ifU (okPut sh sle k i) sf k.toNatClampNeg (upd (sf k.toNatClampNeg) i.toNatClampNeg (cutF (sla k.toNatClampNeg) v))) n fo ki st we lo n2 go kj sj wj lj ti rc rv rd tr (S_put sh sle k i)) t.heap) (AW (adX ad))) 0 0 (AW (adX ad)) := by
  refine startM (by decide) rfl (Nat.le_of_ble_eq_true rfl) hnd rfl ?_
  intro p e s m below meth c hx hb hr hts hown hlk hml hG hP hD hS ls hl
  have hl : lv_has ls 5 [(0, .ref (ad 0)), (1, .int k), (2, .int i), (3, .int v)] := hl
  have f44 := hts (.fieldLink RX2 44 "ChairBallot" "latestFault" "I") (by decide +kernel)
  have f233 := hts (.fieldLink RX2 233 "ChairBallot$Sheet" "hasRow" "Z") (by decide +kernel)
  have yX1 : ∀ w ∈ u_ws RX1 TX1 4, w.before _ s = true := fun w h => hts w ((by decide +kernel : ∀ w ∈ wsX10, w ∈ wsX2_put) w h)
  have yX2 : ∀ w ∈ u_ws RX2 TX2 9, w.before _ s = true := fun w h => hts w ((by decide +kernel : ∀ w ∈ wsX20, w ∈ wsX2_put) w h)
  have hF : CallFix p m c cX2_put 5 s _ wsX2_put RX2 := ⟨hx, hb, hml, hown, hts⟩
  refine lv_aload_n hx hb dX2_put_0 rfl (lv_at hl 0 rfl) ?_
  refine lv_iconst (v := nI 0) hx hb dX2_put_1 (by decide) ?_
  refine va_put (D := D) (ci := 2) (v := .int (nI 0)) (ty := .int) (C := RX2) (T := TX2) (N := 9) hx hb yX2 (fun _ h => h) tyX2 tyX2_ok nmX2 hown hG.1 hP hD hS 0 rfl rfl 8 (by decide) f44 (fun _ h => h) rfl (by decide +kernel) rfl rfl (Nat.le_of_ble_eq_true rfl) dX2_put_2 (fun H locs hP hD hS => ?_)
  have hP : va_P D vwCl (wX cI cS ad sh sla sle sf n fo ki st we lo n2 go kj sj wj lj ti rc rv rd tr 0) H := hP
  have hD : va_D (AW (adX ad)) (wX cI cS ad sh sla sle sf n fo ki st we lo n2 go kj sj wj lj ti rc rv rd tr 0) := hD
  refine lv_aload_n hx hb dX2_put_5 rfl (lv_at hl 0 rfl) ?_
  refine lv_iload_n hx hb dX2_put_6 rfl (lv_at hl 1 rfl) ?_
  rcases b_tf (rgB 0 3 k) with hkk | hkk
  ·
    refine xrda (va_runV (As := [.int k]) (rest := []) hF (c_X2_sheetAtN l D cI cS ad sh sla sle sf n fo ki st we lo n2 go kj sj wj lj ti rc rv rd tr 0 k (by first | assumption | omega)) (cwV 1 hts gX2_put_X2_sheetAt rfl rfl rfl hV_X2_sheetAt ⟨Nat.le_of_ble_eq_true rfl, Nat.le_of_ble_eq_true rfl⟩) (PR.preV hG hP (ci := 2) rfl rfl) rfl rfl hl.1 rfl (lv_room (Nat.le_of_ble_eq_true rfl)) dX2_put_7 ⟨Nat.le_refl _, Nat.le_refl _⟩) ?_
    refine lv_astoreN (lv' := [(4, .null), (0, .ref (ad 0)), (1, .int k), (2, .int i), (3, .int v)]) hx hb dX2_put_10 hl (by decide) rfl (fun ls hl => ?_)
    refine lv_aloadN hx hb dX2_put_12 (lv_at hl 0 rfl) ?_
    refine lv_ifnonnullN hx hb dX2_put_14 ?_
    refine lv_iconst (v := (-1)) hx hb dX2_put_17 (by decide) ?_
    exact xretM hx hb hr hlk dX2_put_18 hS () (by simp [A_put, hkk]) (fun t ht => by rw [ht]; rw [show S_put sh sle k i = 0 from by simp [S_put, hkk]]; rw [show ifU (okPut sh sle k i) sf k.toNatClampNeg (upd (sf k.toNatClampNeg) i.toNatClampNeg (cutF (sla k.toNatClampNeg) v)) = sf from by simp [okPut, ifU, hkk]]; exact hP)
  ·
    obtain ⟨j, hj0, hj3, rfl⟩ := rgB_nat (by decide) hkk
    have hclj := cl8 (j := j) (by omega)
    have hsj := hsle j
    have hsaj := hsla j
    refine xrda (va_runV (As := [.int (nI j)]) (rest := []) hF (c_X2_sheetAt l D cI cS ad sh sla sle sf n fo ki st we lo n2 go kj sj wj lj ti rc rv rd tr 0 j (by first | assumption | omega)) (cwV 1 hts gX2_put_X2_sheetAt rfl rfl rfl hV_X2_sheetAt ⟨Nat.le_of_ble_eq_true rfl, Nat.le_of_ble_eq_true rfl⟩) (PR.preV hG hP (ci := 2) rfl rfl) rfl rfl hl.1 rfl (lv_room (Nat.le_of_ble_eq_true rfl)) dX2_put_7 ⟨Nat.le_refl _, Nat.le_refl _⟩) ?_
    refine lv_astore (lv' := [(4, .ref (ad (2 + 2 * j))), (0, .ref (ad 0)), (1, .int (nI j)), (2, .int i), (3, .int v)]) hx hb dX2_put_10 hl (by decide) rfl (fun ls hl => ?_)
    refine lv_aload hx hb dX2_put_12 (lv_at hl 0 rfl) ?_
    refine lv_ifnonnull (tgt := 19) hx hb dX2_put_14 (by decide) ?_
    refine lv_aload hx hb dX2_put_19 (lv_at hl 0 rfl) ?_
    refine va_get (D := D) (ci := 1) (v := .int (bI (sh j))) (C := RX1) (T := TX1) (N := 4) hx hb yX1 (fun _ h => h) hown hG.1 hP (2 + 2 * j) (wX_so (j := j) (by omega)) rfl 1 (by decide) f233 (fun _ h => h) rfl dX2_put_21 ?_
    refine lv_if_ne (tgt := 33) hx hb dX2_put_24 (by decide) (fun c_24 => ?_) (fun c_24 => ?_)
    ·
      replace c_24 := bI_n0.mp c_24
      refine lv_aload hx hb dX2_put_33 (lv_at hl 0 rfl) ?_
      refine lv_iload_n hx hb dX2_put_35 rfl (lv_at hl 3 rfl) ?_
      refine lv_iconst (v := nI 1) hx hb dX2_put_36 (by decide) ?_
      refine xrd (va_runV (As := [.int i, .int (nI 1)]) (rest := []) hF (c_X1_holds l D cI cS (ad (2 + 2 * j)) (ad (3 + 2 * j)) (sh j) (sla j) (sle j) (sf j) i (nI 1) (by first | assumption | omega)) (cwV 2 hts gX2_put_X1_holds rfl rfl rfl hV_X1_holds ⟨Nat.le_of_ble_eq_true rfl, Nat.le_of_ble_eq_true rfl⟩) (PR.preV hG (hP.sub (ws' := (wSheet cI (ad (2 + 2 * j)) (ad (3 + 2 * j)) (sh j) (sla j) (sle j) (sf j))) [2 + 2 * j, 3 + 2 * j] (wX_sub (j := j) (by omega))) (ci := 1) rfl rfl) rfl rfl hl.1 rfl (lv_room (Nat.le_of_ble_eq_true rfl)) dX2_put_37 ⟨Nat.le_refl _, Nat.le_refl _⟩) ?_
      refine lv_if_ne (tgt := 49) hx hb dX2_put_40 (by decide) (fun c_40 => ?_) (fun c_40 => ?_)
      ·
        replace c_40 := bI_n0.mp c_40
        obtain ⟨u, hu, rfl⟩ := hldB_at c_40
        have hclu := cl8 (j := u) (by omega)
        refine lv_aload hx hb dX2_put_49 (lv_at hl 0 rfl) ?_
        refine lv_iload_n hx hb dX2_put_51 rfl (lv_at hl 3 rfl) ?_
        refine lv_iload_n hx hb dX2_put_52 rfl (lv_at hl 4 rfl) ?_
        refine xmuv (wc := (wSheet cI (ad (2 + 2 * j)) (ad (3 + 2 * j)) (sh j) (sla j) (sle j) (sf j))) (va_runV (As := [.int (nI u), .int v]) (rest := []) hF (c_X1_becomesAt l D cI cS (ad (2 + 2 * j)) (ad (3 + 2 * j)) (sh j) (sla j) (sle j) (sf j) u v (ndX (j := j) (by omega) hnd) (by first | assumption | omega) (by first | assumption | omega) (by first | assumption | omega)) (cwV 2 hts gX2_put_X1_becomesAt rfl rfl rfl hV_X1_becomesAt ⟨Nat.le_of_ble_eq_true rfl, Nat.le_of_ble_eq_true rfl⟩) (PR.preV hG (hP.sub (ws' := (wSheet cI (ad (2 + 2 * j)) (ad (3 + 2 * j)) (sh j) (sla j) (sle j) (sf j))) [2 + 2 * j, 3 + 2 * j] (wX_sub (j := j) (by omega))) (ci := 1) rfl rfl) rfl rfl hl.1 rfl (lv_room (Nat.le_of_ble_eq_true rfl)) dX2_put_53 ⟨Nat.le_refl _, Nat.le_refl _⟩) hP hD hS [2 + 2 * j, 3 + 2 * j] (wX_map (j := j) (by omega)) rfl (fun _ => rfl) (fun u_53 H locs q_53 hP hD hS => ?_)
        try dsimp only at q_53 hP hD
        rw [wX_xset (j := j) (by omega)] at hP hD
        simp only [va_up_id] at hP hD
        have hP : va_P D vwCl (wX cI cS ad sh sla sle (va_up sf j (upd (sf j) u (cutF (sla j) v))) n fo ki st we lo n2 go kj sj wj lj ti rc rv rd tr 0) H := hP
        have hD : va_D (AW (adX ad)) (wX cI cS ad sh sla sle (va_up sf j (upd (sf j) u (cutF (sla j) v))) n fo ki st we lo n2 go kj sj wj lj ti rc rv rd tr 0) := hD
        refine lv_iconst (v := nI 1) hx hb dX2_put_56 (by decide) ?_
        exact xretM hx hb hr hlk dX2_put_57 hS () (by simp [A_put, hkk, hclj, c_24, c_40, hclu]) (fun t ht => by rw [ht]; rw [show S_put sh sle (nI j) (nI u) = 0 from by simp [S_put, hkk, hclj, c_24, c_40, hclu]]; rw [show ifU (okPut sh sle (nI j) (nI u)) sf (nI j).toNatClampNeg (upd (sf (nI j).toNatClampNeg) (nI u).toNatClampNeg (cutF (sla (nI j).toNatClampNeg) v)) = (va_up sf j (upd (sf j) u (cutF (sla j) v))) from by simp [okPut, ifU, hkk, hclj, c_24, c_40, hclu]]; exact hP)
      ·
        replace c_40 := bI_0.mp c_40
        refine lv_aload_n hx hb dX2_put_43 rfl (lv_at hl 1 rfl) ?_
        refine lv_iconst (v := nI 3) hx hb dX2_put_44 (by decide) ?_
        refine xmuW (va_runV (As := [.int (nI 3)]) (rest := []) hF (c_X2_faulted l D cI cS ad sh sla sle sf n fo ki st we lo n2 go kj sj wj lj ti rc rv rd tr 0 3 hnd) (cwV 1 hts gX2_put_X2_faulted rfl rfl rfl hV_X2_faulted ⟨Nat.le_of_ble_eq_true rfl, Nat.le_of_ble_eq_true rfl⟩) (PR.preV hG hP (ci := 2) rfl rfl) rfl rfl hl.1 rfl (lv_room (Nat.le_of_ble_eq_true rfl)) dX2_put_45 ⟨Nat.le_refl _, Nat.le_refl _⟩) hD hS rfl (fun _ => rfl) (fun r_45 u_45 H locs q_45 hP hD hS => ?_)
        try dsimp only at q_45 hP hD
        have e_45 := q_45
        subst e_45
        have hP : va_P D vwCl (wX cI cS ad sh sla sle sf n fo ki st we lo n2 go kj sj wj lj ti rc rv rd tr 3) H := hP
        have hD : va_D (AW (adX ad)) (wX cI cS ad sh sla sle sf n fo ki st we lo n2 go kj sj wj lj ti rc rv rd tr 3) := hD
        exact xretM hx hb hr hlk dX2_put_48 hS () (by simp [A_put, hkk, hclj, c_24, c_40]) (fun t ht => by rw [ht]; rw [show S_put sh sle (nI j) i = 3 from by simp [S_put, hkk, hclj, c_24, c_40]]; rw [show ifU (okPut sh sle (nI j) i) sf (nI j).toNatClampNeg (upd (sf (nI j).toNatClampNeg) i.toNatClampNeg (cutF (sla (nI j).toNatClampNeg) v)) = sf from by simp [okPut, ifU, hkk, hclj, c_24, c_40]]; exact hP)
    ·
      replace c_24 := bI_0.mp c_24
      refine lv_aload_n hx hb dX2_put_27 rfl (lv_at hl 1 rfl) ?_
      refine lv_iconst (v := nI 1) hx hb dX2_put_28 (by decide) ?_
      refine xmuW (va_runV (As := [.int (nI 1)]) (rest := []) hF (c_X2_faulted l D cI cS ad sh sla sle sf n fo ki st we lo n2 go kj sj wj lj ti rc rv rd tr 0 1 hnd) (cwV 1 hts gX2_put_X2_faulted rfl rfl rfl hV_X2_faulted ⟨Nat.le_of_ble_eq_true rfl, Nat.le_of_ble_eq_true rfl⟩) (PR.preV hG hP (ci := 2) rfl rfl) rfl rfl hl.1 rfl (lv_room (Nat.le_of_ble_eq_true rfl)) dX2_put_29 ⟨Nat.le_refl _, Nat.le_refl _⟩) hD hS rfl (fun _ => rfl) (fun r_29 u_29 H locs q_29 hP hD hS => ?_)
      try dsimp only at q_29 hP hD
      have e_29 := q_29
      subst e_29
      have hP : va_P D vwCl (wX cI cS ad sh sla sle sf n fo ki st we lo n2 go kj sj wj lj ti rc rv rd tr 1) H := hP
      have hD : va_D (AW (adX ad)) (wX cI cS ad sh sla sle sf n fo ki st we lo n2 go kj sj wj lj ti rc rv rd tr 1) := hD
      exact xretM hx hb hr hlk dX2_put_32 hS () (by simp [A_put, hkk, hclj, c_24]) (fun t ht => by rw [ht]; rw [show S_put sh sle (nI j) i = 1 from by simp [S_put, hkk, hclj, c_24]]; rw [show ifU (okPut sh sle (nI j) i) sf (nI j).toNatClampNeg (upd (sf (nI j).toNatClampNeg) i.toNatClampNeg (cutF (sla (nI j).toNatClampNeg) v)) = sf from by simp [okPut, ifU, hkk, hclj, c_24]]; exact hP)

set_option maxHeartbeats 4000000 in
set_option maxRecDepth 100000 in
theorem c_X2_cell (l : Launch) (D : va_G) (cI cS : ClassId) (ad : Nat → Nat) (sh : Nat → Bool) (sla : Nat → Nat) (sle : Nat → Nat) (sf : Nat → Nat → Int32) (n : Nat) (fo : Nat) (ki : Nat → Nat) (st : Nat → Nat) (we : Nat → Nat) (lo : Nat → Nat) (n2 : Nat) (go : Nat) (kj : Nat → Nat) (sj : Nat → Nat) (wj : Nat → Nat) (lj : Nat → Nat) (ti : Nat → Int32) (rc : Nat → Nat) (rv : Nat → Nat) (rd : Nat) (tr : Int32) (fa : Nat) (k : Int32) (i : Int32) (v : Int32) (hnd : nd (adX ad)) (hsla : ∀ j, sla j ≤ 2) (hsle : ∀ j, sle j ≤ 60) : Met l yX2_cell wsX2_cell ({ frames := 2, cells := 0, slots := 0, locals := 43 }) (PR D cI cS [.ref (ad 0), .int k, .int i, .int v] (wX cI cS ad sh sla sle sf n fo ki st we lo n2 go kj sj wj lj ti rc rv rd tr fa)) (va_Ql (fun r (zz : Unit) => r = A_cell sh sla sle sf k i v) (fun (zz : Unit) t => va_P D vwCl (wX cI cS ad sh sla sle sf n fo ki st we lo n2 go kj sj wj lj ti rc rv rd tr (S_cell sh sla sle k i v)) t.heap) (AW (adX ad))) 0 0 (AW (adX ad)) := by
  refine startM (by decide) rfl (Nat.le_of_ble_eq_true rfl) hnd rfl ?_
  intro p e s m below meth c hx hb hr hts hown hlk hml hG hP hD hS ls hl
  have hl : lv_has ls 5 [(0, .ref (ad 0)), (1, .int k), (2, .int i), (3, .int v)] := hl
  have f44 := hts (.fieldLink RX2 44 "ChairBallot" "latestFault" "I") (by decide +kernel)
  have yX2 : ∀ w ∈ u_ws RX2 TX2 9, w.before _ s = true := fun w h => hts w ((by decide +kernel : ∀ w ∈ wsX20, w ∈ wsX2_cell) w h)
  have hF : CallFix p m c cX2_cell 5 s _ wsX2_cell RX2 := ⟨hx, hb, hml, hown, hts⟩
  refine lv_aload_n hx hb dX2_cell_0 rfl (lv_at hl 0 rfl) ?_
  refine lv_iconst (v := nI 0) hx hb dX2_cell_1 (by decide) ?_
  refine va_put (D := D) (ci := 2) (v := .int (nI 0)) (ty := .int) (C := RX2) (T := TX2) (N := 9) hx hb yX2 (fun _ h => h) tyX2 tyX2_ok nmX2 hown hG.1 hP hD hS 0 rfl rfl 8 (by decide) f44 (fun _ h => h) rfl (by decide +kernel) rfl rfl (Nat.le_of_ble_eq_true rfl) dX2_cell_2 (fun H locs hP hD hS => ?_)
  have hP : va_P D vwCl (wX cI cS ad sh sla sle sf n fo ki st we lo n2 go kj sj wj lj ti rc rv rd tr 0) H := hP
  have hD : va_D (AW (adX ad)) (wX cI cS ad sh sla sle sf n fo ki st we lo n2 go kj sj wj lj ti rc rv rd tr 0) := hD
  refine lv_aload_n hx hb dX2_cell_5 rfl (lv_at hl 0 rfl) ?_
  refine lv_iload_n hx hb dX2_cell_6 rfl (lv_at hl 1 rfl) ?_
  rcases b_tf (rgB 0 3 k) with hkk | hkk
  ·
    refine xrda (va_runV (As := [.int k]) (rest := []) hF (c_X2_sheetAtN l D cI cS ad sh sla sle sf n fo ki st we lo n2 go kj sj wj lj ti rc rv rd tr 0 k (by first | assumption | omega)) (cwV 1 hts gX2_cell_X2_sheetAt rfl rfl rfl hV_X2_sheetAt ⟨Nat.le_of_ble_eq_true rfl, Nat.le_of_ble_eq_true rfl⟩) (PR.preV hG hP (ci := 2) rfl rfl) rfl rfl hl.1 rfl (lv_room (Nat.le_of_ble_eq_true rfl)) dX2_cell_7 ⟨Nat.le_refl _, Nat.le_refl _⟩) ?_
    refine lv_astoreN (lv' := [(4, .null), (0, .ref (ad 0)), (1, .int k), (2, .int i), (3, .int v)]) hx hb dX2_cell_10 hl (by decide) rfl (fun ls hl => ?_)
    refine lv_aloadN hx hb dX2_cell_12 (lv_at hl 0 rfl) ?_
    refine lv_ifnullN (tgt := 24) hx hb dX2_cell_14 (by decide) ?_
    refine lv_ldc2 (v := -9223372036854775808) hx hb hown (hts (.constantLong RX2 195 (-9223372036854775808)) (by decide +kernel)) dX2_cell_24 ?_
    exact xretMl hx hb hr hlk dX2_cell_27 hS () (by simp [A_cell, S_cell, hkk]) (fun t ht => by rw [ht]; rw [show S_cell sh sla sle k i v = 0 from by simp [S_cell, hkk]]; exact hP)
  ·
    obtain ⟨j, hj0, hj3, rfl⟩ := rgB_nat (by decide) hkk
    have hclj := cl8 (j := j) (by omega)
    have hsj := hsle j
    have hsaj := hsla j
    refine xrda (va_runV (As := [.int (nI j)]) (rest := []) hF (c_X2_sheetAt l D cI cS ad sh sla sle sf n fo ki st we lo n2 go kj sj wj lj ti rc rv rd tr 0 j (by first | assumption | omega)) (cwV 1 hts gX2_cell_X2_sheetAt rfl rfl rfl hV_X2_sheetAt ⟨Nat.le_of_ble_eq_true rfl, Nat.le_of_ble_eq_true rfl⟩) (PR.preV hG hP (ci := 2) rfl rfl) rfl rfl hl.1 rfl (lv_room (Nat.le_of_ble_eq_true rfl)) dX2_cell_7 ⟨Nat.le_refl _, Nat.le_refl _⟩) ?_
    refine lv_astore (lv' := [(4, .ref (ad (2 + 2 * j))), (0, .ref (ad 0)), (1, .int (nI j)), (2, .int i), (3, .int v)]) hx hb dX2_cell_10 hl (by decide) rfl (fun ls hl => ?_)
    refine lv_aload hx hb dX2_cell_12 (lv_at hl 0 rfl) ?_
    refine lv_ifnull hx hb dX2_cell_14 ?_
    refine lv_iload_n hx hb dX2_cell_17 rfl (lv_at hl 4 rfl) ?_
    refine xrd (va_runS (As := [.int v]) (rest := []) hF (c_X2_isLane l D cI cS v ) (va_cwS 1 hts gX2_cell_X2_isLane rfl rfl rfl hD_X2_isLane ⟨Nat.le_of_ble_eq_true rfl, Nat.le_of_ble_eq_true rfl⟩) (PR.pre hG (hP.sub (ws' := []) [] rfl)) rfl rfl hl.1 rfl (lv_room (Nat.le_of_ble_eq_true rfl)) dX2_cell_18 ⟨Nat.le_refl _, Nat.le_refl _⟩) ?_
    refine lv_if_ne (tgt := 28) hx hb dX2_cell_21 (by decide) (fun c_21 => ?_) (fun c_21 => ?_)
    ·
      replace c_21 := bI_n0.mp c_21
      obtain ⟨w, hw0, hw1, rfl⟩ := rgB_nat (by decide) c_21
      have hclw := cl8 (j := w) (by omega)
      have hfl := flt_le (sh j) (sla j) w
      refine lv_aload_n hx hb dX2_cell_28 rfl (lv_at hl 1 rfl) ?_
      refine lv_aload hx hb dX2_cell_29 (lv_at hl 0 rfl) ?_
      refine lv_iload_n hx hb dX2_cell_31 rfl (lv_at hl 4 rfl) ?_
      refine xrd (va_runV (As := [.int (nI w)]) (rest := [.ref (ad 0)]) hF (c_X1_faultAs l D cI cS (ad (2 + 2 * j)) (ad (3 + 2 * j)) (sh j) (sla j) (sle j) (sf j) w (by first | assumption | omega) (by first | assumption | omega)) (cwV 1 hts gX2_cell_X1_faultAs rfl rfl rfl hV_X1_faultAs ⟨Nat.le_of_ble_eq_true rfl, Nat.le_of_ble_eq_true rfl⟩) (PR.preV hG (hP.sub (ws' := (wSheet cI (ad (2 + 2 * j)) (ad (3 + 2 * j)) (sh j) (sla j) (sle j) (sf j))) [2 + 2 * j, 3 + 2 * j] (wX_sub (j := j) (by omega))) (ci := 1) rfl rfl) rfl rfl hl.1 rfl (lv_room (Nat.le_of_ble_eq_true rfl)) dX2_cell_32 ⟨Nat.le_refl _, Nat.le_refl _⟩) ?_
      refine va_put (D := D) (ci := 2) (v := .int (nI (fltN (sh j) (sla j) w))) (ty := .int) (C := RX2) (T := TX2) (N := 9) hx hb yX2 (fun _ h => h) tyX2 tyX2_ok nmX2 hown hG.1 hP hD hS 0 rfl rfl 8 (by decide) f44 (fun _ h => h) rfl (by decide +kernel) rfl rfl (Nat.le_of_ble_eq_true rfl) dX2_cell_35 (fun H locs hP hD hS => ?_)
      have hP : va_P D vwCl (wX cI cS ad sh sla sle sf n fo ki st we lo n2 go kj sj wj lj ti rc rv rd tr (fltN (sh j) (sla j) w)) H := hP
      have hD : va_D (AW (adX ad)) (wX cI cS ad sh sla sle sf n fo ki st we lo n2 go kj sj wj lj ti rc rv rd tr (fltN (sh j) (sla j) w)) := hD
      refine lv_aload_n hx hb dX2_cell_38 rfl (lv_at hl 1 rfl) ?_
      refine va_get (D := D) (ci := 2) (v := .int (nI (fltN (sh j) (sla j) w))) (C := RX2) (T := TX2) (N := 9) hx hb yX2 (fun _ h => h) hown hG.1 hP 0 rfl rfl 8 (by decide) f44 (fun _ h => h) rfl dX2_cell_39 ?_
      refine lv_if_ne (tgt := 60) hx hb dX2_cell_42 (by decide) (fun c_42 => ?_) (fun c_42 => ?_)
      ·
        replace c_42 := (not_congr (nI_eq (a := fltN (sh j) (sla j) w) (b := 0) (by omega) (by omega))).mp c_42
        refine lv_aload_n hx hb dX2_cell_60 rfl (lv_at hl 1 rfl) ?_
        refine va_get (D := D) (ci := 2) (v := .int (nI (fltN (sh j) (sla j) w))) (C := RX2) (T := TX2) (N := 9) hx hb yX2 (fun _ h => h) hown hG.1 hP 0 rfl rfl 8 (by decide) f44 (fun _ h => h) rfl dX2_cell_61 ?_
        refine lv_if_ne (tgt := 77) hx hb dX2_cell_64 (by decide) (fun c_64 => ?_) (fun c_64 => ?_)
        ·
          replace c_64 := (not_congr (nI_eq (a := fltN (sh j) (sla j) w) (b := 0) (by omega) (by omega))).mp c_64
          refine lv_ldc2 (v := -9223372036854775808) hx hb hown (hts (.constantLong RX2 195 (-9223372036854775808)) (by decide +kernel)) dX2_cell_77 ?_
          exact xretMl hx hb hr hlk dX2_cell_80 hS () (by simp [A_cell, S_cell, hkk, hclj, c_21, hclw, c_42, c_64]) (fun t ht => by rw [ht]; rw [show S_cell sh sla sle (nI j) i (nI w) = (fltN (sh j) (sla j) w) from by simp [S_cell, hkk, hclj, c_21, hclw, c_42, c_64]]; exact hP)
        ·
          replace c_64 := (nI_eq (a := fltN (sh j) (sla j) w) (b := 0) (by omega) (by omega)).mp c_64
          exact absurd c_64 c_42
      ·
        replace c_42 := (nI_eq (a := fltN (sh j) (sla j) w) (b := 0) (by omega) (by omega)).mp c_42
        refine lv_aload hx hb dX2_cell_45 (lv_at hl 0 rfl) ?_
        refine lv_iload_n hx hb dX2_cell_47 rfl (lv_at hl 3 rfl) ?_
        refine lv_iconst (v := nI 1) hx hb dX2_cell_48 (by decide) ?_
        refine xrd (va_runV (As := [.int i, .int (nI 1)]) (rest := []) hF (c_X1_holds l D cI cS (ad (2 + 2 * j)) (ad (3 + 2 * j)) (sh j) (sla j) (sle j) (sf j) i (nI 1) (by first | assumption | omega)) (cwV 2 hts gX2_cell_X1_holds rfl rfl rfl hV_X1_holds ⟨Nat.le_of_ble_eq_true rfl, Nat.le_of_ble_eq_true rfl⟩) (PR.preV hG (hP.sub (ws' := (wSheet cI (ad (2 + 2 * j)) (ad (3 + 2 * j)) (sh j) (sla j) (sle j) (sf j))) [2 + 2 * j, 3 + 2 * j] (wX_sub (j := j) (by omega))) (ci := 1) rfl rfl) rfl rfl hl.1 rfl (lv_room (Nat.le_of_ble_eq_true rfl)) dX2_cell_49 ⟨Nat.le_refl _, Nat.le_refl _⟩) ?_
        refine lv_if_ne (tgt := 60) hx hb dX2_cell_52 (by decide) (fun c_52 => ?_) (fun c_52 => ?_)
        ·
          replace c_52 := bI_n0.mp c_52
          obtain ⟨u, hu, rfl⟩ := hldB_at c_52
          have hclu := cl8 (j := u) (by omega)
          refine lv_aload_n hx hb dX2_cell_60 rfl (lv_at hl 1 rfl) ?_
          refine va_get (D := D) (ci := 2) (v := .int (nI (fltN (sh j) (sla j) w))) (C := RX2) (T := TX2) (N := 9) hx hb yX2 (fun _ h => h) hown hG.1 hP 0 rfl rfl 8 (by decide) f44 (fun _ h => h) rfl dX2_cell_61 ?_
          refine lv_if_ne (tgt := 77) hx hb dX2_cell_64 (by decide) (fun c_64 => ?_) (fun c_64 => ?_)
          ·
            replace c_64 := (not_congr (nI_eq (a := fltN (sh j) (sla j) w) (b := 0) (by omega) (by omega))).mp c_64
            exact absurd c_42 c_64
          ·
            replace c_64 := (nI_eq (a := fltN (sh j) (sla j) w) (b := 0) (by omega) (by omega)).mp c_64
            refine lv_aload hx hb dX2_cell_67 (lv_at hl 0 rfl) ?_
            refine lv_iload_n hx hb dX2_cell_69 rfl (lv_at hl 3 rfl) ?_
            refine xrd (va_runV (As := [.int (nI u)]) (rest := []) hF (c_X1_atN l D cI cS (ad (2 + 2 * j)) (ad (3 + 2 * j)) (sh j) (sla j) (sle j) (sf j) u (by first | assumption | omega) (by first | assumption | omega)) (cwV 1 hts gX2_cell_X1_at rfl rfl rfl hV_X1_at ⟨Nat.le_of_ble_eq_true rfl, Nat.le_of_ble_eq_true rfl⟩) (PR.preV hG (hP.sub (ws' := (wSheet cI (ad (2 + 2 * j)) (ad (3 + 2 * j)) (sh j) (sla j) (sle j) (sf j))) [2 + 2 * j, 3 + 2 * j] (wX_sub (j := j) (by omega))) (ci := 1) rfl rfl) rfl rfl hl.1 rfl (lv_room (Nat.le_of_ble_eq_true rfl)) dX2_cell_70 ⟨Nat.le_refl _, Nat.le_refl _⟩) ?_
            refine lv_i2l (v := ((sf j) u).toInt64) hx hb dX2_cell_73 rfl ?_
            refine lv_goto (tgt := 80) hx hb dX2_cell_74 (by decide) ?_
            exact xretMl hx hb hr hlk dX2_cell_80 hS () (by simp [A_cell, S_cell, hkk, hclj, c_21, hclw, c_42, c_52, hclu, c_64]) (fun t ht => by rw [ht]; rw [show S_cell sh sla sle (nI j) (nI u) (nI w) = (fltN (sh j) (sla j) w) from by simp [S_cell, hkk, hclj, c_21, hclw, c_42, c_52, hclu, c_64]]; exact hP)
        ·
          replace c_52 := bI_0.mp c_52
          refine lv_aload_n hx hb dX2_cell_55 rfl (lv_at hl 1 rfl) ?_
          refine lv_iconst (v := nI 3) hx hb dX2_cell_56 (by decide) ?_
          refine va_put (D := D) (ci := 2) (v := .int (nI 3)) (ty := .int) (C := RX2) (T := TX2) (N := 9) hx hb yX2 (fun _ h => h) tyX2 tyX2_ok nmX2 hown hG.1 hP hD hS 0 rfl rfl 8 (by decide) f44 (fun _ h => h) rfl (by decide +kernel) rfl rfl (Nat.le_of_ble_eq_true rfl) dX2_cell_57 (fun H locs hP hD hS => ?_)
          have hP : va_P D vwCl (wX cI cS ad sh sla sle sf n fo ki st we lo n2 go kj sj wj lj ti rc rv rd tr 3) H := hP
          have hD : va_D (AW (adX ad)) (wX cI cS ad sh sla sle sf n fo ki st we lo n2 go kj sj wj lj ti rc rv rd tr 3) := hD
          refine lv_aload_n hx hb dX2_cell_60 rfl (lv_at hl 1 rfl) ?_
          refine va_get (D := D) (ci := 2) (v := .int (nI 3)) (C := RX2) (T := TX2) (N := 9) hx hb yX2 (fun _ h => h) hown hG.1 hP 0 rfl rfl 8 (by decide) f44 (fun _ h => h) rfl dX2_cell_61 ?_
          refine lv_if_ne (tgt := 77) hx hb dX2_cell_64 (by decide) (fun c_64 => ?_) (fun c_64 => ?_)
          ·
            refine lv_ldc2 (v := -9223372036854775808) hx hb hown (hts (.constantLong RX2 195 (-9223372036854775808)) (by decide +kernel)) dX2_cell_77 ?_
            exact xretMl hx hb hr hlk dX2_cell_80 hS () (by simp [A_cell, S_cell, hkk, hclj, c_21, hclw, c_42, c_52, c_64]) (fun t ht => by rw [ht]; rw [show S_cell sh sla sle (nI j) i (nI w) = 3 from by simp [S_cell, hkk, hclj, c_21, hclw, c_42, c_52, c_64]]; exact hP)
          · exact absurd c_64 (by decide)
    ·
      replace c_21 := bI_0.mp c_21
      refine lv_ldc2 (v := -9223372036854775808) hx hb hown (hts (.constantLong RX2 195 (-9223372036854775808)) (by decide +kernel)) dX2_cell_24 ?_
      exact xretMl hx hb hr hlk dX2_cell_27 hS () (by simp [A_cell, S_cell, hkk, hclj, c_21]) (fun t ht => by rw [ht]; rw [show S_cell sh sla sle (nI j) i v = 0 from by simp [S_cell, hkk, hclj, c_21]]; exact hP)

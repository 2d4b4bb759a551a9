theorem hD_J6_bitCount_0f7a4 : yJ6_bitCount_0f7a4.cls ≠ "java/lang/invoke/MethodHandle" ∧ yJ6_bitCount_0f7a4.cls ≠ "java/lang/invoke/VarHandle" ∧ (parseMethodDescriptor yJ6_bitCount_0f7a4.desc).map (fun d => d.parameters.length) = some 1 := by decide +kernel
theorem hV_X0_blown : yX0_blown.cls = RX0 ∧ yX0_blown.cls ≠ "java/lang/invoke/MethodHandle" ∧ yX0_blown.cls ≠ "java/lang/invoke/VarHandle" ∧ (parseMethodDescriptor yX0_blown.desc).map (fun d => d.parameters.length) = some 2 := by decide +kernel
theorem hV_X0_chairsOf : yX0_chairsOf.cls = RX0 ∧ yX0_chairsOf.cls ≠ "java/lang/invoke/MethodHandle" ∧ yX0_chairsOf.cls ≠ "java/lang/invoke/VarHandle" ∧ (parseMethodDescriptor yX0_chairsOf.desc).map (fun d => d.parameters.length) = some 1 := by decide +kernel
theorem hV_X0_foldedByRain : yX0_foldedByRain.cls = RX0 ∧ yX0_foldedByRain.cls ≠ "java/lang/invoke/MethodHandle" ∧ yX0_foldedByRain.cls ≠ "java/lang/invoke/VarHandle" ∧ (parseMethodDescriptor yX0_foldedByRain.desc).map (fun d => d.parameters.length) = some 0 := by decide +kernel
theorem hV_X0_has : yX0_has.cls = RX0 ∧ yX0_has.cls ≠ "java/lang/invoke/MethodHandle" ∧ yX0_has.cls ≠ "java/lang/invoke/VarHandle" ∧ (parseMethodDescriptor yX0_has.desc).map (fun d => d.parameters.length) = some 1 := by decide +kernel
theorem hV_X0_isFolded : yX0_isFolded.cls = RX0 ∧ yX0_isFolded.cls ≠ "java/lang/invoke/MethodHandle" ∧ yX0_isFolded.cls ≠ "java/lang/invoke/VarHandle" ∧ (parseMethodDescriptor yX0_isFolded.desc).map (fun d => d.parameters.length) = some 1 := by decide +kernel
theorem hV_X0_meetsNext : yX0_meetsNext.cls = RX0 ∧ yX0_meetsNext.cls ≠ "java/lang/invoke/MethodHandle" ∧ yX0_meetsNext.cls ≠ "java/lang/invoke/VarHandle" ∧ (parseMethodDescriptor yX0_meetsNext.desc).map (fun d => d.parameters.length) = some 1 := by decide +kernel
theorem hV_X0_opened : yX0_opened.cls = RX0 ∧ yX0_opened.cls ≠ "java/lang/invoke/MethodHandle" ∧ yX0_opened.cls ≠ "java/lang/invoke/VarHandle" ∧ (parseMethodDescriptor yX0_opened.desc).map (fun d => d.parameters.length) = some 1 := by decide +kernel
theorem hV_X0_side : yX0_side.cls = RX0 ∧ yX0_side.cls ≠ "java/lang/invoke/MethodHandle" ∧ yX0_side.cls ≠ "java/lang/invoke/VarHandle" ∧ (parseMethodDescriptor yX0_side.desc).map (fun d => d.parameters.length) = some 1 := by decide +kernel
theorem hV_X0_tilt : yX0_tilt.cls = RX0 ∧ yX0_tilt.cls ≠ "java/lang/invoke/MethodHandle" ∧ yX0_tilt.cls ≠ "java/lang/invoke/VarHandle" ∧ (parseMethodDescriptor yX0_tilt.desc).map (fun d => d.parameters.length) = some 1 := by decide +kernel
theorem hV_X0_turned : yX0_turned.cls = RX0 ∧ yX0_turned.cls ≠ "java/lang/invoke/MethodHandle" ∧ yX0_turned.cls ≠ "java/lang/invoke/VarHandle" ∧ (parseMethodDescriptor yX0_turned.desc).map (fun d => d.parameters.length) = some 2 := by decide +kernel
theorem hV_X0_votes : yX0_votes.cls = RX0 ∧ yX0_votes.cls ≠ "java/lang/invoke/MethodHandle" ∧ yX0_votes.cls ≠ "java/lang/invoke/VarHandle" ∧ (parseMethodDescriptor yX0_votes.desc).map (fun d => d.parameters.length) = some 1 := by decide +kernel
theorem hV_X0_votesIn : yX0_votesIn.cls = RX0 ∧ yX0_votesIn.cls ≠ "java/lang/invoke/MethodHandle" ∧ yX0_votesIn.cls ≠ "java/lang/invoke/VarHandle" ∧ (parseMethodDescriptor yX0_votesIn.desc).map (fun d => d.parameters.length) = some 1 := by decide +kernel
theorem hV_X0_votesWhenOpen : yX0_votesWhenOpen.cls = RX0 ∧ yX0_votesWhenOpen.cls ≠ "java/lang/invoke/MethodHandle" ∧ yX0_votesWhenOpen.cls ≠ "java/lang/invoke/VarHandle" ∧ (parseMethodDescriptor yX0_votesWhenOpen.desc).map (fun d => d.parameters.length) = some 1 := by decide +kernel
theorem hD_X2_isIn : yX2_isIn.cls ≠ "java/lang/invoke/MethodHandle" ∧ yX2_isIn.cls ≠ "java/lang/invoke/VarHandle" ∧ (parseMethodDescriptor yX2_isIn.desc).map (fun d => d.parameters.length) = some 2 := by decide +kernel
theorem hD_X2_votesAs : yX2_votesAs.cls ≠ "java/lang/invoke/MethodHandle" ∧ yX2_votesAs.cls ≠ "java/lang/invoke/VarHandle" ∧ (parseMethodDescriptor yX2_votesAs.desc).map (fun d => d.parameters.length) = some 2 := by decide +kernel
set_option maxHeartbeats 4000000 in
set_option maxRecDepth 100000 in
theorem c_X2_isIn (l : Launch) (D : va_G) (cI cS : ClassId) (a : Nat) (k : Nat) (ha : a < 256) (hk : k < 8) : Met l yX2_isIn wsX2_isIn ({ frames := 0, cells := 0, slots := 0, locals := 0 }) (PR D cI cS [.int (nI a), .int (nI k)] []) (vp_Si (fun r => r = bI (a.testBit k))) 0 0 (fun _ => False) := by
  refine startR (by decide) rfl (Nat.le_of_ble_eq_true rfl) ?_
  intro p e s m below meth c hx hb hr hts hown hlk hml hG hP ls hl
  have hl : lv_has ls 2 [(0, .int (nI a)), (1, .int (nI k))] := hl
  have hF : CallFix p m c cX2_isIn 2 s _ wsX2_isIn RX2 := ⟨hx, hb, hml, hown, hts⟩
  refine lv_iload_n hx hb dX2_isIn_0 rfl (lv_at hl 0 rfl) ?_
  refine lv_iload_n hx hb dX2_isIn_1 rfl (lv_at hl 1 rfl) ?_
  refine lv_ishr hx hb dX2_isIn_2 ?_
  refine lv_iconst (v := nI 1) hx hb dX2_isIn_3 (by decide) ?_
  refine lv_iand hx hb dX2_isIn_4 ?_
  refine xtop (x' := bI (a.testBit k)) (by exact bit_b a ha k hk) ?_
  refine lv_if_eq (tgt := 12) hx hb dX2_isIn_5 (by decide) (fun c_5 => ?_) (fun c_5 => ?_)
  ·
    replace c_5 := bI_0.mp c_5
    refine lv_iconst (v := nI 0) hx hb dX2_isIn_12 (by decide) ?_
    exact xretRz hx hb hr hlk dX2_isIn_13 (false) rfl (by rw [c_5]; rfl)
  ·
    replace c_5 := bI_n0.mp c_5
    refine lv_iconst (v := nI 1) hx hb dX2_isIn_8 (by decide) ?_
    refine lv_goto (tgt := 13) hx hb dX2_isIn_9 (by decide) ?_
    exact xretRz hx hb hr hlk dX2_isIn_13 (true) rfl (by rw [c_5]; rfl)

set_option maxHeartbeats 4000000 in
set_option maxRecDepth 100000 in
theorem c_X2_votesAs (l : Launch) (D : va_G) (cI cS : ClassId) (k : Nat) (w : Nat) (hk : k < 1000) (hw : w < 1000) : Met l yX2_votesAs wsX2_votesAs ({ frames := 0, cells := 0, slots := 0, locals := 0 }) (PR D cI cS [.int (nI k), .int (nI w)] []) (vp_Si (fun r => r = nI (vtA k w))) 0 0 (fun _ => False) := by
  refine startR (by decide) rfl (Nat.le_of_ble_eq_true rfl) ?_
  intro p e s m below meth c hx hb hr hts hown hlk hml hG hP ls hl
  have hl : lv_has ls 2 [(0, .int (nI k)), (1, .int (nI w))] := hl
  have hF : CallFix p m c cX2_votesAs 2 s _ wsX2_votesAs RX2 := ⟨hx, hb, hml, hown, hts⟩
  refine lv_iload_n hx hb dX2_votesAs_0 rfl (lv_at hl 0 rfl) ?_
  by_cases c_1_0 : k = 0
  ·
    refine lv_lookup (off := 27) (tgt := 28) hx hb dX2_votesAs_1 (by decide) (by rw [c_1_0]; decide) (by decide) ?_
    refine lv_iload_n hx hb dX2_votesAs_28 rfl (lv_at hl 1 rfl) ?_
    exact xretR hx hb hr hlk dX2_votesAs_29 (by simp [vtA, c_1_0])
  by_cases c_1_1 : k = 1
  ·
    refine lv_lookup (off := 29) (tgt := 30) hx hb dX2_votesAs_1 (by decide) (by rw [c_1_1]; decide) (by decide) ?_
    refine lv_iload_n hx hb dX2_votesAs_30 rfl (lv_at hl 1 rfl) ?_
    refine lv_iconst (v := nI 1) hx hb dX2_votesAs_31 (by decide) ?_
    refine xaddN hx hb dX2_votesAs_32 ?_
    exact xretR hx hb hr hlk dX2_votesAs_33 (by simp [vtA, c_1_1])
  refine lv_lookup (off := 33) (tgt := 34) hx hb dX2_votesAs_1 (by decide) (by rw [nI_toInt (by omega)]; simp only [Op.lookupswitch.offset_cons, Op.lookupswitch.offset_nil]; rw [if_neg (by omega)]; rw [if_neg (by omega)]) (by decide) ?_
  refine lv_iload_n hx hb dX2_votesAs_34 rfl (lv_at hl 1 rfl) ?_
  refine lv_iconst (v := nI 1) hx hb dX2_votesAs_35 (by decide) ?_
  refine xaddN hx hb dX2_votesAs_36 ?_
  refine lv_iconst (v := nI 2) hx hb dX2_votesAs_37 (by decide) ?_
  refine xdivN (x := w + 1) (y := 2) (by omega) (by omega) (by omega) hx hb dX2_votesAs_38 ?_
  exact xretR hx hb hr hlk dX2_votesAs_39 (by simp [vtA, c_1_0, c_1_1])

set_option maxHeartbeats 4000000 in
set_option maxRecDepth 100000 in
theorem c_X0_has (l : Launch) (D : va_G) (cI cS : ClassId) (q : Nat) (a0 : Nat) (a1 : Nat) (a2 : Nat) (a3 : Nat) (n : Nat) (fo : Nat) (ki : Nat → Nat) (st : Nat → Nat) (we : Nat → Nat) (lo : Nat → Nat) (k : Int32) (hn : n ≤ 8) : Met l yX0_has wsX0_has ({ frames := 0, cells := 0, slots := 0, locals := 0 }) (PR D cI cS [.ref q, .int k] (wRow cI q a0 a1 a2 a3 n fo ki st we lo)) (vp_Si (fun r => r = bI (hasB n k))) 0 0 (fun _ => False) := by
  refine startR (by decide) rfl (Nat.le_of_ble_eq_true rfl) ?_
  intro p e s m below meth c hx hb hr hts hown hlk hml hG hP ls hl
  have hl : lv_has ls 2 [(0, .ref q), (1, .int k)] := hl
  have f24 := hts (.fieldLink RX0 24 "ChairBallot$Row" "count" "I") (by decide +kernel)
  have yX0 : ∀ w ∈ u_ws RX0 TX0 6, w.before _ s = true := fun w h => hts w ((by decide +kernel : ∀ w ∈ wsX00, w ∈ wsX0_has) w h)
  have hF : CallFix p m c cX0_has 2 s _ wsX0_has RX0 := ⟨hx, hb, hml, hown, hts⟩
  refine lv_iload_n hx hb dX0_has_0 rfl (lv_at hl 1 rfl) ?_
  refine lv_if_lt (tgt := 16) hx hb dX0_has_1 (by decide) (fun c_1 => ?_) (fun c_1 => ?_)
  ·
    refine lv_iconst (v := nI 0) hx hb dX0_has_16 (by decide) ?_
    exact xretRz hx hb hr hlk dX0_has_17 (false) rfl (by first | exact hasB_y hn c_1 c_9 | exact hasB_n1 c_1 | exact hasB_n2 hn c_9)
  ·
    refine lv_iload_n hx hb dX0_has_4 rfl (lv_at hl 1 rfl) ?_
    refine lv_aload_n hx hb dX0_has_5 rfl (lv_at hl 0 rfl) ?_
    refine va_get (D := D) (ci := 0) (v := .int (nI n)) (C := RX0) (T := TX0) (N := 6) hx hb yX0 (fun _ h => h) hown hG.1 hP 0 rfl rfl 4 (by decide) f24 (fun _ h => h) rfl dX0_has_6 ?_
    refine lv_icmp_ge (tgt := 16) hx hb dX0_has_9 (by decide) (fun c_9 => ?_) (fun c_9 => ?_)
    ·
      refine lv_iconst (v := nI 0) hx hb dX0_has_16 (by decide) ?_
      exact xretRz hx hb hr hlk dX0_has_17 (false) rfl (by first | exact hasB_y hn c_1 c_9 | exact hasB_n1 c_1 | exact hasB_n2 hn c_9)
    ·
      refine lv_iconst (v := nI 1) hx hb dX0_has_12 (by decide) ?_
      refine lv_goto (tgt := 17) hx hb dX0_has_13 (by decide) ?_
      exact xretRz hx hb hr hlk dX0_has_17 (true) rfl (by first | exact hasB_y hn c_1 c_9 | exact hasB_n1 c_1 | exact hasB_n2 hn c_9)

set_option maxHeartbeats 4000000 in
set_option maxRecDepth 100000 in
theorem c_X0_hasN (l : Launch) (D : va_G) (cI cS : ClassId) (q : Nat) (a0 : Nat) (a1 : Nat) (a2 : Nat) (a3 : Nat) (n : Nat) (fo : Nat) (ki : Nat → Nat) (st : Nat → Nat) (we : Nat → Nat) (lo : Nat → Nat) (j : Nat) (hn : n ≤ 8) (hj : j < 2 ^ 31) : Met l yX0_has wsX0_has ({ frames := 0, cells := 0, slots := 0, locals := 0 }) (PR D cI cS [.ref q, .int (nI j)] (wRow cI q a0 a1 a2 a3 n fo ki st we lo)) (vp_Si (fun r => r = bI (decide (j < n)))) 0 0 (fun _ => False) := by
  have h := c_X0_has l D cI cS q a0 a1 a2 a3 n fo ki st we lo (nI j) hn
  rw [hasB_nI hj] at h
  exact h

set_option maxHeartbeats 4000000 in
set_option maxRecDepth 100000 in
theorem c_X0_isFolded (l : Launch) (D : va_G) (cI cS : ClassId) (q : Nat) (a0 : Nat) (a1 : Nat) (a2 : Nat) (a3 : Nat) (n : Nat) (fo : Nat) (ki : Nat → Nat) (st : Nat → Nat) (we : Nat → Nat) (lo : Nat → Nat) (j : Nat) (hfo : fo < 256) (hj : j < 8) : Met l yX0_isFolded wsX0_isFolded ({ frames := 0, cells := 0, slots := 0, locals := 0 }) (PR D cI cS [.ref q, .int (nI j)] (wRow cI q a0 a1 a2 a3 n fo ki st we lo)) (vp_Si (fun r => r = bI (fo.testBit j))) 0 0 (fun _ => False) := by
  refine startR (by decide) rfl (Nat.le_of_ble_eq_true rfl) ?_
  intro p e s m below meth c hx hb hr hts hown hlk hml hG hP ls hl
  have hl : lv_has ls 2 [(0, .ref q), (1, .int (nI j))] := hl
  have f28 := hts (.fieldLink RX0 28 "ChairBallot$Row" "folded" "I") (by decide +kernel)
  have yX0 : ∀ w ∈ u_ws RX0 TX0 6, w.before _ s = true := fun w h => hts w ((by decide +kernel : ∀ w ∈ wsX00, w ∈ wsX0_isFolded) w h)
  have hF : CallFix p m c cX0_isFolded 2 s _ wsX0_isFolded RX0 := ⟨hx, hb, hml, hown, hts⟩
  refine lv_aload_n hx hb dX0_isFolded_0 rfl (lv_at hl 0 rfl) ?_
  refine va_get (D := D) (ci := 0) (v := .int (nI fo)) (C := RX0) (T := TX0) (N := 6) hx hb yX0 (fun _ h => h) hown hG.1 hP 0 rfl rfl 5 (by decide) f28 (fun _ h => h) rfl dX0_isFolded_1 ?_
  refine lv_iload_n hx hb dX0_isFolded_4 rfl (lv_at hl 1 rfl) ?_
  refine lv_ishr hx hb dX0_isFolded_5 ?_
  refine lv_iconst (v := nI 1) hx hb dX0_isFolded_6 (by decide) ?_
  refine lv_iand hx hb dX0_isFolded_7 ?_
  refine xtop (x' := bI (fo.testBit j)) (by exact bit_b fo hfo j hj) ?_
  refine lv_if_eq (tgt := 15) hx hb dX0_isFolded_8 (by decide) (fun c_8 => ?_) (fun c_8 => ?_)
  ·
    replace c_8 := bI_0.mp c_8
    refine lv_iconst (v := nI 0) hx hb dX0_isFolded_15 (by decide) ?_
    exact xretRz hx hb hr hlk dX0_isFolded_16 (false) rfl (by rw [c_8]; rfl)
  ·
    replace c_8 := bI_n0.mp c_8
    refine lv_iconst (v := nI 1) hx hb dX0_isFolded_11 (by decide) ?_
    refine lv_goto (tgt := 16) hx hb dX0_isFolded_12 (by decide) ?_
    exact xretRz hx hb hr hlk dX0_isFolded_16 (true) rfl (by rw [c_8]; rfl)

set_option maxHeartbeats 4000000 in
set_option maxRecDepth 100000 in
theorem c_X0_votesWhenOpen (l : Launch) (D : va_G) (cI cS : ClassId) (q : Nat) (a0 : Nat) (a1 : Nat) (a2 : Nat) (a3 : Nat) (n : Nat) (fo : Nat) (ki : Nat → Nat) (st : Nat → Nat) (we : Nat → Nat) (lo : Nat → Nat) (j : Nat) (hn : n ≤ 8) (hj : j < n) (hki : ∀ j, ki j ≤ 2) (hwe : ∀ j, we j ≤ 9) : Met l yX0_votesWhenOpen wsX0_votesWhenOpen ({ frames := 1, cells := 0, slots := 0, locals := 21 }) (PR D cI cS [.ref q, .int (nI j)] (wRow cI q a0 a1 a2 a3 n fo ki st we lo)) (vp_Si (fun r => r = nI (vtA (ki j) (we j)))) 0 0 (fun _ => False) := by
  refine startR (by decide) rfl (Nat.le_of_ble_eq_true rfl) ?_
  intro p e s m below meth c hx hb hr hts hown hlk hml hG hP ls hl
  have hl : lv_has ls 2 [(0, .ref q), (1, .int (nI j))] := hl
  have f9 := hts (.fieldLink RX0 9 "ChairBallot$Row" "kind" "[I") (by decide +kernel)
  have f18 := hts (.fieldLink RX0 18 "ChairBallot$Row" "weight" "[I") (by decide +kernel)
  have yX0 : ∀ w ∈ u_ws RX0 TX0 6, w.before _ s = true := fun w h => hts w ((by decide +kernel : ∀ w ∈ wsX00, w ∈ wsX0_votesWhenOpen) w h)
  have hF : CallFix p m c cX0_votesWhenOpen 2 s _ wsX0_votesWhenOpen RX0 := ⟨hx, hb, hml, hown, hts⟩
  have hkj := hki j
  have hwj := hwe j
  refine lv_aload_n hx hb dX0_votesWhenOpen_0 rfl (lv_at hl 0 rfl) ?_
  refine lv_iload_n hx hb dX0_votesWhenOpen_1 rfl (lv_at hl 1 rfl) ?_
  refine xrd (va_runV (As := [.int (nI j)]) (rest := []) hF (c_X0_hasN l D cI cS q a0 a1 a2 a3 n fo ki st we lo j (by first | assumption | omega) (by first | assumption | omega)) (cwV 1 hts gX0_votesWhenOpen_X0_has rfl rfl rfl hV_X0_has ⟨Nat.le_of_ble_eq_true rfl, Nat.le_of_ble_eq_true rfl⟩) (PR.preV hG hP (ci := 0) rfl rfl) rfl rfl hl.1 rfl (lv_room (Nat.le_of_ble_eq_true rfl)) dX0_votesWhenOpen_2 ⟨Nat.le_refl _, Nat.le_refl _⟩) ?_
  refine lv_if_eq (tgt := 26) hx hb dX0_votesWhenOpen_5 (by decide) (fun c_5 => ?_) (fun c_5 => ?_)
  ·
    replace c_5 := bI_0.mp c_5
    replace c_5 := of_decide_eq_false c_5
    omega
  ·
    replace c_5 := bI_n0.mp c_5
    replace c_5 := of_decide_eq_true c_5
    refine lv_aload_n hx hb dX0_votesWhenOpen_8 rfl (lv_at hl 0 rfl) ?_
    refine va_get (D := D) (ci := 0) (v := .ref a0) (C := RX0) (T := TX0) (N := 6) hx hb yX0 (fun _ h => h) hown hG.1 hP 0 rfl rfl 0 (by decide) f9 (fun _ h => h) rfl dX0_votesWhenOpen_9 ?_
    refine lv_iload_n hx hb dX0_votesWhenOpen_12 rfl (lv_at hl 1 rfl) ?_
    refine xaldN hx hb hG hP 1 rfl (j) rfl (by omega) (by decide) dX0_votesWhenOpen_13 ?_
    refine lv_aload_n hx hb dX0_votesWhenOpen_14 rfl (lv_at hl 0 rfl) ?_
    refine va_get (D := D) (ci := 0) (v := .ref a2) (C := RX0) (T := TX0) (N := 6) hx hb yX0 (fun _ h => h) hown hG.1 hP 0 rfl rfl 2 (by decide) f18 (fun _ h => h) rfl dX0_votesWhenOpen_15 ?_
    refine lv_iload_n hx hb dX0_votesWhenOpen_18 rfl (lv_at hl 1 rfl) ?_
    refine xaldN hx hb hG hP 3 rfl (j) rfl (by omega) (by decide) dX0_votesWhenOpen_19 ?_
    refine xrd (va_runSN (As := [.int (nI (ki j)), .int (nI (we j))]) (rest := []) hF (c_X2_votesAs l D cI cS (ki j) (we j) (by first | assumption | omega) (by first | assumption | omega)) ⟨va_cnB 2 hts gX0_votesWhenOpen_X2_votesAs_n41 rfl rfl rfl hG.2.1 (hts (.initialized RX2) (by decide +kernel)) hD_X2_votesAs ⟨Nat.le_of_ble_eq_true rfl, Nat.le_of_ble_eq_true rfl⟩, hts (.static yX2_votesAs) (by decide +kernel), trivial⟩ (PR.pre hG (hP.sub (ws' := []) [] rfl)) rfl rfl hl.1 rfl (lv_room (Nat.le_of_ble_eq_true rfl)) dX0_votesWhenOpen_20 ⟨Nat.le_refl _, Nat.le_refl _⟩) ?_
    refine lv_goto (tgt := 27) hx hb dX0_votesWhenOpen_23 (by decide) ?_
    exact xretR hx hb hr hlk dX0_votesWhenOpen_27 (by rfl)

set_option maxHeartbeats 4000000 in
set_option maxRecDepth 100000 in
theorem c_X0_votes (l : Launch) (D : va_G) (cI cS : ClassId) (q : Nat) (a0 : Nat) (a1 : Nat) (a2 : Nat) (a3 : Nat) (n : Nat) (fo : Nat) (ki : Nat → Nat) (st : Nat → Nat) (we : Nat → Nat) (lo : Nat → Nat) (j : Nat) (hn : n ≤ 8) (hfo : fo < 256) (hj : j < n) (hki : ∀ j, ki j ≤ 2) (hwe : ∀ j, we j ≤ 9) : Met l yX0_votes wsX0_votes ({ frames := 2, cells := 0, slots := 0, locals := 42 }) (PR D cI cS [.ref q, .int (nI j)] (wRow cI q a0 a1 a2 a3 n fo ki st we lo)) (vp_Si (fun r => r = nI (voN fo ki we j))) 0 0 (fun _ => False) := by
  refine startR (by decide) rfl (Nat.le_of_ble_eq_true rfl) ?_
  intro p e s m below meth c hx hb hr hts hown hlk hml hG hP ls hl
  have hl : lv_has ls 2 [(0, .ref q), (1, .int (nI j))] := hl
  have hF : CallFix p m c cX0_votes 2 s _ wsX0_votes RX0 := ⟨hx, hb, hml, hown, hts⟩
  refine lv_aload_n hx hb dX0_votes_0 rfl (lv_at hl 0 rfl) ?_
  refine lv_iload_n hx hb dX0_votes_1 rfl (lv_at hl 1 rfl) ?_
  refine xrd (va_runV (As := [.int (nI j)]) (rest := []) hF (c_X0_isFolded l D cI cS q a0 a1 a2 a3 n fo ki st we lo j (by first | assumption | omega) (by first | assumption | omega)) (cwV 1 hts gX0_votes_X0_isFolded rfl rfl rfl hV_X0_isFolded ⟨Nat.le_of_ble_eq_true rfl, Nat.le_of_ble_eq_true rfl⟩) (PR.preV hG hP (ci := 0) rfl rfl) rfl rfl hl.1 rfl (lv_room (Nat.le_of_ble_eq_true rfl)) dX0_votes_2 ⟨Nat.le_refl _, Nat.le_refl _⟩) ?_
  refine lv_if_eq (tgt := 12) hx hb dX0_votes_5 (by decide) (fun c_5 => ?_) (fun c_5 => ?_)
  ·
    replace c_5 := bI_0.mp c_5
    refine lv_aload_n hx hb dX0_votes_12 rfl (lv_at hl 0 rfl) ?_
    refine lv_iload_n hx hb dX0_votes_13 rfl (lv_at hl 1 rfl) ?_
    refine xrd (va_runV (As := [.int (nI j)]) (rest := []) hF (c_X0_votesWhenOpen l D cI cS q a0 a1 a2 a3 n fo ki st we lo j (by first | assumption | omega) (by first | assumption | omega) (by first | assumption | omega) (by first | assumption | omega)) (cwV 1 hts gX0_votes_X0_votesWhenOpen rfl rfl rfl hV_X0_votesWhenOpen ⟨Nat.le_of_ble_eq_true rfl, Nat.le_of_ble_eq_true rfl⟩) (PR.preV hG hP (ci := 0) rfl rfl) rfl rfl hl.1 rfl (lv_room (Nat.le_of_ble_eq_true rfl)) dX0_votes_14 ⟨Nat.le_refl _, Nat.le_refl _⟩) ?_
    exact xretR hx hb hr hlk dX0_votes_17 (by simp [voN, c_5])
  ·
    replace c_5 := bI_n0.mp c_5
    refine lv_iconst (v := nI 0) hx hb dX0_votes_8 (by decide) ?_
    refine lv_goto (tgt := 17) hx hb dX0_votes_9 (by decide) ?_
    exact xretR hx hb hr hlk dX0_votes_17 (by simp [voN, c_5])

set_option maxHeartbeats 4000000 in
set_option maxRecDepth 100000 in
theorem c_X0_meetsNext (l : Launch) (D : va_G) (cI cS : ClassId) (q : Nat) (a0 : Nat) (a1 : Nat) (a2 : Nat) (a3 : Nat) (n : Nat) (fo : Nat) (ki : Nat → Nat) (st : Nat → Nat) (we : Nat → Nat) (lo : Nat → Nat) (j : Nat) (hn : n ≤ 8) (hfo : fo < 256) (hj : j < n) (hlo : ∀ j, lo j ≤ 3) : Met l yX0_meetsNext wsX0_meetsNext ({ frames := 1, cells := 0, slots := 0, locals := 21 }) (PR D cI cS [.ref q, .int (nI j)] (wRow cI q a0 a1 a2 a3 n fo ki st we lo)) (vp_Si (fun r => r = bI (mtB n fo lo j))) 0 0 (fun _ => False) := by
  refine startR (by decide) rfl (Nat.le_of_ble_eq_true rfl) ?_
  intro p e s m below meth c hx hb hr hts hown hlk hml hG hP ls hl
  have hl : lv_has ls 2 [(0, .ref q), (1, .int (nI j))] := hl
  have f21 := hts (.fieldLink RX0 21 "ChairBallot$Row" "looks" "[I") (by decide +kernel)
  have yX0 : ∀ w ∈ u_ws RX0 TX0 6, w.before _ s = true := fun w h => hts w ((by decide +kernel : ∀ w ∈ wsX00, w ∈ wsX0_meetsNext) w h)
  have hF : CallFix p m c cX0_meetsNext 2 s _ wsX0_meetsNext RX0 := ⟨hx, hb, hml, hown, hts⟩
  have hlj := hlo j
  have hlj1 := hlo (j + 1)
  refine lv_aload_n hx hb dX0_meetsNext_0 rfl (lv_at hl 0 rfl) ?_
  refine lv_iload_n hx hb dX0_meetsNext_1 rfl (lv_at hl 1 rfl) ?_
  refine xrd (va_runV (As := [.int (nI j)]) (rest := []) hF (c_X0_hasN l D cI cS q a0 a1 a2 a3 n fo ki st we lo j (by first | assumption | omega) (by first | assumption | omega)) (cwV 1 hts gX0_meetsNext_X0_has rfl rfl rfl hV_X0_has ⟨Nat.le_of_ble_eq_true rfl, Nat.le_of_ble_eq_true rfl⟩) (PR.preV hG hP (ci := 0) rfl rfl) rfl rfl hl.1 rfl (lv_room (Nat.le_of_ble_eq_true rfl)) dX0_meetsNext_2 ⟨Nat.le_refl _, Nat.le_refl _⟩) ?_
  refine lv_if_eq (tgt := 62) hx hb dX0_meetsNext_5 (by decide) (fun c_5 => ?_) (fun c_5 => ?_)
  ·
    replace c_5 := bI_0.mp c_5
    replace c_5 := of_decide_eq_false c_5
    omega
  ·
    replace c_5 := bI_n0.mp c_5
    replace c_5 := of_decide_eq_true c_5
    refine lv_aload_n hx hb dX0_meetsNext_8 rfl (lv_at hl 0 rfl) ?_
    refine lv_iload_n hx hb dX0_meetsNext_9 rfl (lv_at hl 1 rfl) ?_
    refine lv_iconst (v := nI 1) hx hb dX0_meetsNext_10 (by decide) ?_
    refine xaddN hx hb dX0_meetsNext_11 ?_
    refine xrd (va_runV (As := [.int (nI (j + 1))]) (rest := []) hF (c_X0_hasN l D cI cS q a0 a1 a2 a3 n fo ki st we lo (j + 1) (by first | assumption | omega) (by first | assumption | omega)) (cwV 1 hts gX0_meetsNext_X0_has rfl rfl rfl hV_X0_has ⟨Nat.le_of_ble_eq_true rfl, Nat.le_of_ble_eq_true rfl⟩) (PR.preV hG hP (ci := 0) rfl rfl) rfl rfl hl.1 rfl (lv_room (Nat.le_of_ble_eq_true rfl)) dX0_meetsNext_12 ⟨Nat.le_refl _, Nat.le_refl _⟩) ?_
    refine lv_if_eq (tgt := 62) hx hb dX0_meetsNext_15 (by decide) (fun c_15 => ?_) (fun c_15 => ?_)
    ·
      replace c_15 := bI_0.mp c_15
      replace c_15 := of_decide_eq_false c_15
      refine lv_iconst (v := nI 0) hx hb dX0_meetsNext_62 (by decide) ?_
      exact xretRz hx hb hr hlk dX0_meetsNext_63 (false) rfl (by rw [show (mtB n fo lo j) = false from by simp [mtB, c_5, c_15]]; rfl)
    ·
      replace c_15 := bI_n0.mp c_15
      replace c_15 := of_decide_eq_true c_15
      refine lv_aload_n hx hb dX0_meetsNext_18 rfl (lv_at hl 0 rfl) ?_
      refine lv_iload_n hx hb dX0_meetsNext_19 rfl (lv_at hl 1 rfl) ?_
      refine xrd (va_runV (As := [.int (nI j)]) (rest := []) hF (c_X0_isFolded l D cI cS q a0 a1 a2 a3 n fo ki st we lo j (by first | assumption | omega) (by first | assumption | omega)) (cwV 1 hts gX0_meetsNext_X0_isFolded rfl rfl rfl hV_X0_isFolded ⟨Nat.le_of_ble_eq_true rfl, Nat.le_of_ble_eq_true rfl⟩) (PR.preV hG hP (ci := 0) rfl rfl) rfl rfl hl.1 rfl (lv_room (Nat.le_of_ble_eq_true rfl)) dX0_meetsNext_20 ⟨Nat.le_refl _, Nat.le_refl _⟩) ?_
      refine lv_if_ne (tgt := 62) hx hb dX0_meetsNext_23 (by decide) (fun c_23 => ?_) (fun c_23 => ?_)
      ·
        replace c_23 := bI_n0.mp c_23
        refine lv_iconst (v := nI 0) hx hb dX0_meetsNext_62 (by decide) ?_
        exact xretRz hx hb hr hlk dX0_meetsNext_63 (false) rfl (by rw [show (mtB n fo lo j) = false from by simp [mtB, c_5, c_15, c_23]]; rfl)
      ·
        replace c_23 := bI_0.mp c_23
        refine lv_aload_n hx hb dX0_meetsNext_26 rfl (lv_at hl 0 rfl) ?_
        refine lv_iload_n hx hb dX0_meetsNext_27 rfl (lv_at hl 1 rfl) ?_
        refine lv_iconst (v := nI 1) hx hb dX0_meetsNext_28 (by decide) ?_
        refine xaddN hx hb dX0_meetsNext_29 ?_
        refine xrd (va_runV (As := [.int (nI (j + 1))]) (rest := []) hF (c_X0_isFolded l D cI cS q a0 a1 a2 a3 n fo ki st we lo (j + 1) (by first | assumption | omega) (by first | assumption | omega)) (cwV 1 hts gX0_meetsNext_X0_isFolded rfl rfl rfl hV_X0_isFolded ⟨Nat.le_of_ble_eq_true rfl, Nat.le_of_ble_eq_true rfl⟩) (PR.preV hG hP (ci := 0) rfl rfl) rfl rfl hl.1 rfl (lv_room (Nat.le_of_ble_eq_true rfl)) dX0_meetsNext_30 ⟨Nat.le_refl _, Nat.le_refl _⟩) ?_
        refine lv_if_ne (tgt := 62) hx hb dX0_meetsNext_33 (by decide) (fun c_33 => ?_) (fun c_33 => ?_)
        ·
          replace c_33 := bI_n0.mp c_33
          refine lv_iconst (v := nI 0) hx hb dX0_meetsNext_62 (by decide) ?_
          exact xretRz hx hb hr hlk dX0_meetsNext_63 (false) rfl (by rw [show (mtB n fo lo j) = false from by simp [mtB, c_5, c_15, c_23, c_33]]; rfl)
        ·
          replace c_33 := bI_0.mp c_33
          refine lv_aload_n hx hb dX0_meetsNext_36 rfl (lv_at hl 0 rfl) ?_
          refine va_get (D := D) (ci := 0) (v := .ref a3) (C := RX0) (T := TX0) (N := 6) hx hb yX0 (fun _ h => h) hown hG.1 hP 0 rfl rfl 3 (by decide) f21 (fun _ h => h) rfl dX0_meetsNext_37 ?_
          refine lv_iload_n hx hb dX0_meetsNext_40 rfl (lv_at hl 1 rfl) ?_
          refine xaldN hx hb hG hP 4 rfl (j) rfl (by omega) (by decide) dX0_meetsNext_41 ?_
          refine lv_iconst (v := nI 1) hx hb dX0_meetsNext_42 (by decide) ?_
          refine lv_icmp_ne (tgt := 62) hx hb dX0_meetsNext_43 (by decide) (fun c_43 => ?_) (fun c_43 => ?_)
          ·
            replace c_43 := (not_congr (nI_eq (a := lo j) (b := 1) (by omega) (by omega))).mp c_43
            refine lv_iconst (v := nI 0) hx hb dX0_meetsNext_62 (by decide) ?_
            exact xretRz hx hb hr hlk dX0_meetsNext_63 (false) rfl (by rw [show (mtB n fo lo j) = false from by simp [mtB, c_5, c_15, c_23, c_33, c_43]]; rfl)
          ·
            replace c_43 := (nI_eq (a := lo j) (b := 1) (by omega) (by omega)).mp c_43
            refine lv_aload_n hx hb dX0_meetsNext_46 rfl (lv_at hl 0 rfl) ?_
            refine va_get (D := D) (ci := 0) (v := .ref a3) (C := RX0) (T := TX0) (N := 6) hx hb yX0 (fun _ h => h) hown hG.1 hP 0 rfl rfl 3 (by decide) f21 (fun _ h => h) rfl dX0_meetsNext_47 ?_
            refine lv_iload_n hx hb dX0_meetsNext_50 rfl (lv_at hl 1 rfl) ?_
            refine lv_iconst (v := nI 1) hx hb dX0_meetsNext_51 (by decide) ?_
            refine xaddN hx hb dX0_meetsNext_52 ?_
            refine xaldN hx hb hG hP 4 rfl (j + 1) rfl (by omega) (by decide) dX0_meetsNext_53 ?_
            refine lv_iconst (v := nI 3) hx hb dX0_meetsNext_54 (by decide) ?_
            refine lv_icmp_ne (tgt := 62) hx hb dX0_meetsNext_55 (by decide) (fun c_55 => ?_) (fun c_55 => ?_)
            ·
              replace c_55 := (not_congr (nI_eq (a := lo (j + 1)) (b := 3) (by omega) (by omega))).mp c_55
              refine lv_iconst (v := nI 0) hx hb dX0_meetsNext_62 (by decide) ?_
              exact xretRz hx hb hr hlk dX0_meetsNext_63 (false) rfl (by rw [show (mtB n fo lo j) = false from by simp [mtB, c_5, c_15, c_23, c_33, c_43, c_55]]; rfl)
            ·
              replace c_55 := (nI_eq (a := lo (j + 1)) (b := 3) (by omega) (by omega)).mp c_55
              refine lv_iconst (v := nI 1) hx hb dX0_meetsNext_58 (by decide) ?_
              refine lv_goto (tgt := 63) hx hb dX0_meetsNext_59 (by decide) ?_
              exact xretRz hx hb hr hlk dX0_meetsNext_63 (true) rfl (by rw [show (mtB n fo lo j) = true from by simp [mtB, c_5, c_15, c_23, c_33, c_43, c_55]]; rfl)

set_option maxHeartbeats 4000000 in
set_option maxRecDepth 100000 in
theorem c_X0_meetsM (l : Launch) (D : va_G) (cI cS : ClassId) (q : Nat) (a0 : Nat) (a1 : Nat) (a2 : Nat) (a3 : Nat) (n : Nat) (fo : Nat) (ki : Nat → Nat) (st : Nat → Nat) (we : Nat → Nat) (lo : Nat → Nat) (hn : n ≤ 8) : Met l yX0_meetsNext wsX0_meetsNext ({ frames := 1, cells := 0, slots := 0, locals := 21 }) (PR D cI cS [.ref q, .int (-1)] (wRow cI q a0 a1 a2 a3 n fo ki st we lo)) (vp_Si (fun r => r = bI false)) 0 0 (fun _ => False) := by
  refine startR (by decide) rfl (Nat.le_of_ble_eq_true rfl) ?_
  intro p e s m below meth c hx hb hr hts hown hlk hml hG hP ls hl
  have hl : lv_has ls 2 [(0, .ref q), (1, .int (-1))] := hl
  have f21 := hts (.fieldLink RX0 21 "ChairBallot$Row" "looks" "[I") (by decide +kernel)
  have yX0 : ∀ w ∈ u_ws RX0 TX0 6, w.before _ s = true := fun w h => hts w ((by decide +kernel : ∀ w ∈ wsX00, w ∈ wsX0_meetsNext) w h)
  have hF : CallFix p m c cX0_meetsNext 2 s _ wsX0_meetsNext RX0 := ⟨hx, hb, hml, hown, hts⟩
  refine lv_aload_n hx hb dX0_meetsNext_0 rfl (lv_at hl 0 rfl) ?_
  refine lv_iload_n hx hb dX0_meetsNext_1 rfl (lv_at hl 1 rfl) ?_
  refine xrd (va_runV (As := [.int (-1)]) (rest := []) hF (c_X0_has l D cI cS q a0 a1 a2 a3 n fo ki st we lo (-1) (by first | assumption | omega)) (cwV 1 hts gX0_meetsNext_X0_has rfl rfl rfl hV_X0_has ⟨Nat.le_of_ble_eq_true rfl, Nat.le_of_ble_eq_true rfl⟩) (PR.preV hG hP (ci := 0) rfl rfl) rfl rfl hl.1 rfl (lv_room (Nat.le_of_ble_eq_true rfl)) dX0_meetsNext_2 ⟨Nat.le_refl _, Nat.le_refl _⟩) ?_
  refine lv_if_eq (tgt := 62) hx hb dX0_meetsNext_5 (by decide) (fun c_5 => ?_) (fun c_5 => ?_)
  ·
    replace c_5 := bI_0.mp c_5
    refine lv_iconst (v := nI 0) hx hb dX0_meetsNext_62 (by decide) ?_
    exact xretRz hx hb hr hlk dX0_meetsNext_63 (false) rfl (by rfl)
  ·
    replace c_5 := bI_n0.mp c_5
    exact absurd (hasB_m1 (n := n)) (by rw [c_5]; decide)

set_option maxHeartbeats 4000000 in
set_option maxRecDepth 100000 in
theorem c_X0_side (l : Launch) (D : va_G) (cI cS : ClassId) (q : Nat) (a0 : Nat) (a1 : Nat) (a2 : Nat) (a3 : Nat) (n : Nat) (fo : Nat) (ki : Nat → Nat) (st : Nat → Nat) (we : Nat → Nat) (lo : Nat → Nat) (j : Nat) (hn : n ≤ 8) (hfo : fo < 256) (hj : j < n) (hst : ∀ j, st j ≤ 3) (hlo : ∀ j, lo j ≤ 3) : Met l yX0_side wsX0_side ({ frames := 2, cells := 0, slots := 0, locals := 42 }) (PR D cI cS [.ref q, .int (nI j)] (wRow cI q a0 a1 a2 a3 n fo ki st we lo)) (vp_Si (fun r => r = nI (sdN n fo st lo j))) 0 0 (fun _ => False) := by
  refine startR (by decide) rfl (Nat.le_of_ble_eq_true rfl) ?_
  intro p e s m below meth c hx hb hr hts hown hlk hml hG hP ls hl
  have hl : lv_has ls 2 [(0, .ref q), (1, .int (nI j))] := hl
  have f15 := hts (.fieldLink RX0 15 "ChairBallot$Row" "stripe" "[I") (by decide +kernel)
  have f21 := hts (.fieldLink RX0 21 "ChairBallot$Row" "looks" "[I") (by decide +kernel)
  have yX0 : ∀ w ∈ u_ws RX0 TX0 6, w.before _ s = true := fun w h => hts w ((by decide +kernel : ∀ w ∈ wsX00, w ∈ wsX0_side) w h)
  have hF : CallFix p m c cX0_side 2 s _ wsX0_side RX0 := ⟨hx, hb, hml, hown, hts⟩
  have hlj := hlo j
  have hsj := hst j
  have hsj1 := hst (j + 1)
  refine lv_aload_n hx hb dX0_side_0 rfl (lv_at hl 0 rfl) ?_
  refine lv_iload_n hx hb dX0_side_1 rfl (lv_at hl 1 rfl) ?_
  refine xrd (va_runV (As := [.int (nI j)]) (rest := []) hF (c_X0_hasN l D cI cS q a0 a1 a2 a3 n fo ki st we lo j (by first | assumption | omega) (by first | assumption | omega)) (cwV 1 hts gX0_side_X0_has rfl rfl rfl hV_X0_has ⟨Nat.le_of_ble_eq_true rfl, Nat.le_of_ble_eq_true rfl⟩) (PR.preV hG hP (ci := 0) rfl rfl) rfl rfl hl.1 rfl (lv_room (Nat.le_of_ble_eq_true rfl)) dX0_side_2 ⟨Nat.le_refl _, Nat.le_refl _⟩) ?_
  refine lv_if_eq (tgt := 16) hx hb dX0_side_5 (by decide) (fun c_5 => ?_) (fun c_5 => ?_)
  ·
    replace c_5 := bI_0.mp c_5
    replace c_5 := of_decide_eq_false c_5
    omega
  ·
    replace c_5 := bI_n0.mp c_5
    replace c_5 := of_decide_eq_true c_5
    refine lv_aload_n hx hb dX0_side_8 rfl (lv_at hl 0 rfl) ?_
    refine lv_iload_n hx hb dX0_side_9 rfl (lv_at hl 1 rfl) ?_
    refine xrd (va_runV (As := [.int (nI j)]) (rest := []) hF (c_X0_isFolded l D cI cS q a0 a1 a2 a3 n fo ki st we lo j (by first | assumption | omega) (by first | assumption | omega)) (cwV 1 hts gX0_side_X0_isFolded rfl rfl rfl hV_X0_isFolded ⟨Nat.le_of_ble_eq_true rfl, Nat.le_of_ble_eq_true rfl⟩) (PR.preV hG hP (ci := 0) rfl rfl) rfl rfl hl.1 rfl (lv_room (Nat.le_of_ble_eq_true rfl)) dX0_side_10 ⟨Nat.le_refl _, Nat.le_refl _⟩) ?_
    refine lv_if_eq (tgt := 18) hx hb dX0_side_13 (by decide) (fun c_13 => ?_) (fun c_13 => ?_)
    ·
      replace c_13 := bI_0.mp c_13
      refine lv_aload_n hx hb dX0_side_18 rfl (lv_at hl 0 rfl) ?_
      refine lv_iload_n hx hb dX0_side_19 rfl (lv_at hl 1 rfl) ?_
      refine xrd (va_runV (As := [.int (nI j)]) (rest := []) hF (c_X0_meetsNext l D cI cS q a0 a1 a2 a3 n fo ki st we lo j (by first | assumption | omega) (by first | assumption | omega) (by first | assumption | omega) (by first | assumption | omega)) (cwV 1 hts gX0_side_X0_meetsNext rfl rfl rfl hV_X0_meetsNext ⟨Nat.le_of_ble_eq_true rfl, Nat.le_of_ble_eq_true rfl⟩) (PR.preV hG hP (ci := 0) rfl rfl) rfl rfl hl.1 rfl (lv_room (Nat.le_of_ble_eq_true rfl)) dX0_side_20 ⟨Nat.le_refl _, Nat.le_refl _⟩) ?_
      refine lv_if_eq (tgt := 49) hx hb dX0_side_23 (by decide) (fun c_23 => ?_) (fun c_23 => ?_)
      ·
        replace c_23 := bI_0.mp c_23
        cases j with
        | zero =>
          refine lv_aload_n hx hb dX0_side_49 rfl (lv_at hl 0 rfl) ?_
          refine lv_iload_n hx hb dX0_side_50 rfl (lv_at hl 1 rfl) ?_
          refine lv_iconst (v := nI 1) hx hb dX0_side_51 (by decide) ?_
          refine lv_isub hx hb dX0_side_52 ?_
          refine xtop (x' := (-1)) (by rfl) ?_
          refine xrd (va_runV (As := [.int (-1)]) (rest := []) hF (c_X0_meetsM l D cI cS q a0 a1 a2 a3 n fo ki st we lo (by first | assumption | omega)) (cwV 1 hts gX0_side_X0_meetsNext rfl rfl rfl hV_X0_meetsNext ⟨Nat.le_of_ble_eq_true rfl, Nat.le_of_ble_eq_true rfl⟩) (PR.preV hG hP (ci := 0) rfl rfl) rfl rfl hl.1 rfl (lv_room (Nat.le_of_ble_eq_true rfl)) dX0_side_53 ⟨Nat.le_refl _, Nat.le_refl _⟩) ?_
          refine lv_if_eq (tgt := 82) hx hb dX0_side_56 (by decide) (fun c_56 => ?_) (fun c_56 => ?_)
          ·
            refine lv_aload_n hx hb dX0_side_82 rfl (lv_at hl 0 rfl) ?_
            refine va_get (D := D) (ci := 0) (v := .ref a3) (C := RX0) (T := TX0) (N := 6) hx hb yX0 (fun _ h => h) hown hG.1 hP 0 rfl rfl 3 (by decide) f21 (fun _ h => h) rfl dX0_side_83 ?_
            refine lv_iload_n hx hb dX0_side_86 rfl (lv_at hl 1 rfl) ?_
            refine xaldN hx hb hG hP 4 rfl (0) rfl (by omega) (by decide) dX0_side_87 ?_
            by_cases c_88_0 : lo 0 = 0
            ·
              refine lv_lookup (off := 28) (tgt := 116) hx hb dX0_side_88 (by decide) (by rw [c_88_0]; decide) (by decide) ?_
              refine lv_iconst (v := nI 1) hx hb dX0_side_116 (by decide) ?_
              exact xretR hx hb hr hlk dX0_side_117 (by simp [sdN, c_5, c_13, c_23, c_56, c_88_0])
            by_cases c_88_2 : lo 0 = 2
            ·
              refine lv_lookup (off := 30) (tgt := 118) hx hb dX0_side_88 (by decide) (by rw [c_88_2]; decide) (by decide) ?_
              refine lv_iconst (v := nI 2) hx hb dX0_side_118 (by decide) ?_
              exact xretR hx hb hr hlk dX0_side_119 (by simp [sdN, c_5, c_13, c_23, c_56, c_88_2])
            refine lv_lookup (off := 32) (tgt := 120) hx hb dX0_side_88 (by decide) (by rw [nI_toInt (by omega)]; simp only [Op.lookupswitch.offset_cons, Op.lookupswitch.offset_nil]; rw [if_neg (by omega)]; rw [if_neg (by omega)]) (by decide) ?_
            refine lv_iconst (v := nI 0) hx hb dX0_side_120 (by decide) ?_
            exact xretR hx hb hr hlk dX0_side_121 (by simp [sdN, c_5, c_13, c_23, c_56, c_88_0, c_88_2])
          · exact absurd (by decide) c_56
        | succ j =>
          have hsj0 := hst j
          refine lv_aload_n hx hb dX0_side_49 rfl (lv_at hl 0 rfl) ?_
          refine lv_iload_n hx hb dX0_side_50 rfl (lv_at hl 1 rfl) ?_
          refine lv_iconst (v := nI 1) hx hb dX0_side_51 (by decide) ?_
          refine lv_isub hx hb dX0_side_52 ?_
          refine xtop (x' := nI j) (by exact pk_m1s j) ?_
          refine xrd (va_runV (As := [.int (nI j)]) (rest := []) hF (c_X0_meetsNext l D cI cS q a0 a1 a2 a3 n fo ki st we lo j (by first | assumption | omega) (by first | assumption | omega) (by first | assumption | omega) (by first | assumption | omega)) (cwV 1 hts gX0_side_X0_meetsNext rfl rfl rfl hV_X0_meetsNext ⟨Nat.le_of_ble_eq_true rfl, Nat.le_of_ble_eq_true rfl⟩) (PR.preV hG hP (ci := 0) rfl rfl) rfl rfl hl.1 rfl (lv_room (Nat.le_of_ble_eq_true rfl)) dX0_side_53 ⟨Nat.le_refl _, Nat.le_refl _⟩) ?_
          refine lv_if_eq (tgt := 82) hx hb dX0_side_56 (by decide) (fun c_56 => ?_) (fun c_56 => ?_)
          ·
            replace c_56 := bI_0.mp c_56
            refine lv_aload_n hx hb dX0_side_82 rfl (lv_at hl 0 rfl) ?_
            refine va_get (D := D) (ci := 0) (v := .ref a3) (C := RX0) (T := TX0) (N := 6) hx hb yX0 (fun _ h => h) hown hG.1 hP 0 rfl rfl 3 (by decide) f21 (fun _ h => h) rfl dX0_side_83 ?_
            refine lv_iload_n hx hb dX0_side_86 rfl (lv_at hl 1 rfl) ?_
            refine xaldN hx hb hG hP 4 rfl (j + 1) rfl (by omega) (by decide) dX0_side_87 ?_
            by_cases c_88_0 : lo (j + 1) = 0
            ·
              refine lv_lookup (off := 28) (tgt := 116) hx hb dX0_side_88 (by decide) (by rw [c_88_0]; decide) (by decide) ?_
              refine lv_iconst (v := nI 1) hx hb dX0_side_116 (by decide) ?_
              exact xretR hx hb hr hlk dX0_side_117 (by simp [sdN, c_5, c_13, c_23, c_56, c_88_0])
            by_cases c_88_2 : lo (j + 1) = 2
            ·
              refine lv_lookup (off := 30) (tgt := 118) hx hb dX0_side_88 (by decide) (by rw [c_88_2]; decide) (by decide) ?_
              refine lv_iconst (v := nI 2) hx hb dX0_side_118 (by decide) ?_
              exact xretR hx hb hr hlk dX0_side_119 (by simp [sdN, c_5, c_13, c_23, c_56, c_88_2])
            refine lv_lookup (off := 32) (tgt := 120) hx hb dX0_side_88 (by decide) (by rw [nI_toInt (by omega)]; simp only [Op.lookupswitch.offset_cons, Op.lookupswitch.offset_nil]; rw [if_neg (by omega)]; rw [if_neg (by omega)]) (by decide) ?_
            refine lv_iconst (v := nI 0) hx hb dX0_side_120 (by decide) ?_
            exact xretR hx hb hr hlk dX0_side_121 (by simp [sdN, c_5, c_13, c_23, c_56, c_88_0, c_88_2])
          ·
            replace c_56 := bI_n0.mp c_56
            refine lv_aload_n hx hb dX0_side_59 rfl (lv_at hl 0 rfl) ?_
            refine va_get (D := D) (ci := 0) (v := .ref a1) (C := RX0) (T := TX0) (N := 6) hx hb yX0 (fun _ h => h) hown hG.1 hP 0 rfl rfl 1 (by decide) f15 (fun _ h => h) rfl dX0_side_60 ?_
            refine lv_iload_n hx hb dX0_side_63 rfl (lv_at hl 1 rfl) ?_
            refine xaldN hx hb hG hP 2 rfl (j + 1) rfl (by omega) (by decide) dX0_side_64 ?_
            refine lv_aload_n hx hb dX0_side_65 rfl (lv_at hl 0 rfl) ?_
            refine va_get (D := D) (ci := 0) (v := .ref a1) (C := RX0) (T := TX0) (N := 6) hx hb yX0 (fun _ h => h) hown hG.1 hP 0 rfl rfl 1 (by decide) f15 (fun _ h => h) rfl dX0_side_66 ?_
            refine lv_iload_n hx hb dX0_side_69 rfl (lv_at hl 1 rfl) ?_
            refine lv_iconst (v := nI 1) hx hb dX0_side_70 (by decide) ?_
            refine lv_isub hx hb dX0_side_71 ?_
            refine xtop (x' := nI j) (by exact pk_m1s j) ?_
            refine xaldN hx hb hG hP 2 rfl (j) rfl (by omega) (by decide) dX0_side_72 ?_
            refine lv_icmp_ne (tgt := 80) hx hb dX0_side_73 (by decide) (fun c_73 => ?_) (fun c_73 => ?_)
            ·
              replace c_73 := (not_congr (nI_eq (a := st (j + 1)) (b := st j) (by omega) (by omega))).mp c_73
              refine lv_iconst (v := nI 2) hx hb dX0_side_80 (by decide) ?_
              exact xretR hx hb hr hlk dX0_side_81 (by simp [sdN, c_5, c_13, c_23, c_56, c_73])
            ·
              replace c_73 := (nI_eq (a := st (j + 1)) (b := st j) (by omega) (by omega)).mp c_73
              refine lv_iconst (v := nI 1) hx hb dX0_side_76 (by decide) ?_
              refine lv_goto (tgt := 81) hx hb dX0_side_77 (by decide) ?_
              exact xretR hx hb hr hlk dX0_side_81 (by simp [sdN, c_5, c_13, c_23, c_56, c_73])
      ·
        replace c_23 := bI_n0.mp c_23
        have hj1 : j + 1 < n := mtB_lt c_23
        refine lv_aload_n hx hb dX0_side_26 rfl (lv_at hl 0 rfl) ?_
        refine va_get (D := D) (ci := 0) (v := .ref a1) (C := RX0) (T := TX0) (N := 6) hx hb yX0 (fun _ h => h) hown hG.1 hP 0 rfl rfl 1 (by decide) f15 (fun _ h => h) rfl dX0_side_27 ?_
        refine lv_iload_n hx hb dX0_side_30 rfl (lv_at hl 1 rfl) ?_
        refine xaldN hx hb hG hP 2 rfl (j) rfl (by omega) (by decide) dX0_side_31 ?_
        refine lv_aload_n hx hb dX0_side_32 rfl (lv_at hl 0 rfl) ?_
        refine va_get (D := D) (ci := 0) (v := .ref a1) (C := RX0) (T := TX0) (N := 6) hx hb yX0 (fun _ h => h) hown hG.1 hP 0 rfl rfl 1 (by decide) f15 (fun _ h => h) rfl dX0_side_33 ?_
        refine lv_iload_n hx hb dX0_side_36 rfl (lv_at hl 1 rfl) ?_
        refine lv_iconst (v := nI 1) hx hb dX0_side_37 (by decide) ?_
        refine xaddN hx hb dX0_side_38 ?_
        refine xaldN hx hb hG hP 2 rfl (j + 1) rfl (by omega) (by decide) dX0_side_39 ?_
        refine lv_icmp_ne (tgt := 47) hx hb dX0_side_40 (by decide) (fun c_40 => ?_) (fun c_40 => ?_)
        ·
          replace c_40 := (not_congr (nI_eq (a := st j) (b := st (j + 1)) (by omega) (by omega))).mp c_40
          refine lv_iconst (v := nI 2) hx hb dX0_side_47 (by decide) ?_
          exact xretR hx hb hr hlk dX0_side_48 (by simp [sdN, c_5, c_13, c_23, c_40])
        ·
          replace c_40 := (nI_eq (a := st j) (b := st (j + 1)) (by omega) (by omega)).mp c_40
          refine lv_iconst (v := nI 1) hx hb dX0_side_43 (by decide) ?_
          refine lv_goto (tgt := 48) hx hb dX0_side_44 (by decide) ?_
          exact xretR hx hb hr hlk dX0_side_48 (by simp [sdN, c_5, c_13, c_23, c_40])
    ·
      replace c_13 := bI_n0.mp c_13
      refine lv_iconst (v := nI 0) hx hb dX0_side_16 (by decide) ?_
      exact xretR hx hb hr hlk dX0_side_17 (by simp [sdN, c_5, c_13])

set_option maxHeartbeats 4000000 in
set_option maxRecDepth 100000 in
theorem c_X0_tilt (l : Launch) (D : va_G) (cI cS : ClassId) (q : Nat) (a0 : Nat) (a1 : Nat) (a2 : Nat) (a3 : Nat) (n : Nat) (fo : Nat) (ki : Nat → Nat) (st : Nat → Nat) (we : Nat → Nat) (lo : Nat → Nat) (j : Nat) (hn : n ≤ 8) (hfo : fo < 256) (hj : j < n) (hki : ∀ j, ki j ≤ 2) (hwe : ∀ j, we j ≤ 9) (hst : ∀ j, st j ≤ 3) (hlo : ∀ j, lo j ≤ 3) : Met l yX0_tilt wsX0_tilt ({ frames := 3, cells := 0, slots := 0, locals := 63 }) (PR D cI cS [.ref q, .int (nI j)] (wRow cI q a0 a1 a2 a3 n fo ki st we lo)) (vp_Si (fun r => r = zI (tiN n fo ki st we lo j))) 0 0 (fun _ => False) := by
  refine startR (by decide) rfl (Nat.le_of_ble_eq_true rfl) ?_
  intro p e s m below meth c hx hb hr hts hown hlk hml hG hP ls hl
  have hl : lv_has ls 2 [(0, .ref q), (1, .int (nI j))] := hl
  have hF : CallFix p m c cX0_tilt 2 s _ wsX0_tilt RX0 := ⟨hx, hb, hml, hown, hts⟩
  have hs2 := sdN_le n fo st lo j
  refine lv_aload_n hx hb dX0_tilt_0 rfl (lv_at hl 0 rfl) ?_
  refine lv_iload_n hx hb dX0_tilt_1 rfl (lv_at hl 1 rfl) ?_
  refine xrd (va_runV (As := [.int (nI j)]) (rest := []) hF (c_X0_side l D cI cS q a0 a1 a2 a3 n fo ki st we lo j (by first | assumption | omega) (by first | assumption | omega) (by first | assumption | omega) (by first | assumption | omega) (by first | assumption | omega)) (cwV 1 hts gX0_tilt_X0_side rfl rfl rfl hV_X0_side ⟨Nat.le_of_ble_eq_true rfl, Nat.le_of_ble_eq_true rfl⟩) (PR.preV hG hP (ci := 0) rfl rfl) rfl rfl hl.1 rfl (lv_room (Nat.le_of_ble_eq_true rfl)) dX0_tilt_2 ⟨Nat.le_refl _, Nat.le_refl _⟩) ?_
  by_cases c_5_1 : sdN n fo st lo j = 1
  ·
    refine lv_lookup (off := 27) (tgt := 32) hx hb dX0_tilt_5 (by decide) (by rw [c_5_1]; decide) (by decide) ?_
    refine lv_aload_n hx hb dX0_tilt_32 rfl (lv_at hl 0 rfl) ?_
    refine lv_iload_n hx hb dX0_tilt_33 rfl (lv_at hl 1 rfl) ?_
    refine xrd (va_runV (As := [.int (nI j)]) (rest := []) hF (c_X0_votes l D cI cS q a0 a1 a2 a3 n fo ki st we lo j (by first | assumption | omega) (by first | assumption | omega) (by first | assumption | omega) (by first | assumption | omega) (by first | assumption | omega)) (cwV 1 hts gX0_tilt_X0_votes rfl rfl rfl hV_X0_votes ⟨Nat.le_of_ble_eq_true rfl, Nat.le_of_ble_eq_true rfl⟩) (PR.preV hG hP (ci := 0) rfl rfl) rfl rfl hl.1 rfl (lv_room (Nat.le_of_ble_eq_true rfl)) dX0_tilt_34 ⟨Nat.le_refl _, Nat.le_refl _⟩) ?_
    exact xretR hx hb hr hlk dX0_tilt_37 (by simp [tiN, c_5_1, zI_nat])
  by_cases c_5_2 : sdN n fo st lo j = 2
  ·
    refine lv_lookup (off := 33) (tgt := 38) hx hb dX0_tilt_5 (by decide) (by rw [c_5_2]; decide) (by decide) ?_
    refine lv_aload_n hx hb dX0_tilt_38 rfl (lv_at hl 0 rfl) ?_
    refine lv_iload_n hx hb dX0_tilt_39 rfl (lv_at hl 1 rfl) ?_
    refine xrd (va_runV (As := [.int (nI j)]) (rest := []) hF (c_X0_votes l D cI cS q a0 a1 a2 a3 n fo ki st we lo j (by first | assumption | omega) (by first | assumption | omega) (by first | assumption | omega) (by first | assumption | omega) (by first | assumption | omega)) (cwV 1 hts gX0_tilt_X0_votes rfl rfl rfl hV_X0_votes ⟨Nat.le_of_ble_eq_true rfl, Nat.le_of_ble_eq_true rfl⟩) (PR.preV hG hP (ci := 0) rfl rfl) rfl rfl hl.1 rfl (lv_room (Nat.le_of_ble_eq_true rfl)) dX0_tilt_40 ⟨Nat.le_refl _, Nat.le_refl _⟩) ?_
    refine lv_ineg hx hb dX0_tilt_43 ?_
    exact xretR hx hb hr hlk dX0_tilt_44 (by simp [tiN, c_5_2, zI_neg])
  refine lv_lookup (off := 40) (tgt := 45) hx hb dX0_tilt_5 (by decide) (by rw [nI_toInt (by omega)]; simp only [Op.lookupswitch.offset_cons, Op.lookupswitch.offset_nil]; rw [if_neg (by omega)]; rw [if_neg (by omega)]) (by decide) ?_
  refine lv_iconst (v := nI 0) hx hb dX0_tilt_45 (by decide) ?_
  exact xretR hx hb hr hlk dX0_tilt_46 (by simp [tiN, c_5_1, c_5_2, zI_0])

set_option maxHeartbeats 4000000 in
set_option maxRecDepth 100000 in
theorem c_X0_isCarried (l : Launch) (D : va_G) (cI cS : ClassId) (q : Nat) (a0 : Nat) (a1 : Nat) (a2 : Nat) (a3 : Nat) (n : Nat) (fo : Nat) (ki : Nat → Nat) (st : Nat → Nat) (we : Nat → Nat) (lo : Nat → Nat) (hn : n ≤ 8) (hfo : fo < 256) (hki : ∀ j, ki j ≤ 2) (hwe : ∀ j, we j ≤ 9) (hst : ∀ j, st j ≤ 3) (hlo : ∀ j, lo j ≤ 3) : Met l yX0_isCarried wsX0_isCarried ({ frames := 4, cells := 0, slots := 0, locals := 84 }) (PR D cI cS [.ref q] (wRow cI q a0 a1 a2 a3 n fo ki st we lo)) (vp_Si (fun r => r = bI (decide (0 < sumZ (tiN n fo ki st we lo) n)))) 0 0 (fun _ => False) := by
  refine startR (by decide) rfl (Nat.le_of_ble_eq_true rfl) ?_
  intro p e s m below meth c hx hb hr hts hown hlk hml hG hP ls hl
  have hl : lv_has ls 3 [(0, .ref q)] := hl
  have f24 := hts (.fieldLink RX0 24 "ChairBallot$Row" "count" "I") (by decide +kernel)
  have yX0 : ∀ w ∈ u_ws RX0 TX0 6, w.before _ s = true := fun w h => hts w ((by decide +kernel : ∀ w ∈ wsX00, w ∈ wsX0_isCarried) w h)
  have hF : CallFix p m c cX0_isCarried 3 s _ wsX0_isCarried RX0 := ⟨hx, hb, hml, hown, hts⟩
  refine lv_iconst (v := nI 0) hx hb dX0_isCarried_0 (by decide) ?_
  refine lv_istore_n (lv' := [(1, .int (nI 0)), (0, .ref q)]) hx hb dX0_isCarried_1 rfl hl (by decide) rfl (fun ls hl => ?_)
  refine lv_iconst (v := nI 0) hx hb dX0_isCarried_2 (by decide) ?_
  refine lv_istore_n (lv' := [(2, .int (nI 0)), (1, .int (nI 0)), (0, .ref q)]) hx hb dX0_isCarried_3 rfl hl (by decide) rfl (fun ls hl => ?_)
  have K4 : ∀ (fuel : Nat) (i : Nat) (x1 : Int32), x1 = zI (sumZ (tiN n fo ki st we lo) i) → (i ≤ n) → (n - i) < fuel → ∀ ls : Array Slot, lv_has ls 3 [(2, .int (nI i)), (1, .int x1), (0, .ref q)] → W p l e ({ frames := 4, cells := 0, slots := 0, locals := 84 }) s m (([.ref q] : List Value).toArray) below meth c s.heap [] 0 0 (MQ below (vp_Si (fun r => r = bI (decide (0 < sumZ (tiN n fo ki st we lo) n)))) (([.ref q] : List Value).toArray) s 0 0 (fun _ => False)) (F0 m 4 ls []) := by
    intro fuel
    induction fuel with
    | zero => intro i x1 e_x1 hi hmu; exact absurd hmu (Nat.not_lt_zero _)
    | succ fuel ih =>
      intro i x1 e_x1 hi hmu ls hl
      subst e_x1
      refine lv_iload_n hx hb dX0_isCarried_4 rfl (lv_at hl 0 rfl) ?_
      refine lv_aload_n hx hb dX0_isCarried_5 rfl (lv_at hl 2 rfl) ?_
      refine va_get (D := D) (ci := 0) (v := .int (nI n)) (C := RX0) (T := TX0) (N := 6) hx hb yX0 (fun _ h => h) hown hG.1 hP 0 rfl rfl 4 (by decide) f24 (fun _ h => h) rfl dX0_isCarried_6 ?_
      refine lv_icmp_ge (tgt := 26) hx hb dX0_isCarried_9 (by decide) (fun c_9 => ?_) (fun c_9 => ?_)
      ·
        replace c_9 := (nI_leI (a := n) (b := i) (by omega) (by omega)).mp c_9
        have hin : n = i := by omega
        subst hin
        refine lv_iload_n hx hb dX0_isCarried_26 rfl (lv_at hl 1 rfl) ?_
        refine lv_if_le (tgt := 34) hx hb dX0_isCarried_27 (by decide) (fun c_27 => ?_) (fun c_27 => ?_)
        ·
          refine lv_iconst (v := nI 0) hx hb dX0_isCarried_34 (by decide) ?_
          exact xretRz hx hb hr hlk dX0_isCarried_35 (false) rfl (by first | exact carX_1 hki hwe hn c_27 | exact carX_0 hki hwe hn c_27)
        ·
          refine lv_iconst (v := nI 1) hx hb dX0_isCarried_30 (by decide) ?_
          refine lv_goto (tgt := 35) hx hb dX0_isCarried_31 (by decide) ?_
          exact xretRz hx hb hr hlk dX0_isCarried_35 (true) rfl (by first | exact carX_1 hki hwe hn c_27 | exact carX_0 hki hwe hn c_27)
      ·
        replace c_9 := (not_congr (nI_leI (a := n) (b := i) (by omega) (by omega))).mp c_9
        refine lv_iload_n hx hb dX0_isCarried_12 rfl (lv_at hl 1 rfl) ?_
        refine lv_aload_n hx hb dX0_isCarried_13 rfl (lv_at hl 2 rfl) ?_
        refine lv_iload_n hx hb dX0_isCarried_14 rfl (lv_at hl 0 rfl) ?_
        refine xrd (va_runV (As := [.int (nI i)]) (rest := [.int (zI (sumZ (tiN n fo ki st we lo) i))]) hF (c_X0_tilt l D cI cS q a0 a1 a2 a3 n fo ki st we lo i (by first | assumption | omega) (by first | assumption | omega) (by first | assumption | omega) (by first | assumption | omega) (by first | assumption | omega) (by first | assumption | omega) (by first | assumption | omega)) (cwV 1 hts gX0_isCarried_X0_tilt rfl rfl rfl hV_X0_tilt ⟨Nat.le_of_ble_eq_true rfl, Nat.le_of_ble_eq_true rfl⟩) (PR.preV hG hP (ci := 0) rfl rfl) rfl rfl hl.1 rfl (lv_room (Nat.le_of_ble_eq_true rfl)) dX0_isCarried_15 ⟨Nat.le_refl _, Nat.le_refl _⟩) ?_
        refine lv_iadd hx hb dX0_isCarried_18 ?_
        refine lv_istore_n (lv' := [(1, .int ((zI (sumZ (tiN n fo ki st we lo) i)) + (zI (tiN n fo ki st we lo i)))), (2, .int (nI i)), (0, .ref q)]) hx hb dX0_isCarried_19 rfl hl (by decide) rfl (fun ls hl => ?_)
        refine lv_iinc (v := nI (i + 1)) (lv' := [(2, .int (nI (i + 1))), (1, .int ((zI (sumZ (tiN n fo ki st we lo) i)) + (zI (tiN n fo ki st we lo i)))), (0, .ref q)]) hx hb dX0_isCarried_20 hl (k := 1) rfl xinc1 (by decide) rfl (fun ls hl => ?_)
        refine lv_goto (tgt := 4) hx hb dX0_isCarried_23 (by decide) ?_
        exact ih (i + 1) ((zI (sumZ (tiN n fo ki st we lo) i)) + (zI (tiN n fo ki st we lo i))) (by exact zI_add _ _) (by omega) (by omega) ls (lv_sub hl [0, 1, 2] rfl)
  exact K4 _ 0 (nI 0) (by first | rfl | exact Nat.zero_le _ | omega | assumption) (by first | rfl | exact Nat.zero_le _ | omega | assumption) (Nat.lt_succ_self _) ls (lv_sub hl [0, 1, 2] rfl)

set_option maxHeartbeats 4000000 in
set_option maxRecDepth 100000 in
theorem c_X0_chairsOf (l : Launch) (D : va_G) (cI cS : ClassId) (q : Nat) (a0 : Nat) (a1 : Nat) (a2 : Nat) (a3 : Nat) (n : Nat) (fo : Nat) (ki : Nat → Nat) (st : Nat → Nat) (we : Nat → Nat) (lo : Nat → Nat) (s1 : Nat) (hn : n ≤ 8) (hfo : fo < 256) (hst : ∀ j, st j ≤ 3) (hlo : ∀ j, lo j ≤ 3) (hs : s1 ≤ 2) : Met l yX0_chairsOf wsX0_chairsOf ({ frames := 3, cells := 0, slots := 0, locals := 63 }) (PR D cI cS [.ref q, .int (nI s1)] (wRow cI q a0 a1 a2 a3 n fo ki st we lo)) (vp_Si (fun r => r = nI (setN (fun j => decide (sdN n fo st lo j = s1)) n))) 0 0 (fun _ => False) := by
  refine startR (by decide) rfl (Nat.le_of_ble_eq_true rfl) ?_
  intro p e s m below meth c hx hb hr hts hown hlk hml hG hP ls hl
  have hl : lv_has ls 4 [(0, .ref q), (1, .int (nI s1))] := hl
  have f24 := hts (.fieldLink RX0 24 "ChairBallot$Row" "count" "I") (by decide +kernel)
  have yX0 : ∀ w ∈ u_ws RX0 TX0 6, w.before _ s = true := fun w h => hts w ((by decide +kernel : ∀ w ∈ wsX00, w ∈ wsX0_chairsOf) w h)
  have hF : CallFix p m c cX0_chairsOf 4 s _ wsX0_chairsOf RX0 := ⟨hx, hb, hml, hown, hts⟩
  refine lv_iconst (v := nI 0) hx hb dX0_chairsOf_0 (by decide) ?_
  refine lv_istore_n (lv' := [(2, .int (nI 0)), (0, .ref q), (1, .int (nI s1))]) hx hb dX0_chairsOf_1 rfl hl (by decide) rfl (fun ls hl => ?_)
  refine lv_iconst (v := nI 0) hx hb dX0_chairsOf_2 (by decide) ?_
  refine lv_istore_n (lv' := [(3, .int (nI 0)), (2, .int (nI 0)), (0, .ref q), (1, .int (nI s1))]) hx hb dX0_chairsOf_3 rfl hl (by decide) rfl (fun ls hl => ?_)
  have K4 : ∀ (fuel : Nat) (i : Nat) (x2 : Int32), x2 = nI (setN (fun j => decide (sdN n fo st lo j = s1)) i) → (i ≤ n) → (n - i) < fuel → ∀ ls : Array Slot, lv_has ls 4 [(3, .int (nI i)), (2, .int x2), (0, .ref q), (1, .int (nI s1))] → W p l e ({ frames := 3, cells := 0, slots := 0, locals := 63 }) s m (([.ref q, .int (nI s1)] : List Value).toArray) below meth c s.heap [] 0 0 (MQ below (vp_Si (fun r => r = nI (setN (fun j => decide (sdN n fo st lo j = s1)) n))) (([.ref q, .int (nI s1)] : List Value).toArray) s 0 0 (fun _ => False)) (F0 m 4 ls []) := by
    intro fuel
    induction fuel with
    | zero => intro i x2 e_x2 hi hmu; exact absurd hmu (Nat.not_lt_zero _)
    | succ fuel ih =>
      intro i x2 e_x2 hi hmu ls hl
      subst e_x2
      have hs2 := sdN_le n fo st lo i
      refine lv_iload_n hx hb dX0_chairsOf_4 rfl (lv_at hl 0 rfl) ?_
      refine lv_aload_n hx hb dX0_chairsOf_5 rfl (lv_at hl 2 rfl) ?_
      refine va_get (D := D) (ci := 0) (v := .int (nI n)) (C := RX0) (T := TX0) (N := 6) hx hb yX0 (fun _ h => h) hown hG.1 hP 0 rfl rfl 4 (by decide) f24 (fun _ h => h) rfl dX0_chairsOf_6 ?_
      refine lv_icmp_ge (tgt := 33) hx hb dX0_chairsOf_9 (by decide) (fun c_9 => ?_) (fun c_9 => ?_)
      ·
        replace c_9 := (nI_leI (a := n) (b := i) (by omega) (by omega)).mp c_9
        have hin : n = i := by omega
        subst hin
        refine lv_iload_n hx hb dX0_chairsOf_33 rfl (lv_at hl 1 rfl) ?_
        exact xretR hx hb hr hlk dX0_chairsOf_34 (by rfl)
      ·
        replace c_9 := (not_congr (nI_leI (a := n) (b := i) (by omega) (by omega))).mp c_9
        refine lv_aload_n hx hb dX0_chairsOf_12 rfl (lv_at hl 2 rfl) ?_
        refine lv_iload_n hx hb dX0_chairsOf_13 rfl (lv_at hl 0 rfl) ?_
        refine xrd (va_runV (As := [.int (nI i)]) (rest := []) hF (c_X0_side l D cI cS q a0 a1 a2 a3 n fo ki st we lo i (by first | assumption | omega) (by first | assumption | omega) (by first | assumption | omega) (by first | assumption | omega) (by first | assumption | omega)) (cwV 1 hts gX0_chairsOf_X0_side rfl rfl rfl hV_X0_side ⟨Nat.le_of_ble_eq_true rfl, Nat.le_of_ble_eq_true rfl⟩) (PR.preV hG hP (ci := 0) rfl rfl) rfl rfl hl.1 rfl (lv_room (Nat.le_of_ble_eq_true rfl)) dX0_chairsOf_14 ⟨Nat.le_refl _, Nat.le_refl _⟩) ?_
        refine lv_iload_n hx hb dX0_chairsOf_17 rfl (lv_at hl 3 rfl) ?_
        refine lv_icmp_ne (tgt := 27) hx hb dX0_chairsOf_18 (by decide) (fun c_18 => ?_) (fun c_18 => ?_)
        ·
          replace c_18 := (not_congr (nI_eq (a := sdN n fo st lo i) (b := s1) (by omega) (by omega))).mp c_18
          refine lv_iinc (v := nI (i + 1)) (lv' := [(3, .int (nI (i + 1))), (2, .int (nI (setN (fun j => decide (sdN n fo st lo j = s1)) i))), (0, .ref q), (1, .int (nI s1))]) hx hb dX0_chairsOf_27 hl (k := 0) rfl xinc1 (by decide) rfl (fun ls hl => ?_)
          refine lv_goto (tgt := 4) hx hb dX0_chairsOf_30 (by decide) ?_
          exact ih (i + 1) (nI (setN (fun j => decide (sdN n fo st lo j = s1)) i)) (by simp [setN, c_9, c_18]) (by omega) (by omega) ls (lv_sub hl [0, 1, 2, 3] rfl)
        ·
          replace c_18 := (nI_eq (a := sdN n fo st lo i) (b := s1) (by omega) (by omega)).mp c_18
          refine lv_iload_n hx hb dX0_chairsOf_21 rfl (lv_at hl 1 rfl) ?_
          refine lv_iconst (v := nI 1) hx hb dX0_chairsOf_22 (by decide) ?_
          refine lv_iload_n hx hb dX0_chairsOf_23 rfl (lv_at hl 0 rfl) ?_
          refine lv_ishl hx hb dX0_chairsOf_24 ?_
          refine xtop (x' := nI (2 ^ i)) (by exact shl1 i (by omega)) ?_
          refine lv_ior hx hb dX0_chairsOf_25 ?_
          refine xtop (x' := nI (setN (fun j => decide (sdN n fo st lo j = s1)) i ||| 2 ^ i)) (by exact nI_or _ _) ?_
          refine lv_istore_n (lv' := [(2, .int (nI (setN (fun j => decide (sdN n fo st lo j = s1)) i ||| 2 ^ i))), (3, .int (nI i)), (0, .ref q), (1, .int (nI s1))]) hx hb dX0_chairsOf_26 rfl hl (by decide) rfl (fun ls hl => ?_)
          refine lv_iinc (v := nI (i + 1)) (lv' := [(3, .int (nI (i + 1))), (2, .int (nI (setN (fun j => decide (sdN n fo st lo j = s1)) i ||| 2 ^ i))), (0, .ref q), (1, .int (nI s1))]) hx hb dX0_chairsOf_27 hl (k := 1) rfl xinc1 (by decide) rfl (fun ls hl => ?_)
          refine lv_goto (tgt := 4) hx hb dX0_chairsOf_30 (by decide) ?_
          exact ih (i + 1) (nI (setN (fun j => decide (sdN n fo st lo j = s1)) i ||| 2 ^ i)) (by simp [setN, c_9, c_18]) (by omega) (by omega) ls (lv_sub hl [0, 1, 2, 3] rfl)
  exact K4 _ 0 (nI 0) (by first | rfl | exact Nat.zero_le _ | omega | assumption) (by first | rfl | exact Nat.zero_le _ | omega | assumption) (Nat.lt_succ_self _) ls (lv_sub hl [0, 1, 2, 3] rfl)

set_option maxHeartbeats 4000000 in
set_option maxRecDepth 100000 in
theorem c_X0_votesIn (l : Launch) (D : va_G) (cI cS : ClassId) (q : Nat) (a0 : Nat) (a1 : Nat) (a2 : Nat) (a3 : Nat) (n : Nat) (fo : Nat) (ki : Nat → Nat) (st : Nat → Nat) (we : Nat → Nat) (lo : Nat → Nat) (s1 : Nat) (hn : n ≤ 8) (hfo : fo < 256) (hki : ∀ j, ki j ≤ 2) (hwe : ∀ j, we j ≤ 9) (hs : s1 < 256) : Met l yX0_votesIn wsX0_votesIn ({ frames := 3, cells := 0, slots := 0, locals := 63 }) (PR D cI cS [.ref q, .int (nI s1)] (wRow cI q a0 a1 a2 a3 n fo ki st we lo)) (vp_Si (fun r => r = nI (sumN (viN s1 fo ki we) n))) 0 0 (fun _ => False) := by
  refine startR (by decide) rfl (Nat.le_of_ble_eq_true rfl) ?_
  intro p e s m below meth c hx hb hr hts hown hlk hml hG hP ls hl
  have hl : lv_has ls 4 [(0, .ref q), (1, .int (nI s1))] := hl
  have f24 := hts (.fieldLink RX0 24 "ChairBallot$Row" "count" "I") (by decide +kernel)
  have yX0 : ∀ w ∈ u_ws RX0 TX0 6, w.before _ s = true := fun w h => hts w ((by decide +kernel : ∀ w ∈ wsX00, w ∈ wsX0_votesIn) w h)
  have hF : CallFix p m c cX0_votesIn 4 s _ wsX0_votesIn RX0 := ⟨hx, hb, hml, hown, hts⟩
  refine lv_iconst (v := nI 0) hx hb dX0_votesIn_0 (by decide) ?_
  refine lv_istore_n (lv' := [(2, .int (nI 0)), (0, .ref q), (1, .int (nI s1))]) hx hb dX0_votesIn_1 rfl hl (by decide) rfl (fun ls hl => ?_)
  refine lv_iconst (v := nI 0) hx hb dX0_votesIn_2 (by decide) ?_
  refine lv_istore_n (lv' := [(3, .int (nI 0)), (2, .int (nI 0)), (0, .ref q), (1, .int (nI s1))]) hx hb dX0_votesIn_3 rfl hl (by decide) rfl (fun ls hl => ?_)
  have K4 : ∀ (fuel : Nat) (i : Nat) (x2 : Int32), x2 = nI (sumN (viN s1 fo ki we) i) → (i ≤ n) → (n - i) < fuel → ∀ ls : Array Slot, lv_has ls 4 [(3, .int (nI i)), (2, .int x2), (0, .ref q), (1, .int (nI s1))] → W p l e ({ frames := 3, cells := 0, slots := 0, locals := 63 }) s m (([.ref q, .int (nI s1)] : List Value).toArray) below meth c s.heap [] 0 0 (MQ below (vp_Si (fun r => r = nI (sumN (viN s1 fo ki we) n))) (([.ref q, .int (nI s1)] : List Value).toArray) s 0 0 (fun _ => False)) (F0 m 4 ls []) := by
    intro fuel
    induction fuel with
    | zero => intro i x2 e_x2 hi hmu; exact absurd hmu (Nat.not_lt_zero _)
    | succ fuel ih =>
      intro i x2 e_x2 hi hmu ls hl
      subst e_x2
      refine lv_iload_n hx hb dX0_votesIn_4 rfl (lv_at hl 0 rfl) ?_
      refine lv_aload_n hx hb dX0_votesIn_5 rfl (lv_at hl 2 rfl) ?_
      refine va_get (D := D) (ci := 0) (v := .int (nI n)) (C := RX0) (T := TX0) (N := 6) hx hb yX0 (fun _ h => h) hown hG.1 hP 0 rfl rfl 4 (by decide) f24 (fun _ h => h) rfl dX0_votesIn_6 ?_
      refine lv_icmp_ge (tgt := 34) hx hb dX0_votesIn_9 (by decide) (fun c_9 => ?_) (fun c_9 => ?_)
      ·
        replace c_9 := (nI_leI (a := n) (b := i) (by omega) (by omega)).mp c_9
        have hin : n = i := by omega
        subst hin
        refine lv_iload_n hx hb dX0_votesIn_34 rfl (lv_at hl 1 rfl) ?_
        exact xretR hx hb hr hlk dX0_votesIn_35 (by rfl)
      ·
        replace c_9 := (not_congr (nI_leI (a := n) (b := i) (by omega) (by omega))).mp c_9
        refine lv_iload_n hx hb dX0_votesIn_12 rfl (lv_at hl 3 rfl) ?_
        refine lv_iload_n hx hb dX0_votesIn_13 rfl (lv_at hl 0 rfl) ?_
        refine xrd (va_runSN (As := [.int (nI s1), .int (nI i)]) (rest := []) hF (c_X2_isIn l D cI cS s1 i (by first | assumption | omega) (by first | assumption | omega)) ⟨va_cnB 2 hts gX0_votesIn_X2_isIn_n70 rfl rfl rfl hG.2.2 (hts (.initialized RX2) (by decide +kernel)) hD_X2_isIn ⟨Nat.le_of_ble_eq_true rfl, Nat.le_of_ble_eq_true rfl⟩, hts (.static yX2_isIn) (by decide +kernel), trivial⟩ (PR.pre hG (hP.sub (ws' := []) [] rfl)) rfl rfl hl.1 rfl (lv_room (Nat.le_of_ble_eq_true rfl)) dX0_votesIn_14 ⟨Nat.le_refl _, Nat.le_refl _⟩) ?_
        refine lv_if_eq (tgt := 28) hx hb dX0_votesIn_17 (by decide) (fun c_17 => ?_) (fun c_17 => ?_)
        ·
          replace c_17 := bI_0.mp c_17
          refine lv_iinc (v := nI (i + 1)) (lv' := [(3, .int (nI (i + 1))), (2, .int (nI (sumN (viN s1 fo ki we) i))), (0, .ref q), (1, .int (nI s1))]) hx hb dX0_votesIn_28 hl (k := 0) rfl xinc1 (by decide) rfl (fun ls hl => ?_)
          refine lv_goto (tgt := 4) hx hb dX0_votesIn_31 (by decide) ?_
          exact ih (i + 1) (nI (sumN (viN s1 fo ki we) i)) (by simp [sumN, viN, c_9, c_17]) (by omega) (by omega) ls (lv_sub hl [0, 1, 2, 3] rfl)
        ·
          replace c_17 := bI_n0.mp c_17
          refine lv_iload_n hx hb dX0_votesIn_20 rfl (lv_at hl 1 rfl) ?_
          refine lv_aload_n hx hb dX0_votesIn_21 rfl (lv_at hl 2 rfl) ?_
          refine lv_iload_n hx hb dX0_votesIn_22 rfl (lv_at hl 0 rfl) ?_
          refine xrd (va_runV (As := [.int (nI i)]) (rest := [.int (nI (sumN (viN s1 fo ki we) i))]) hF (c_X0_votes l D cI cS q a0 a1 a2 a3 n fo ki st we lo i (by first | assumption | omega) (by first | assumption | omega) (by first | assumption | omega) (by first | assumption | omega) (by first | assumption | omega)) (cwV 1 hts gX0_votesIn_X0_votes rfl rfl rfl hV_X0_votes ⟨Nat.le_of_ble_eq_true rfl, Nat.le_of_ble_eq_true rfl⟩) (PR.preV hG hP (ci := 0) rfl rfl) rfl rfl hl.1 rfl (lv_room (Nat.le_of_ble_eq_true rfl)) dX0_votesIn_23 ⟨Nat.le_refl _, Nat.le_refl _⟩) ?_
          refine xaddN hx hb dX0_votesIn_26 ?_
          refine lv_istore_n (lv' := [(2, .int (nI (sumN (viN s1 fo ki we) i + voN fo ki we i))), (3, .int (nI i)), (0, .ref q), (1, .int (nI s1))]) hx hb dX0_votesIn_27 rfl hl (by decide) rfl (fun ls hl => ?_)
          refine lv_iinc (v := nI (i + 1)) (lv' := [(3, .int (nI (i + 1))), (2, .int (nI (sumN (viN s1 fo ki we) i + voN fo ki we i))), (0, .ref q), (1, .int (nI s1))]) hx hb dX0_votesIn_28 hl (k := 1) rfl xinc1 (by decide) rfl (fun ls hl => ?_)
          refine lv_goto (tgt := 4) hx hb dX0_votesIn_31 (by decide) ?_
          exact ih (i + 1) (nI (sumN (viN s1 fo ki we) i + voN fo ki we i)) (by simp [sumN, viN, c_9, c_17]) (by omega) (by omega) ls (lv_sub hl [0, 1, 2, 3] rfl)
  exact K4 _ 0 (nI 0) (by first | rfl | exact Nat.zero_le _ | omega | assumption) (by first | rfl | exact Nat.zero_le _ | omega | assumption) (Nat.lt_succ_self _) ls (lv_sub hl [0, 1, 2, 3] rfl)

set_option maxHeartbeats 4000000 in
set_option maxRecDepth 100000 in
theorem c_X0_votesOf (l : Launch) (D : va_G) (cI cS : ClassId) (q : Nat) (a0 : Nat) (a1 : Nat) (a2 : Nat) (a3 : Nat) (n : Nat) (fo : Nat) (ki : Nat → Nat) (st : Nat → Nat) (we : Nat → Nat) (lo : Nat → Nat) (s1 : Nat) (hn : n ≤ 8) (hfo : fo < 256) (hki : ∀ j, ki j ≤ 2) (hwe : ∀ j, we j ≤ 9) (hst : ∀ j, st j ≤ 3) (hlo : ∀ j, lo j ≤ 3) (hs : s1 ≤ 2) : Met l yX0_votesOf wsX0_votesOf ({ frames := 4, cells := 0, slots := 0, locals := 86 }) (PR D cI cS [.ref q, .int (nI s1)] (wRow cI q a0 a1 a2 a3 n fo ki st we lo)) (vp_Si (fun r => r = nI (vfN n fo ki st we lo s1))) 0 0 (fun _ => False) := by
  refine startR (by decide) rfl (Nat.le_of_ble_eq_true rfl) ?_
  intro p e s m below meth c hx hb hr hts hown hlk hml hG hP ls hl
  have hl : lv_has ls 2 [(0, .ref q), (1, .int (nI s1))] := hl
  have hF : CallFix p m c cX0_votesOf 2 s _ wsX0_votesOf RX0 := ⟨hx, hb, hml, hown, hts⟩
  refine lv_aload_n hx hb dX0_votesOf_0 rfl (lv_at hl 0 rfl) ?_
  refine lv_aload_n hx hb dX0_votesOf_1 rfl (lv_at hl 0 rfl) ?_
  refine lv_iload_n hx hb dX0_votesOf_2 rfl (lv_at hl 1 rfl) ?_
  refine xrd (va_runV (As := [.int (nI s1)]) (rest := [.ref q]) hF (c_X0_chairsOf l D cI cS q a0 a1 a2 a3 n fo ki st we lo s1 (by first | assumption | omega) (by first | assumption | omega) (by first | assumption | omega) (by first | assumption | omega) (by first | assumption | omega)) (cwV 1 hts gX0_votesOf_X0_chairsOf rfl rfl rfl hV_X0_chairsOf ⟨Nat.le_of_ble_eq_true rfl, Nat.le_of_ble_eq_true rfl⟩) (PR.preV hG hP (ci := 0) rfl rfl) rfl rfl hl.1 rfl (lv_room (Nat.le_of_ble_eq_true rfl)) dX0_votesOf_3 ⟨Nat.le_refl _, Nat.le_refl _⟩) ?_
  refine xrd (va_runV (As := [.int (nI (setN (fun j => decide (sdN n fo st lo j = s1)) n))]) (rest := []) hF (c_X0_votesIn l D cI cS q a0 a1 a2 a3 n fo ki st we lo (setN (fun j => decide (sdN n fo st lo j = s1)) n) (by first | assumption | omega) (by first | assumption | omega) (by first | assumption | omega) (by first | assumption | omega) (by exact setN_256 hn)) (cwV 1 hts gX0_votesOf_X0_votesIn rfl rfl rfl hV_X0_votesIn ⟨Nat.le_of_ble_eq_true rfl, Nat.le_of_ble_eq_true rfl⟩) (PR.preV hG hP (ci := 0) rfl rfl) rfl rfl hl.1 rfl (lv_room (Nat.le_of_ble_eq_true rfl)) dX0_votesOf_6 ⟨Nat.le_refl _, Nat.le_refl _⟩) ?_
  exact xretR hx hb hr hlk dX0_votesOf_9 (by rw [vf_eq])

set_option maxHeartbeats 4000000 in
set_option maxRecDepth 100000 in
theorem c_X0_votesOfStripes (l : Launch) (D : va_G) (cI cS : ClassId) (q : Nat) (a0 : Nat) (a1 : Nat) (a2 : Nat) (a3 : Nat) (n : Nat) (fo : Nat) (ki : Nat → Nat) (st : Nat → Nat) (we : Nat → Nat) (lo : Nat → Nat) (s1 : Nat) (hn : n ≤ 8) (hfo : fo < 256) (hki : ∀ j, ki j ≤ 2) (hwe : ∀ j, we j ≤ 9) (hst : ∀ j, st j ≤ 3) (hs : s1 < 256) : Met l yX0_votesOfStripes wsX0_votesOfStripes ({ frames := 3, cells := 0, slots := 0, locals := 63 }) (PR D cI cS [.ref q, .int (nI s1)] (wRow cI q a0 a1 a2 a3 n fo ki st we lo)) (vp_Si (fun r => r = nI (sumN (vsN s1 st fo ki we) n))) 0 0 (fun _ => False) := by
  refine startR (by decide) rfl (Nat.le_of_ble_eq_true rfl) ?_
  intro p e s m below meth c hx hb hr hts hown hlk hml hG hP ls hl
  have hl : lv_has ls 4 [(0, .ref q), (1, .int (nI s1))] := hl
  have f24 := hts (.fieldLink RX0 24 "ChairBallot$Row" "count" "I") (by decide +kernel)
  have f15 := hts (.fieldLink RX0 15 "ChairBallot$Row" "stripe" "[I") (by decide +kernel)
  have yX0 : ∀ w ∈ u_ws RX0 TX0 6, w.before _ s = true := fun w h => hts w ((by decide +kernel : ∀ w ∈ wsX00, w ∈ wsX0_votesOfStripes) w h)
  have hF : CallFix p m c cX0_votesOfStripes 4 s _ wsX0_votesOfStripes RX0 := ⟨hx, hb, hml, hown, hts⟩
  refine lv_iconst (v := nI 0) hx hb dX0_votesOfStripes_0 (by decide) ?_
  refine lv_istore_n (lv' := [(2, .int (nI 0)), (0, .ref q), (1, .int (nI s1))]) hx hb dX0_votesOfStripes_1 rfl hl (by decide) rfl (fun ls hl => ?_)
  refine lv_iconst (v := nI 0) hx hb dX0_votesOfStripes_2 (by decide) ?_
  refine lv_istore_n (lv' := [(3, .int (nI 0)), (2, .int (nI 0)), (0, .ref q), (1, .int (nI s1))]) hx hb dX0_votesOfStripes_3 rfl hl (by decide) rfl (fun ls hl => ?_)
  have K4 : ∀ (fuel : Nat) (i : Nat) (x2 : Int32), x2 = nI (sumN (vsN s1 st fo ki we) i) → (i ≤ n) → (n - i) < fuel → ∀ ls : Array Slot, lv_has ls 4 [(3, .int (nI i)), (2, .int x2), (0, .ref q), (1, .int (nI s1))] → W p l e ({ frames := 3, cells := 0, slots := 0, locals := 63 }) s m (([.ref q, .int (nI s1)] : List Value).toArray) below meth c s.heap [] 0 0 (MQ below (vp_Si (fun r => r = nI (sumN (vsN s1 st fo ki we) n))) (([.ref q, .int (nI s1)] : List Value).toArray) s 0 0 (fun _ => False)) (F0 m 4 ls []) := by
    intro fuel
    induction fuel with
    | zero => intro i x2 e_x2 hi hmu; exact absurd hmu (Nat.not_lt_zero _)
    | succ fuel ih =>
      intro i x2 e_x2 hi hmu ls hl
      subst e_x2
      have hsi := hst i
      refine lv_iload_n hx hb dX0_votesOfStripes_4 rfl (lv_at hl 0 rfl) ?_
      refine lv_aload_n hx hb dX0_votesOfStripes_5 rfl (lv_at hl 2 rfl) ?_
      refine va_get (D := D) (ci := 0) (v := .int (nI n)) (C := RX0) (T := TX0) (N := 6) hx hb yX0 (fun _ h => h) hown hG.1 hP 0 rfl rfl 4 (by decide) f24 (fun _ h => h) rfl dX0_votesOfStripes_6 ?_
      refine lv_icmp_ge (tgt := 39) hx hb dX0_votesOfStripes_9 (by decide) (fun c_9 => ?_) (fun c_9 => ?_)
      ·
        replace c_9 := (nI_leI (a := n) (b := i) (by omega) (by omega)).mp c_9
        have hin : n = i := by omega
        subst hin
        refine lv_iload_n hx hb dX0_votesOfStripes_39 rfl (lv_at hl 1 rfl) ?_
        exact xretR hx hb hr hlk dX0_votesOfStripes_40 (by rfl)
      ·
        replace c_9 := (not_congr (nI_leI (a := n) (b := i) (by omega) (by omega))).mp c_9
        refine lv_iload_n hx hb dX0_votesOfStripes_12 rfl (lv_at hl 3 rfl) ?_
        refine lv_aload_n hx hb dX0_votesOfStripes_13 rfl (lv_at hl 2 rfl) ?_
        refine va_get (D := D) (ci := 0) (v := .ref a1) (C := RX0) (T := TX0) (N := 6) hx hb yX0 (fun _ h => h) hown hG.1 hP 0 rfl rfl 1 (by decide) f15 (fun _ h => h) rfl dX0_votesOfStripes_14 ?_
        refine lv_iload_n hx hb dX0_votesOfStripes_17 rfl (lv_at hl 0 rfl) ?_
        refine xaldN hx hb hG hP 2 rfl (i) rfl (by omega) (by decide) dX0_votesOfStripes_18 ?_
        refine xrd (va_runSN (As := [.int (nI s1), .int (nI (st i))]) (rest := []) hF (c_X2_isIn l D cI cS s1 (st i) (by first | assumption | omega) (by first | assumption | omega)) ⟨va_cnB 2 hts gX0_votesOfStripes_X2_isIn_n70 rfl rfl rfl hG.2.2 (hts (.initialized RX2) (by decide +kernel)) hD_X2_isIn ⟨Nat.le_of_ble_eq_true rfl, Nat.le_of_ble_eq_true rfl⟩, hts (.static yX2_isIn) (by decide +kernel), trivial⟩ (PR.pre hG (hP.sub (ws' := []) [] rfl)) rfl rfl hl.1 rfl (lv_room (Nat.le_of_ble_eq_true rfl)) dX0_votesOfStripes_19 ⟨Nat.le_refl _, Nat.le_refl _⟩) ?_
        refine lv_if_eq (tgt := 33) hx hb dX0_votesOfStripes_22 (by decide) (fun c_22 => ?_) (fun c_22 => ?_)
        ·
          replace c_22 := bI_0.mp c_22
          refine lv_iinc (v := nI (i + 1)) (lv' := [(3, .int (nI (i + 1))), (2, .int (nI (sumN (vsN s1 st fo ki we) i))), (0, .ref q), (1, .int (nI s1))]) hx hb dX0_votesOfStripes_33 hl (k := 0) rfl xinc1 (by decide) rfl (fun ls hl => ?_)
          refine lv_goto (tgt := 4) hx hb dX0_votesOfStripes_36 (by decide) ?_
          exact ih (i + 1) (nI (sumN (vsN s1 st fo ki we) i)) (by simp [sumN, vsN, c_9, c_22]) (by omega) (by omega) ls (lv_sub hl [0, 1, 2, 3] rfl)
        ·
          replace c_22 := bI_n0.mp c_22
          refine lv_iload_n hx hb dX0_votesOfStripes_25 rfl (lv_at hl 1 rfl) ?_
          refine lv_aload_n hx hb dX0_votesOfStripes_26 rfl (lv_at hl 2 rfl) ?_
          refine lv_iload_n hx hb dX0_votesOfStripes_27 rfl (lv_at hl 0 rfl) ?_
          refine xrd (va_runV (As := [.int (nI i)]) (rest := [.int (nI (sumN (vsN s1 st fo ki we) i))]) hF (c_X0_votes l D cI cS q a0 a1 a2 a3 n fo ki st we lo i (by first | assumption | omega) (by first | assumption | omega) (by first | assumption | omega) (by first | assumption | omega) (by first | assumption | omega)) (cwV 1 hts gX0_votesOfStripes_X0_votes rfl rfl rfl hV_X0_votes ⟨Nat.le_of_ble_eq_true rfl, Nat.le_of_ble_eq_true rfl⟩) (PR.preV hG hP (ci := 0) rfl rfl) rfl rfl hl.1 rfl (lv_room (Nat.le_of_ble_eq_true rfl)) dX0_votesOfStripes_28 ⟨Nat.le_refl _, Nat.le_refl _⟩) ?_
          refine xaddN hx hb dX0_votesOfStripes_31 ?_
          refine lv_istore_n (lv' := [(2, .int (nI (sumN (vsN s1 st fo ki we) i + voN fo ki we i))), (3, .int (nI i)), (0, .ref q), (1, .int (nI s1))]) hx hb dX0_votesOfStripes_32 rfl hl (by decide) rfl (fun ls hl => ?_)
          refine lv_iinc (v := nI (i + 1)) (lv' := [(3, .int (nI (i + 1))), (2, .int (nI (sumN (vsN s1 st fo ki we) i + voN fo ki we i))), (0, .ref q), (1, .int (nI s1))]) hx hb dX0_votesOfStripes_33 hl (k := 1) rfl xinc1 (by decide) rfl (fun ls hl => ?_)
          refine lv_goto (tgt := 4) hx hb dX0_votesOfStripes_36 (by decide) ?_
          exact ih (i + 1) (nI (sumN (vsN s1 st fo ki we) i + voN fo ki we i)) (by simp [sumN, vsN, c_9, c_22]) (by omega) (by omega) ls (lv_sub hl [0, 1, 2, 3] rfl)
  exact K4 _ 0 (nI 0) (by first | rfl | exact Nat.zero_le _ | omega | assumption) (by first | rfl | exact Nat.zero_le _ | omega | assumption) (Nat.lt_succ_self _) ls (lv_sub hl [0, 1, 2, 3] rfl)

set_option maxHeartbeats 4000000 in
set_option maxRecDepth 100000 in
theorem c_X0_turned (l : Launch) (D : va_G) (cI cS : ClassId) (q : Nat) (a0 : Nat) (a1 : Nat) (a2 : Nat) (a3 : Nat) (n : Nat) (fo : Nat) (ki : Nat → Nat) (st : Nat → Nat) (we : Nat → Nat) (lo : Nat → Nat) (j : Nat) (w : Nat) (hnd : nd [q, a0, a1, a2, a3]) (hn : n ≤ 8) (hfo : fo < 256) (hj : j < n) : Met l yX0_turned wsX0_turned ({ frames := 1, cells := 0, slots := 0, locals := 21 }) (PR D cI cS [.ref q, .int (nI j), .int (nI w)] (wRow cI q a0 a1 a2 a3 n fo ki st we lo)) (va_Qi (fun r (zz : Unit) => r = bI (!fo.testBit j)) (fun (zz : Unit) t => va_P D vwCl (wRow cI q a0 a1 a2 a3 n fo ki st we (trn fo lo j w)) t.heap) (AW [q, a0, a1, a2, a3])) 0 0 (AW [q, a0, a1, a2, a3]) := by
  refine startM (by decide) rfl (Nat.le_of_ble_eq_true rfl) hnd rfl ?_
  intro p e s m below meth c hx hb hr hts hown hlk hml hG hP hD hS ls hl
  have hl : lv_has ls 3 [(0, .ref q), (1, .int (nI j)), (2, .int (nI w))] := hl
  have f21 := hts (.fieldLink RX0 21 "ChairBallot$Row" "looks" "[I") (by decide +kernel)
  have yX0 : ∀ w ∈ u_ws RX0 TX0 6, w.before _ s = true := fun w h => hts w ((by decide +kernel : ∀ w ∈ wsX00, w ∈ wsX0_turned) w h)
  have hF : CallFix p m c cX0_turned 3 s _ wsX0_turned RX0 := ⟨hx, hb, hml, hown, hts⟩
  refine lv_aload_n hx hb dX0_turned_0 rfl (lv_at hl 0 rfl) ?_
  refine lv_iload_n hx hb dX0_turned_1 rfl (lv_at hl 1 rfl) ?_
  refine xrd (va_runV (As := [.int (nI j)]) (rest := []) hF (c_X0_hasN l D cI cS q a0 a1 a2 a3 n fo ki st we lo j (by first | assumption | omega) (by first | assumption | omega)) (cwV 1 hts gX0_turned_X0_has rfl rfl rfl hV_X0_has ⟨Nat.le_of_ble_eq_true rfl, Nat.le_of_ble_eq_true rfl⟩) (PR.preV hG hP (ci := 0) rfl rfl) rfl rfl hl.1 rfl (lv_room (Nat.le_of_ble_eq_true rfl)) dX0_turned_2 ⟨Nat.le_refl _, Nat.le_refl _⟩) ?_
  refine lv_if_eq (tgt := 16) hx hb dX0_turned_5 (by decide) (fun c_5 => ?_) (fun c_5 => ?_)
  ·
    replace c_5 := bI_0.mp c_5
    replace c_5 := of_decide_eq_false c_5
    omega
  ·
    replace c_5 := bI_n0.mp c_5
    replace c_5 := of_decide_eq_true c_5
    refine lv_aload_n hx hb dX0_turned_8 rfl (lv_at hl 0 rfl) ?_
    refine lv_iload_n hx hb dX0_turned_9 rfl (lv_at hl 1 rfl) ?_
    refine xrd (va_runV (As := [.int (nI j)]) (rest := []) hF (c_X0_isFolded l D cI cS q a0 a1 a2 a3 n fo ki st we lo j (by first | assumption | omega) (by first | assumption | omega)) (cwV 1 hts gX0_turned_X0_isFolded rfl rfl rfl hV_X0_isFolded ⟨Nat.le_of_ble_eq_true rfl, Nat.le_of_ble_eq_true rfl⟩) (PR.preV hG hP (ci := 0) rfl rfl) rfl rfl hl.1 rfl (lv_room (Nat.le_of_ble_eq_true rfl)) dX0_turned_10 ⟨Nat.le_refl _, Nat.le_refl _⟩) ?_
    refine lv_if_eq (tgt := 18) hx hb dX0_turned_13 (by decide) (fun c_13 => ?_) (fun c_13 => ?_)
    ·
      replace c_13 := bI_0.mp c_13
      refine lv_aload_n hx hb dX0_turned_18 rfl (lv_at hl 0 rfl) ?_
      refine va_get (D := D) (ci := 0) (v := .ref a3) (C := RX0) (T := TX0) (N := 6) hx hb yX0 (fun _ h => h) hown hG.1 hP 0 rfl rfl 3 (by decide) f21 (fun _ h => h) rfl dX0_turned_19 ?_
      refine lv_iload_n hx hb dX0_turned_22 rfl (lv_at hl 1 rfl) ?_
      refine lv_iload_n hx hb dX0_turned_23 rfl (lv_at hl 2 rfl) ?_
      refine xastN hx hb hG hP hD hS 4 rfl (j) (w) rfl rfl (by omega) (by decide) dX0_turned_24 (fun H locs hP hD hS => ?_)
      have hP : va_P D vwCl (wRow cI q a0 a1 a2 a3 n fo ki st we (updN lo j w)) H := hP
      have hD : va_D (AW [q, a0, a1, a2, a3]) (wRow cI q a0 a1 a2 a3 n fo ki st we (updN lo j w)) := hD
      refine lv_iconst (v := nI 1) hx hb dX0_turned_25 (by decide) ?_
      exact xretMz hx hb hr hlk dX0_turned_26 hS (true) rfl () (by rw [c_13]; rfl) (fun t ht => by rw [ht]; rw [show trn fo lo j w = (updN lo j w) from by simp [trn, c_5, c_13]]; exact hP)
    ·
      replace c_13 := bI_n0.mp c_13
      refine lv_iconst (v := nI 0) hx hb dX0_turned_16 (by decide) ?_
      exact xretMz hx hb hr hlk dX0_turned_17 hS (false) rfl () (by rw [c_13]; rfl) (fun t ht => by rw [ht]; rw [show trn fo lo j w = lo from by simp [trn, c_5, c_13]]; exact hP)

set_option maxHeartbeats 4000000 in
set_option maxRecDepth 100000 in
theorem c_X0_blown (l : Launch) (D : va_G) (cI cS : ClassId) (q : Nat) (a0 : Nat) (a1 : Nat) (a2 : Nat) (a3 : Nat) (n : Nat) (fo : Nat) (ki : Nat → Nat) (st : Nat → Nat) (we : Nat → Nat) (lo : Nat → Nat) (w : Nat) (v : Nat) (hnd : nd [q, a0, a1, a2, a3]) (hn : n ≤ 8) (hfo : fo < 256) (hlo : ∀ j, lo j ≤ 3) (hwe : ∀ j, we j ≤ 9) (hw : w ≤ 3) (hv : v ≤ 10) : Met l yX0_blown wsX0_blown ({ frames := 1, cells := 0, slots := 0, locals := 21 }) (PR D cI cS [.ref q, .int (nI w), .int (nI v)] (wRow cI q a0 a1 a2 a3 n fo ki st we lo)) (va_Qi (fun r (zz : Unit) => r = nI (sumN (blwC fo we lo w v) n)) (fun (zz : Unit) t => va_P D vwCl (wRow cI q a0 a1 a2 a3 n fo ki st we (blwL n fo we lo w v)) t.heap) (AW [q, a0, a1, a2, a3])) 0 0 (AW [q, a0, a1, a2, a3]) := by
  refine startM (by decide) rfl (Nat.le_of_ble_eq_true rfl) hnd rfl ?_
  intro p e s m below meth c hx hb hr hts hown hlk hml hG hP hD hS ls hl
  have hl : lv_has ls 5 [(0, .ref q), (1, .int (nI w)), (2, .int (nI v))] := hl
  have f24 := hts (.fieldLink RX0 24 "ChairBallot$Row" "count" "I") (by decide +kernel)
  have f18 := hts (.fieldLink RX0 18 "ChairBallot$Row" "weight" "[I") (by decide +kernel)
  have f21 := hts (.fieldLink RX0 21 "ChairBallot$Row" "looks" "[I") (by decide +kernel)
  have yX0 : ∀ w ∈ u_ws RX0 TX0 6, w.before _ s = true := fun w h => hts w ((by decide +kernel : ∀ w ∈ wsX00, w ∈ wsX0_blown) w h)
  have hF : CallFix p m c cX0_blown 5 s _ wsX0_blown RX0 := ⟨hx, hb, hml, hown, hts⟩
  refine lv_iconst (v := nI 0) hx hb dX0_blown_0 (by decide) ?_
  refine lv_istore_n (lv' := [(3, .int (nI 0)), (0, .ref q), (1, .int (nI w)), (2, .int (nI v))]) hx hb dX0_blown_1 rfl hl (by decide) rfl (fun ls hl => ?_)
  refine lv_iconst (v := nI 0) hx hb dX0_blown_2 (by decide) ?_
  refine lv_istore (lv' := [(4, .int (nI 0)), (3, .int (nI 0)), (0, .ref q), (1, .int (nI w)), (2, .int (nI v))]) hx hb dX0_blown_3 hl (by decide) rfl (fun ls hl => ?_)
  have K5 : ∀ (fuel : Nat) (i : Nat) (x3 : Int32) (g : Nat → Nat), x3 = nI (sumN (blwC fo we lo w v) i) → g = blwL i fo we lo w v → (i ≤ n) → (n - i) < fuel → ∀ (H : Heap) (locs : List Loc), va_P D vwCl (wRow cI q a0 a1 a2 a3 n fo ki st we g) H → va_D (AW [q, a0, a1, a2, a3]) (wRow cI q a0 a1 a2 a3 n fo ki st we g) → va_S (AW [q, a0, a1, a2, a3]) s.heap H locs → ∀ ls : Array Slot, lv_has ls 5 [(4, .int (nI i)), (3, .int x3), (0, .ref q), (1, .int (nI w)), (2, .int (nI v))] → W p l e ({ frames := 1, cells := 0, slots := 0, locals := 21 }) s m (([.ref q, .int (nI w), .int (nI v)] : List Value).toArray) below meth c H locs 0 0 (MQ below (va_Qi (fun r (zz : Unit) => r = nI (sumN (blwC fo we lo w v) n)) (fun (zz : Unit) t => va_P D vwCl (wRow cI q a0 a1 a2 a3 n fo ki st we (blwL n fo we lo w v)) t.heap) (AW [q, a0, a1, a2, a3])) (([.ref q, .int (nI w), .int (nI v)] : List Value).toArray) s 0 0 (AW [q, a0, a1, a2, a3])) (F0 m 5 ls []) := by
    intro fuel
    induction fuel with
    | zero => intro i x3 g e_x3 e_g hi hmu; exact absurd hmu (Nat.not_lt_zero _)
    | succ fuel ih =>
      intro i x3 g e_x3 e_g hi hmu H locs hP hD hS ls hl
      subst e_x3
      subst e_g
      have hwi := hwe i
      have hli := hlo i
      refine lv_iload hx hb dX0_blown_5 (lv_at hl 0 rfl) ?_
      refine lv_aload_n hx hb dX0_blown_7 rfl (lv_at hl 2 rfl) ?_
      refine va_get (D := D) (ci := 0) (v := .int (nI n)) (C := RX0) (T := TX0) (N := 6) hx hb yX0 (fun _ h => h) hown hG.1 hP 0 rfl rfl 4 (by decide) f24 (fun _ h => h) rfl dX0_blown_8 ?_
      refine lv_icmp_ge (tgt := 62) hx hb dX0_blown_11 (by decide) (fun c_11 => ?_) (fun c_11 => ?_)
      ·
        replace c_11 := (nI_leI (a := n) (b := i) (by omega) (by omega)).mp c_11
        have hin : n = i := by omega
        subst hin
        refine lv_iload_n hx hb dX0_blown_62 rfl (lv_at hl 1 rfl) ?_
        exact xretM hx hb hr hlk dX0_blown_63 hS () (by rfl) (fun t ht => by rw [ht]; exact hP)
      ·
        replace c_11 := (not_congr (nI_leI (a := n) (b := i) (by omega) (by omega))).mp c_11
        refine lv_aload_n hx hb dX0_blown_14 rfl (lv_at hl 2 rfl) ?_
        refine lv_iload hx hb dX0_blown_15 (lv_at hl 0 rfl) ?_
        refine xrd (va_runV (As := [.int (nI i)]) (rest := []) hF (c_X0_isFolded l D cI cS q a0 a1 a2 a3 n fo ki st we (blwL i fo we lo w v) i (by first | assumption | omega) (by first | assumption | omega)) (cwV 1 hts gX0_blown_X0_isFolded rfl rfl rfl hV_X0_isFolded ⟨Nat.le_of_ble_eq_true rfl, Nat.le_of_ble_eq_true rfl⟩) (PR.preV hG hP (ci := 0) rfl rfl) rfl rfl hl.1 rfl (lv_room (Nat.le_of_ble_eq_true rfl)) dX0_blown_17 ⟨Nat.le_refl _, Nat.le_refl _⟩) ?_
        refine lv_if_ne (tgt := 56) hx hb dX0_blown_20 (by decide) (fun c_20 => ?_) (fun c_20 => ?_)
        ·
          replace c_20 := bI_n0.mp c_20
          refine lv_iinc (v := nI (i + 1)) (lv' := [(4, .int (nI (i + 1))), (3, .int (nI (sumN (blwC fo we lo w v) i))), (0, .ref q), (1, .int (nI w)), (2, .int (nI v))]) hx hb dX0_blown_56 hl (k := 0) rfl xinc1 (by decide) rfl (fun ls hl => ?_)
          refine lv_goto (tgt := 5) hx hb dX0_blown_59 (by decide) ?_
          exact ih (i + 1) (nI (sumN (blwC fo we lo w v) i)) (blwL i fo we lo w v) (by first | (simp [sumN, blwC, c_11, c_20]; done) | (simp [sumN, blwC, c_11, c_20]; congr 1; (repeat' split) <;> omega)) (by first | exact blwL_s c_20 c_31 | exact blwL_a c_20 | exact blwL_b c_31 | exact blwL_c c_42) (by omega) (by omega) _ _ hP hD hS ls (lv_sub hl [0, 1, 2, 3, 4] rfl)
        ·
          replace c_20 := bI_0.mp c_20
          refine lv_aload_n hx hb dX0_blown_23 rfl (lv_at hl 2 rfl) ?_
          refine va_get (D := D) (ci := 0) (v := .ref a2) (C := RX0) (T := TX0) (N := 6) hx hb yX0 (fun _ h => h) hown hG.1 hP 0 rfl rfl 2 (by decide) f18 (fun _ h => h) rfl dX0_blown_24 ?_
          refine lv_iload hx hb dX0_blown_27 (lv_at hl 0 rfl) ?_
          refine xaldN hx hb hG hP 3 rfl (i) rfl (by omega) (by decide) dX0_blown_29 ?_
          refine lv_iload_n hx hb dX0_blown_30 rfl (lv_at hl 4 rfl) ?_
          refine lv_icmp_ge (tgt := 56) hx hb dX0_blown_31 (by decide) (fun c_31 => ?_) (fun c_31 => ?_)
          ·
            replace c_31 := (nI_leI (a := v) (b := we i) (by omega) (by omega)).mp c_31
            refine lv_iinc (v := nI (i + 1)) (lv' := [(4, .int (nI (i + 1))), (3, .int (nI (sumN (blwC fo we lo w v) i))), (0, .ref q), (1, .int (nI w)), (2, .int (nI v))]) hx hb dX0_blown_56 hl (k := 0) rfl xinc1 (by decide) rfl (fun ls hl => ?_)
            refine lv_goto (tgt := 5) hx hb dX0_blown_59 (by decide) ?_
            exact ih (i + 1) (nI (sumN (blwC fo we lo w v) i)) (blwL i fo we lo w v) (by first | (simp [sumN, blwC, c_11, c_20, c_31]; done) | (simp [sumN, blwC, c_11, c_20, c_31]; congr 1; (repeat' split) <;> omega)) (by first | exact blwL_s c_20 c_31 | exact blwL_a c_20 | exact blwL_b c_31 | exact blwL_c c_42) (by omega) (by omega) _ _ hP hD hS ls (lv_sub hl [0, 1, 2, 3, 4] rfl)
          ·
            replace c_31 := (not_congr (nI_leI (a := v) (b := we i) (by omega) (by omega))).mp c_31
            refine lv_aload_n hx hb dX0_blown_34 rfl (lv_at hl 2 rfl) ?_
            refine va_get (D := D) (ci := 0) (v := .ref a3) (C := RX0) (T := TX0) (N := 6) hx hb yX0 (fun _ h => h) hown hG.1 hP 0 rfl rfl 3 (by decide) f21 (fun _ h => h) rfl dX0_blown_35 ?_
            refine lv_iload hx hb dX0_blown_38 (lv_at hl 0 rfl) ?_
            refine xaldN hx hb hG hP 4 rfl (i) rfl (by omega) (by decide) dX0_blown_40 ?_
            refine xtop (x' := nI (lo i)) (by simp [blwL]) ?_
            refine lv_iload_n hx hb dX0_blown_41 rfl (lv_at hl 3 rfl) ?_
            refine lv_icmp_eq (tgt := 56) hx hb dX0_blown_42 (by decide) (fun c_42 => ?_) (fun c_42 => ?_)
            ·
              replace c_42 := (nI_eq (a := lo i) (b := w) (by omega) (by omega)).mp c_42
              refine lv_iinc (v := nI (i + 1)) (lv' := [(4, .int (nI (i + 1))), (3, .int (nI (sumN (blwC fo we lo w v) i))), (0, .ref q), (1, .int (nI w)), (2, .int (nI v))]) hx hb dX0_blown_56 hl (k := 0) rfl xinc1 (by decide) rfl (fun ls hl => ?_)
              refine lv_goto (tgt := 5) hx hb dX0_blown_59 (by decide) ?_
              exact ih (i + 1) (nI (sumN (blwC fo we lo w v) i)) (blwL i fo we lo w v) (by first | (simp [sumN, blwC, c_11, c_20, c_31, c_42]; done) | (simp [sumN, blwC, c_11, c_20, c_31, c_42]; congr 1; (repeat' split) <;> omega)) (by first | exact blwL_s c_20 c_31 | exact blwL_a c_20 | exact blwL_b c_31 | exact blwL_c c_42) (by omega) (by omega) _ _ hP hD hS ls (lv_sub hl [0, 1, 2, 3, 4] rfl)
            ·
              replace c_42 := (not_congr (nI_eq (a := lo i) (b := w) (by omega) (by omega))).mp c_42
              refine lv_aload_n hx hb dX0_blown_45 rfl (lv_at hl 2 rfl) ?_
              refine va_get (D := D) (ci := 0) (v := .ref a3) (C := RX0) (T := TX0) (N := 6) hx hb yX0 (fun _ h => h) hown hG.1 hP 0 rfl rfl 3 (by decide) f21 (fun _ h => h) rfl dX0_blown_46 ?_
              refine lv_iload hx hb dX0_blown_49 (lv_at hl 0 rfl) ?_
              refine lv_iload_n hx hb dX0_blown_51 rfl (lv_at hl 3 rfl) ?_
              refine xastN hx hb hG hP hD hS 4 rfl (i) (w) rfl rfl (by omega) (by decide) dX0_blown_52 (fun H locs hP hD hS => ?_)
              have hP : va_P D vwCl (wRow cI q a0 a1 a2 a3 n fo ki st we (updN (blwL i fo we lo w v) i w)) H := hP
              have hD : va_D (AW [q, a0, a1, a2, a3]) (wRow cI q a0 a1 a2 a3 n fo ki st we (updN (blwL i fo we lo w v) i w)) := hD
              refine lv_iinc (v := nI (sumN (blwC fo we lo w v) i + 1)) (lv' := [(3, .int (nI (sumN (blwC fo we lo w v) i + 1))), (4, .int (nI i)), (0, .ref q), (1, .int (nI w)), (2, .int (nI v))]) hx hb dX0_blown_53 hl (k := 1) rfl xinc1 (by decide) rfl (fun ls hl => ?_)
              refine lv_iinc (v := nI (i + 1)) (lv' := [(4, .int (nI (i + 1))), (3, .int (nI (sumN (blwC fo we lo w v) i + 1))), (0, .ref q), (1, .int (nI w)), (2, .int (nI v))]) hx hb dX0_blown_56 hl (k := 1) rfl xinc1 (by decide) rfl (fun ls hl => ?_)
              refine lv_goto (tgt := 5) hx hb dX0_blown_59 (by decide) ?_
              exact ih (i + 1) (nI (sumN (blwC fo we lo w v) i + 1)) (updN (blwL i fo we lo w v) i w) (by first | (simp [sumN, blwC, c_11, c_20, c_31, c_42]; done) | (simp [sumN, blwC, c_11, c_20, c_31, c_42]; congr 1; (repeat' split) <;> omega)) (by first | exact blwL_s c_20 c_31 | exact blwL_a c_20 | exact blwL_b c_31 | exact blwL_c c_42) (by omega) (by omega) _ _ hP hD hS ls (lv_sub hl [0, 1, 2, 3, 4] rfl)
  exact K5 _ 0 (nI 0) lo (by first | rfl | exact (blwL_0 ..).symm | omega) (by first | rfl | exact (blwL_0 ..).symm | omega) (by first | rfl | exact (blwL_0 ..).symm | omega) (Nat.lt_succ_self _) _ _ hP hD hS ls (lv_sub hl [0, 1, 2, 3, 4] rfl)

set_option maxHeartbeats 4000000 in
set_option maxRecDepth 100000 in
theorem c_J6_bitCount (l : Launch) (D : va_G) (cI cS : ClassId) (a : Nat) (ha : a < 256) : Met l yJ6_bitCount_0f7a4 wsJ6_bitCount_0f7a4 ({ frames := 0, cells := 0, slots := 0, locals := 0 }) (PR D cI cS [.int (nI a)] []) (vp_Si (fun r => r = nI (popN a))) 0 0 (fun _ => False) := by
  refine startR (by decide) rfl (Nat.le_of_ble_eq_true rfl) ?_
  intro p e s m below meth c hx hb hr hts hown hlk hml hG hP ls hl
  have hl : lv_has ls 1 [(0, .int (nI a))] := hl
  have hF : CallFix p m c cJ6_bitCount_0f7a4 1 s _ wsJ6_bitCount_0f7a4 RJ6 := ⟨hx, hb, hml, hown, hts⟩
  refine lv_iload_n hx hb dJ6_bitCount_0f7a4_0 rfl (lv_at hl 0 rfl) ?_
  refine lv_iload_n hx hb dJ6_bitCount_0f7a4_1 rfl (lv_at hl 0 rfl) ?_
  refine lv_iconst (v := nI 1) hx hb dJ6_bitCount_0f7a4_2 (by decide) ?_
  refine lv_iushr (v := ((nI a).toUInt32 >>> ((nI 1).toUInt32 &&& Int32.toUInt32 31)).toInt32) hx hb dJ6_bitCount_0f7a4_3 rfl ?_
  refine lv_ldcw (v := 1431655765) hx hb hown (hts (.constant RJ6 265 (1431655765)) (by decide +kernel)) dJ6_bitCount_0f7a4_4 ?_
  refine lv_iand hx hb dJ6_bitCount_0f7a4_7 ?_
  refine lv_isub hx hb dJ6_bitCount_0f7a4_8 ?_
  refine xtop (x' := bc1 (nI a)) (by rfl) ?_
  refine lv_istore_n (lv' := [(0, .int (bc1 (nI a)))]) hx hb dJ6_bitCount_0f7a4_9 rfl hl (by decide) rfl (fun ls hl => ?_)
  refine lv_iload_n hx hb dJ6_bitCount_0f7a4_10 rfl (lv_at hl 0 rfl) ?_
  refine lv_ldcw (v := 858993459) hx hb hown (hts (.constant RJ6 266 (858993459)) (by decide +kernel)) dJ6_bitCount_0f7a4_11 ?_
  refine lv_iand hx hb dJ6_bitCount_0f7a4_14 ?_
  refine lv_iload_n hx hb dJ6_bitCount_0f7a4_15 rfl (lv_at hl 0 rfl) ?_
  refine lv_iconst (v := nI 2) hx hb dJ6_bitCount_0f7a4_16 (by decide) ?_
  refine lv_iushr (v := ((bc1 (nI a)).toUInt32 >>> ((nI 2).toUInt32 &&& Int32.toUInt32 31)).toInt32) hx hb dJ6_bitCount_0f7a4_17 rfl ?_
  refine lv_ldcw (v := 858993459) hx hb hown (hts (.constant RJ6 266 (858993459)) (by decide +kernel)) dJ6_bitCount_0f7a4_18 ?_
  refine lv_iand hx hb dJ6_bitCount_0f7a4_21 ?_
  refine lv_iadd hx hb dJ6_bitCount_0f7a4_22 ?_
  refine xtop (x' := bc2 (bc1 (nI a))) (by rfl) ?_
  refine lv_istore_n (lv' := [(0, .int (bc2 (bc1 (nI a))))]) hx hb dJ6_bitCount_0f7a4_23 rfl hl (by decide) rfl (fun ls hl => ?_)
  refine lv_iload_n hx hb dJ6_bitCount_0f7a4_24 rfl (lv_at hl 0 rfl) ?_
  refine lv_iload_n hx hb dJ6_bitCount_0f7a4_25 rfl (lv_at hl 0 rfl) ?_
  refine lv_iconst (v := nI 4) hx hb dJ6_bitCount_0f7a4_26 (by decide) ?_
  refine lv_iushr (v := ((bc2 (bc1 (nI a))).toUInt32 >>> ((nI 4).toUInt32 &&& Int32.toUInt32 31)).toInt32) hx hb dJ6_bitCount_0f7a4_27 rfl ?_
  refine lv_iadd hx hb dJ6_bitCount_0f7a4_28 ?_
  refine lv_ldcw (v := 252645135) hx hb hown (hts (.constant RJ6 267 (252645135)) (by decide +kernel)) dJ6_bitCount_0f7a4_29 ?_
  refine lv_iand hx hb dJ6_bitCount_0f7a4_32 ?_
  refine xtop (x' := bc3 (bc2 (bc1 (nI a)))) (by rfl) ?_
  refine lv_istore_n (lv' := [(0, .int (bc3 (bc2 (bc1 (nI a)))))]) hx hb dJ6_bitCount_0f7a4_33 rfl hl (by decide) rfl (fun ls hl => ?_)
  refine lv_iload_n hx hb dJ6_bitCount_0f7a4_34 rfl (lv_at hl 0 rfl) ?_
  refine lv_iload_n hx hb dJ6_bitCount_0f7a4_35 rfl (lv_at hl 0 rfl) ?_
  refine lv_bipush (v := nI 8) hx hb dJ6_bitCount_0f7a4_36 (by decide) ?_
  refine lv_iushr (v := ((bc3 (bc2 (bc1 (nI a)))).toUInt32 >>> ((nI 8).toUInt32 &&& Int32.toUInt32 31)).toInt32) hx hb dJ6_bitCount_0f7a4_38 rfl ?_
  refine lv_iadd hx hb dJ6_bitCount_0f7a4_39 ?_
  refine xtop (x' := bc4 (bc3 (bc2 (bc1 (nI a))))) (by rfl) ?_
  refine lv_istore_n (lv' := [(0, .int (bc4 (bc3 (bc2 (bc1 (nI a))))))]) hx hb dJ6_bitCount_0f7a4_40 rfl hl (by decide) rfl (fun ls hl => ?_)
  refine lv_iload_n hx hb dJ6_bitCount_0f7a4_41 rfl (lv_at hl 0 rfl) ?_
  refine lv_iload_n hx hb dJ6_bitCount_0f7a4_42 rfl (lv_at hl 0 rfl) ?_
  refine lv_bipush (v := nI 16) hx hb dJ6_bitCount_0f7a4_43 (by decide) ?_
  refine lv_iushr (v := ((bc4 (bc3 (bc2 (bc1 (nI a))))).toUInt32 >>> ((nI 16).toUInt32 &&& Int32.toUInt32 31)).toInt32) hx hb dJ6_bitCount_0f7a4_45 rfl ?_
  refine lv_iadd hx hb dJ6_bitCount_0f7a4_46 ?_
  refine xtop (x' := bc5 (bc4 (bc3 (bc2 (bc1 (nI a)))))) (by rfl) ?_
  refine lv_istore_n (lv' := [(0, .int (bc5 (bc4 (bc3 (bc2 (bc1 (nI a)))))))]) hx hb dJ6_bitCount_0f7a4_47 rfl hl (by decide) rfl (fun ls hl => ?_)
  refine lv_iload_n hx hb dJ6_bitCount_0f7a4_48 rfl (lv_at hl 0 rfl) ?_
  refine lv_bipush (v := nI 63) hx hb dJ6_bitCount_0f7a4_49 (by decide) ?_
  refine lv_iand hx hb dJ6_bitCount_0f7a4_51 ?_
  exact xretR hx hb hr hlk dJ6_bitCount_0f7a4_52 (by exact bc_pop a ha)

set_option maxHeartbeats 4000000 in
set_option maxRecDepth 100000 in
theorem c_X0_foldedByRain (l : Launch) (D : va_G) (cI cS : ClassId) (q : Nat) (a0 : Nat) (a1 : Nat) (a2 : Nat) (a3 : Nat) (n : Nat) (fo : Nat) (ki : Nat → Nat) (st : Nat → Nat) (we : Nat → Nat) (lo : Nat → Nat) (hnd : nd [q, a0, a1, a2, a3]) (hn : n ≤ 8) (hfo : fo < 256) : Met l yX0_foldedByRain wsX0_foldedByRain ({ frames := 1, cells := 0, slots := 0, locals := 20 }) (PR D cI cS [.ref q] (wRow cI q a0 a1 a2 a3 n fo ki st we lo)) (va_Qi (fun r (zz : Unit) => r = nI n - nI (popN fo)) (fun (zz : Unit) t => va_P D vwCl (wRow cI q a0 a1 a2 a3 n (2 ^ n - 1) ki st we lo) t.heap) (AW [q, a0, a1, a2, a3])) 0 0 (AW [q, a0, a1, a2, a3]) := by
  refine startM (by decide) rfl (Nat.le_of_ble_eq_true rfl) hnd rfl ?_
  intro p e s m below meth c hx hb hr hts hown hlk hml hG hP hD hS ls hl
  have hl : lv_has ls 2 [(0, .ref q)] := hl
  have f28 := hts (.fieldLink RX0 28 "ChairBallot$Row" "folded" "I") (by decide +kernel)
  have f24 := hts (.fieldLink RX0 24 "ChairBallot$Row" "count" "I") (by decide +kernel)
  have yX0 : ∀ w ∈ u_ws RX0 TX0 6, w.before _ s = true := fun w h => hts w ((by decide +kernel : ∀ w ∈ wsX00, w ∈ wsX0_foldedByRain) w h)
  have hF : CallFix p m c cX0_foldedByRain 2 s _ wsX0_foldedByRain RX0 := ⟨hx, hb, hml, hown, hts⟩
  refine lv_aload_n hx hb dX0_foldedByRain_0 rfl (lv_at hl 0 rfl) ?_
  refine va_get (D := D) (ci := 0) (v := .int (nI fo)) (C := RX0) (T := TX0) (N := 6) hx hb yX0 (fun _ h => h) hown hG.1 hP 0 rfl rfl 5 (by decide) f28 (fun _ h => h) rfl dX0_foldedByRain_1 ?_
  refine xrd (va_runS (As := [.int (nI fo)]) (rest := []) hF (c_J6_bitCount l D cI cS fo (by first | assumption | omega)) (va_cwS 1 hts gX0_foldedByRain_J6_bitCount_0f7a4 rfl rfl rfl hD_J6_bitCount_0f7a4 ⟨Nat.le_of_ble_eq_true rfl, Nat.le_of_ble_eq_true rfl⟩) (PR.pre hG (hP.sub (ws' := []) [] rfl)) rfl rfl hl.1 rfl (lv_room (Nat.le_of_ble_eq_true rfl)) dX0_foldedByRain_4 ⟨Nat.le_refl _, Nat.le_refl _⟩) ?_
  refine lv_istore_n (lv' := [(1, .int (nI (popN fo))), (0, .ref q)]) hx hb dX0_foldedByRain_7 rfl hl (by decide) rfl (fun ls hl => ?_)
  refine lv_aload_n hx hb dX0_foldedByRain_8 rfl (lv_at hl 1 rfl) ?_
  refine lv_iconst (v := nI 1) hx hb dX0_foldedByRain_9 (by decide) ?_
  refine lv_aload_n hx hb dX0_foldedByRain_10 rfl (lv_at hl 1 rfl) ?_
  refine va_get (D := D) (ci := 0) (v := .int (nI n)) (C := RX0) (T := TX0) (N := 6) hx hb yX0 (fun _ h => h) hown hG.1 hP 0 rfl rfl 4 (by decide) f24 (fun _ h => h) rfl dX0_foldedByRain_11 ?_
  refine lv_ishl hx hb dX0_foldedByRain_14 ?_
  refine xtop (x' := nI (2 ^ n)) (by exact shl1 n (by omega)) ?_
  refine lv_iconst (v := nI 1) hx hb dX0_foldedByRain_15 (by decide) ?_
  refine xsubN (x := 2 ^ n) (y := 1) hx hb (by exact Nat.one_le_two_pow) dX0_foldedByRain_16 ?_
  refine va_put (D := D) (ci := 0) (v := .int (nI (2 ^ n - 1))) (ty := .int) (C := RX0) (T := TX0) (N := 6) hx hb yX0 (fun _ h => h) tyX0 tyX0_ok nmX0 hown hG.1 hP hD hS 0 rfl rfl 5 (by decide) f28 (fun _ h => h) rfl (by decide +kernel) rfl rfl (Nat.le_of_ble_eq_true rfl) dX0_foldedByRain_17 (fun H locs hP hD hS => ?_)
  have hP : va_P D vwCl (wRow cI q a0 a1 a2 a3 n (2 ^ n - 1) ki st we lo) H := hP
  have hD : va_D (AW [q, a0, a1, a2, a3]) (wRow cI q a0 a1 a2 a3 n (2 ^ n - 1) ki st we lo) := hD
  refine lv_aload_n hx hb dX0_foldedByRain_20 rfl (lv_at hl 1 rfl) ?_
  refine va_get (D := D) (ci := 0) (v := .int (nI n)) (C := RX0) (T := TX0) (N := 6) hx hb yX0 (fun _ h => h) hown hG.1 hP 0 rfl rfl 4 (by decide) f24 (fun _ h => h) rfl dX0_foldedByRain_21 ?_
  refine lv_iload_n hx hb dX0_foldedByRain_24 rfl (lv_at hl 0 rfl) ?_
  refine lv_isub hx hb dX0_foldedByRain_25 ?_
  exact xretM hx hb hr hlk dX0_foldedByRain_26 hS () (by rfl) (fun t ht => by rw [ht]; exact hP)

set_option maxHeartbeats 4000000 in
set_option maxRecDepth 100000 in
theorem c_X0_opened (l : Launch) (D : va_G) (cI cS : ClassId) (q : Nat) (a0 : Nat) (a1 : Nat) (a2 : Nat) (a3 : Nat) (n : Nat) (fo : Nat) (ki : Nat → Nat) (st : Nat → Nat) (we : Nat → Nat) (lo : Nat → Nat) (j : Nat) (hnd : nd [q, a0, a1, a2, a3]) (hn : n ≤ 8) (hfo : fo < 256) (hj : j < n) : Met l yX0_opened wsX0_opened ({ frames := 1, cells := 0, slots := 0, locals := 21 }) (PR D cI cS [.ref q, .int (nI j)] (wRow cI q a0 a1 a2 a3 n fo ki st we lo)) (va_Qi (fun r (zz : Unit) => r = bI (fo.testBit j)) (fun (zz : Unit) t => va_P D vwCl (wRow cI q a0 a1 a2 a3 n (opn fo j) ki st we lo) t.heap) (AW [q, a0, a1, a2, a3])) 0 0 (AW [q, a0, a1, a2, a3]) := by
  refine startM (by decide) rfl (Nat.le_of_ble_eq_true rfl) hnd rfl ?_
  intro p e s m below meth c hx hb hr hts hown hlk hml hG hP hD hS ls hl
  have hl : lv_has ls 2 [(0, .ref q), (1, .int (nI j))] := hl
  have f28 := hts (.fieldLink RX0 28 "ChairBallot$Row" "folded" "I") (by decide +kernel)
  have yX0 : ∀ w ∈ u_ws RX0 TX0 6, w.before _ s = true := fun w h => hts w ((by decide +kernel : ∀ w ∈ wsX00, w ∈ wsX0_opened) w h)
  have hF : CallFix p m c cX0_opened 2 s _ wsX0_opened RX0 := ⟨hx, hb, hml, hown, hts⟩
  refine lv_aload_n hx hb dX0_opened_0 rfl (lv_at hl 0 rfl) ?_
  refine lv_iload_n hx hb dX0_opened_1 rfl (lv_at hl 1 rfl) ?_
  refine xrd (va_runV (As := [.int (nI j)]) (rest := []) hF (c_X0_hasN l D cI cS q a0 a1 a2 a3 n fo ki st we lo j (by first | assumption | omega) (by first | assumption | omega)) (cwV 1 hts gX0_opened_X0_has rfl rfl rfl hV_X0_has ⟨Nat.le_of_ble_eq_true rfl, Nat.le_of_ble_eq_true rfl⟩) (PR.preV hG hP (ci := 0) rfl rfl) rfl rfl hl.1 rfl (lv_room (Nat.le_of_ble_eq_true rfl)) dX0_opened_2 ⟨Nat.le_refl _, Nat.le_refl _⟩) ?_
  refine lv_if_eq (tgt := 16) hx hb dX0_opened_5 (by decide) (fun c_5 => ?_) (fun c_5 => ?_)
  ·
    replace c_5 := bI_0.mp c_5
    replace c_5 := of_decide_eq_false c_5
    omega
  ·
    replace c_5 := bI_n0.mp c_5
    replace c_5 := of_decide_eq_true c_5
    refine lv_aload_n hx hb dX0_opened_8 rfl (lv_at hl 0 rfl) ?_
    refine lv_iload_n hx hb dX0_opened_9 rfl (lv_at hl 1 rfl) ?_
    refine xrd (va_runV (As := [.int (nI j)]) (rest := []) hF (c_X0_isFolded l D cI cS q a0 a1 a2 a3 n fo ki st we lo j (by first | assumption | omega) (by first | assumption | omega)) (cwV 1 hts gX0_opened_X0_isFolded rfl rfl rfl hV_X0_isFolded ⟨Nat.le_of_ble_eq_true rfl, Nat.le_of_ble_eq_true rfl⟩) (PR.preV hG hP (ci := 0) rfl rfl) rfl rfl hl.1 rfl (lv_room (Nat.le_of_ble_eq_true rfl)) dX0_opened_10 ⟨Nat.le_refl _, Nat.le_refl _⟩) ?_
    refine lv_if_ne (tgt := 18) hx hb dX0_opened_13 (by decide) (fun c_13 => ?_) (fun c_13 => ?_)
    ·
      replace c_13 := bI_n0.mp c_13
      refine lv_aload_n hx hb dX0_opened_18 rfl (lv_at hl 0 rfl) ?_
      refine lv_dup hx hb dX0_opened_19 rfl ?_
      refine va_get (D := D) (ci := 0) (v := .int (nI fo)) (C := RX0) (T := TX0) (N := 6) hx hb yX0 (fun _ h => h) hown hG.1 hP 0 rfl rfl 5 (by decide) f28 (fun _ h => h) rfl dX0_opened_20 ?_
      refine lv_iconst (v := nI 1) hx hb dX0_opened_23 (by decide) ?_
      refine lv_iload_n hx hb dX0_opened_24 rfl (lv_at hl 1 rfl) ?_
      refine lv_ishl hx hb dX0_opened_25 ?_
      refine xtop (x' := nI (2 ^ j)) (by exact shl1 j (by omega)) ?_
      refine lv_iconst (v := (-1)) hx hb dX0_opened_26 (by decide) ?_
      refine lv_ixor hx hb dX0_opened_27 ?_
      refine lv_iand hx hb dX0_opened_28 ?_
      refine xtop (x' := nI (fo ^^^ 2 ^ j)) (by exact clr_bit fo hfo j (by omega) c_13) ?_
      refine va_put (D := D) (ci := 0) (v := .int (nI (fo ^^^ 2 ^ j))) (ty := .int) (C := RX0) (T := TX0) (N := 6) hx hb yX0 (fun _ h => h) tyX0 tyX0_ok nmX0 hown hG.1 hP hD hS 0 rfl rfl 5 (by decide) f28 (fun _ h => h) rfl (by decide +kernel) rfl rfl (Nat.le_of_ble_eq_true rfl) dX0_opened_29 (fun H locs hP hD hS => ?_)
      have hP : va_P D vwCl (wRow cI q a0 a1 a2 a3 n (fo ^^^ 2 ^ j) ki st we lo) H := hP
      have hD : va_D (AW [q, a0, a1, a2, a3]) (wRow cI q a0 a1 a2 a3 n (fo ^^^ 2 ^ j) ki st we lo) := hD
      refine lv_iconst (v := nI 1) hx hb dX0_opened_32 (by decide) ?_
      exact xretMz hx hb hr hlk dX0_opened_33 hS (true) rfl () (by rw [c_13]; rfl) (fun t ht => by rw [ht]; rw [show opn fo j = (fo ^^^ 2 ^ j) from by simp [opn, c_5, c_13]]; exact hP)
    ·
      replace c_13 := bI_0.mp c_13
      refine lv_iconst (v := nI 0) hx hb dX0_opened_16 (by decide) ?_
      exact xretMz hx hb hr hlk dX0_opened_17 hS (false) rfl () (by rw [c_13]; rfl) (fun t ht => by rw [ht]; rw [show opn fo j = fo from by simp [opn, c_5, c_13]]; exact hP)

set_option maxHeartbeats 4000000 in
set_option maxRecDepth 100000 in
theorem c_X0_acted (l : Launch) (D : va_G) (cI cS : ClassId) (q : Nat) (a0 : Nat) (a1 : Nat) (a2 : Nat) (a3 : Nat) (n : Nat) (fo : Nat) (ki : Nat → Nat) (st : Nat → Nat) (we : Nat → Nat) (lo : Nat → Nat) (a : Nat) (b : Nat) (hnd : nd [q, a0, a1, a2, a3]) (hn : n ≤ 8) (hfo : fo < 256) (hlo : ∀ j, lo j ≤ 3) (hwe : ∀ j, we j ≤ 9) (hb9 : b ≤ 9) (hab : actOk n a b) : Met l yX0_acted wsX0_acted ({ frames := 2, cells := 0, slots := 0, locals := 45 }) (PR D cI cS [.ref q, .int (nI a), .int (nI b)] (wRow cI q a0 a1 a2 a3 n fo ki st we lo)) (va_Qi (fun r (zz : Unit) => r = bI (actB fo a b)) (fun (zz : Unit) t => va_P D vwCl (wRow cI q a0 a1 a2 a3 n (actF n fo a b) ki st we (actL n fo we lo a b)) t.heap) (AW [q, a0, a1, a2, a3])) 0 0 (AW [q, a0, a1, a2, a3]) := by
  refine startM (by decide) rfl (Nat.le_of_ble_eq_true rfl) hnd rfl ?_
  intro p e s m below meth c hx hb hr hts hown hlk hml hG hP hD hS ls hl
  have hl : lv_has ls 3 [(0, .ref q), (1, .int (nI a)), (2, .int (nI b))] := hl
  have hF : CallFix p m c cX0_acted 3 s _ wsX0_acted RX0 := ⟨hx, hb, hml, hown, hts⟩
  have hab1 := hab.1
  have hab2 := hab.2
  refine lv_iload_n hx hb dX0_acted_0 rfl (lv_at hl 2 rfl) ?_
  refine lv_bipush (v := nI 9) hx hb dX0_acted_1 (by decide) ?_
  refine lv_icmp_ne (tgt := 12) hx hb dX0_acted_3 (by decide) (fun c_3 => ?_) (fun c_3 => ?_)
  ·
    replace c_3 := (not_congr (nI_eq (a := b) (b := 9) (by omega) (by omega))).mp c_3
    refine lv_iload_n hx hb dX0_acted_12 rfl (lv_at hl 2 rfl) ?_
    refine lv_bipush (v := nI 8) hx hb dX0_acted_13 (by decide) ?_
    refine lv_icmp_ne (tgt := 25) hx hb dX0_acted_15 (by decide) (fun c_15 => ?_) (fun c_15 => ?_)
    ·
      replace c_15 := (not_congr (nI_eq (a := b) (b := 8) (by omega) (by omega))).mp c_15
      refine lv_iload_n hx hb dX0_acted_25 rfl (lv_at hl 2 rfl) ?_
      refine lv_iconst (v := nI 4) hx hb dX0_acted_26 (by decide) ?_
      refine lv_icmp_lt (tgt := 41) hx hb dX0_acted_27 (by decide) (fun c_27 => ?_) (fun c_27 => ?_)
      ·
        replace c_27 := (nI_ltI (a := b) (b := 4) (by omega) (by omega)).mp c_27
        refine lv_aload_n hx hb dX0_acted_41 rfl (lv_at hl 0 rfl) ?_
        refine lv_iload_n hx hb dX0_acted_42 rfl (lv_at hl 1 rfl) ?_
        refine lv_iload_n hx hb dX0_acted_43 rfl (lv_at hl 2 rfl) ?_
        refine xmu (wc := (wRow cI q a0 a1 a2 a3 n fo ki st we lo)) (va_runV (As := [.int (nI a), .int (nI b)]) (rest := []) hF (c_X0_turned l D cI cS q a0 a1 a2 a3 n fo ki st we lo a b hnd (by first | assumption | omega) (by first | assumption | omega) (by first | assumption | omega)) (cwV 2 hts gX0_acted_X0_turned rfl rfl rfl hV_X0_turned ⟨Nat.le_of_ble_eq_true rfl, Nat.le_of_ble_eq_true rfl⟩) (PR.preV hG hP (ci := 0) rfl rfl) rfl rfl hl.1 rfl (lv_room (Nat.le_of_ble_eq_true rfl)) dX0_acted_44 ⟨Nat.le_refl _, Nat.le_refl _⟩) hP hD hS [0, 1, 2, 3, 4] rfl rfl (fun _ => rfl) (fun r_44 u_44 H locs q_44 hP hD hS => ?_)
        try dsimp only at q_44 hP hD
        have e_44 := q_44
        subst e_44
        have hP : va_P D vwCl (wRow cI q a0 a1 a2 a3 n fo ki st we (trn fo lo a b)) H := hP
        have hD : va_D (AW [q, a0, a1, a2, a3]) (wRow cI q a0 a1 a2 a3 n fo ki st we (trn fo lo a b)) := hD
        exact xretMz hx hb hr hlk dX0_acted_47 hS (!fo.testBit a) rfl () (by first | (simp [actB, c_3, c_15, c_27]; done) | (simp [actB, c_3, c_15, c_27, bI]; rfl)) (fun t ht => by rw [ht]; rw [show actF n fo a b = fo from by simp [actF, c_3, c_15, c_27]]; rw [show actL n fo we lo a b = (trn fo lo a b) from by simp [actL, c_3, c_15, c_27]]; exact hP)
      ·
        replace c_27 := (not_congr (nI_ltI (a := b) (b := 4) (by omega) (by omega))).mp c_27
        refine lv_aload_n hx hb dX0_acted_30 rfl (lv_at hl 0 rfl) ?_
        refine lv_iload_n hx hb dX0_acted_31 rfl (lv_at hl 2 rfl) ?_
        refine lv_iconst (v := nI 4) hx hb dX0_acted_32 (by decide) ?_
        refine xsubN (x := b) (y := 4) hx hb (by omega) dX0_acted_33 ?_
        refine lv_iload_n hx hb dX0_acted_34 rfl (lv_at hl 1 rfl) ?_
        refine xmu (wc := (wRow cI q a0 a1 a2 a3 n fo ki st we lo)) (va_runV (As := [.int (nI (b - 4)), .int (nI a)]) (rest := []) hF (c_X0_blown l D cI cS q a0 a1 a2 a3 n fo ki st we lo (b - 4) a hnd (by first | assumption | omega) (by first | assumption | omega) (by first | assumption | omega) (by first | assumption | omega) (by first | assumption | omega) (by first | assumption | omega)) (cwV 2 hts gX0_acted_X0_blown rfl rfl rfl hV_X0_blown ⟨Nat.le_of_ble_eq_true rfl, Nat.le_of_ble_eq_true rfl⟩) (PR.preV hG hP (ci := 0) rfl rfl) rfl rfl hl.1 rfl (lv_room (Nat.le_of_ble_eq_true rfl)) dX0_acted_35 ⟨Nat.le_refl _, Nat.le_refl _⟩) hP hD hS [0, 1, 2, 3, 4] rfl rfl (fun _ => rfl) (fun r_35 u_35 H locs q_35 hP hD hS => ?_)
        try dsimp only at q_35 hP hD
        have e_35 := q_35
        subst e_35
        have hP : va_P D vwCl (wRow cI q a0 a1 a2 a3 n fo ki st we (blwL n fo we lo (b - 4) a)) H := hP
        have hD : va_D (AW [q, a0, a1, a2, a3]) (wRow cI q a0 a1 a2 a3 n fo ki st we (blwL n fo we lo (b - 4) a)) := hD
        refine lv_pop hx hb dX0_acted_38 rfl ?_
        refine lv_iconst (v := nI 1) hx hb dX0_acted_39 (by decide) ?_
        exact xretMz hx hb hr hlk dX0_acted_40 hS (true) rfl () (by first | (simp [actB, c_3, c_15, c_27]; done) | (simp [actB, c_3, c_15, c_27, bI]; rfl)) (fun t ht => by rw [ht]; rw [show actF n fo a b = fo from by simp [actF, c_3, c_15, c_27]]; rw [show actL n fo we lo a b = (blwL n fo we lo (b - 4) a) from by simp [actL, c_3, c_15, c_27]]; exact hP)
    ·
      replace c_15 := (nI_eq (a := b) (b := 8) (by omega) (by omega)).mp c_15
      refine lv_aload_n hx hb dX0_acted_18 rfl (lv_at hl 0 rfl) ?_
      refine xmu (wc := (wRow cI q a0 a1 a2 a3 n fo ki st we lo)) (va_runV (As := []) (rest := []) hF (c_X0_foldedByRain l D cI cS q a0 a1 a2 a3 n fo ki st we lo hnd (by first | assumption | omega) (by first | assumption | omega)) (cwV 0 hts gX0_acted_X0_foldedByRain rfl rfl rfl hV_X0_foldedByRain ⟨Nat.le_of_ble_eq_true rfl, Nat.le_of_ble_eq_true rfl⟩) (PR.preV hG hP (ci := 0) rfl rfl) rfl rfl hl.1 rfl (lv_room (Nat.le_of_ble_eq_true rfl)) dX0_acted_19 ⟨Nat.le_refl _, Nat.le_refl _⟩) hP hD hS [0, 1, 2, 3, 4] rfl rfl (fun _ => rfl) (fun r_19 u_19 H locs q_19 hP hD hS => ?_)
      try dsimp only at q_19 hP hD
      have e_19 := q_19
      subst e_19
      have hP : va_P D vwCl (wRow cI q a0 a1 a2 a3 n (2 ^ n - 1) ki st we lo) H := hP
      have hD : va_D (AW [q, a0, a1, a2, a3]) (wRow cI q a0 a1 a2 a3 n (2 ^ n - 1) ki st we lo) := hD
      refine lv_pop hx hb dX0_acted_22 rfl ?_
      refine lv_iconst (v := nI 1) hx hb dX0_acted_23 (by decide) ?_
      exact xretMz hx hb hr hlk dX0_acted_24 hS (true) rfl () (by first | (simp [actB, c_3, c_15]; done) | (simp [actB, c_3, c_15, bI]; rfl)) (fun t ht => by rw [ht]; rw [show actF n fo a b = (2 ^ n - 1) from by simp [actF, c_3, c_15]]; rw [show actL n fo we lo a b = lo from by simp [actL, c_3, c_15]]; exact hP)
  ·
    replace c_3 := (nI_eq (a := b) (b := 9) (by omega) (by omega)).mp c_3
    refine lv_aload_n hx hb dX0_acted_6 rfl (lv_at hl 0 rfl) ?_
    refine lv_iload_n hx hb dX0_acted_7 rfl (lv_at hl 1 rfl) ?_
    refine xmu (wc := (wRow cI q a0 a1 a2 a3 n fo ki st we lo)) (va_runV (As := [.int (nI a)]) (rest := []) hF (c_X0_opened l D cI cS q a0 a1 a2 a3 n fo ki st we lo a hnd (by first | assumption | omega) (by first | assumption | omega) (by first | assumption | omega)) (cwV 1 hts gX0_acted_X0_opened rfl rfl rfl hV_X0_opened ⟨Nat.le_of_ble_eq_true rfl, Nat.le_of_ble_eq_true rfl⟩) (PR.preV hG hP (ci := 0) rfl rfl) rfl rfl hl.1 rfl (lv_room (Nat.le_of_ble_eq_true rfl)) dX0_acted_8 ⟨Nat.le_refl _, Nat.le_refl _⟩) hP hD hS [0, 1, 2, 3, 4] rfl rfl (fun _ => rfl) (fun r_8 u_8 H locs q_8 hP hD hS => ?_)
    try dsimp only at q_8 hP hD
    have e_8 := q_8
    subst e_8
    have hP : va_P D vwCl (wRow cI q a0 a1 a2 a3 n (opn fo a) ki st we lo) H := hP
    have hD : va_D (AW [q, a0, a1, a2, a3]) (wRow cI q a0 a1 a2 a3 n (opn fo a) ki st we lo) := hD
    exact xretMz hx hb hr hlk dX0_acted_11 hS (fo.testBit a) rfl () (by first | (simp [actB, c_3]; done) | (simp [actB, c_3, bI]; rfl)) (fun t ht => by rw [ht]; rw [show actF n fo a b = (opn fo a) from by simp [actF, c_3]]; rw [show actL n fo we lo a b = lo from by simp [actL, c_3]]; exact hP)

set_option maxHeartbeats 4000000 in
set_option maxRecDepth 100000 in
theorem c_X0_becomes (l : Launch) (D : va_G) (cI cS : ClassId) (q : Nat) (a0 : Nat) (a1 : Nat) (a2 : Nat) (a3 : Nat) (n : Nat) (fo : Nat) (ki : Nat → Nat) (st : Nat → Nat) (we : Nat → Nat) (lo : Nat → Nat) (r : Nat) (b0 : Nat) (b1 : Nat) (b2 : Nat) (b3 : Nat) (n2 : Nat) (go : Nat) (kj : Nat → Nat) (sj : Nat → Nat) (wj : Nat → Nat) (lj : Nat → Nat) (hnd : nd [q, a0, a1, a2, a3, r, b0, b1, b2, b3]) : Met l yX0_becomes wsX0_becomes ({ frames := 1, cells := 0, slots := 0, locals := 40 }) (PR D cI cS [.ref q, .ref r] (wRow2 cI q a0 a1 a2 a3 n fo ki st we lo r b0 b1 b2 b3 n2 go kj sj wj lj)) (va_Qv (fun (zz : Unit) => True) (fun (zz : Unit) t => va_P D vwCl (wRow2 cI q a0 a1 a2 a3 n2 go kj sj wj lj r b0 b1 b2 b3 n2 go kj sj wj lj) t.heap) (AW [q, a0, a1, a2, a3, r, b0, b1, b2, b3])) 0 0 (AW [q, a0, a1, a2, a3, r, b0, b1, b2, b3]) := by
  refine startM (by decide) rfl (Nat.le_of_ble_eq_true rfl) hnd rfl ?_
  intro p e s m below meth c hx hb hr hts hown hlk hml hG hP hD hS ls hl
  have hl : lv_has ls 2 [(0, .ref q), (1, .ref r)] := hl
  have f9 := hts (.fieldLink RX0 9 "ChairBallot$Row" "kind" "[I") (by decide +kernel)
  have f15 := hts (.fieldLink RX0 15 "ChairBallot$Row" "stripe" "[I") (by decide +kernel)
  have f18 := hts (.fieldLink RX0 18 "ChairBallot$Row" "weight" "[I") (by decide +kernel)
  have f21 := hts (.fieldLink RX0 21 "ChairBallot$Row" "looks" "[I") (by decide +kernel)
  have f24 := hts (.fieldLink RX0 24 "ChairBallot$Row" "count" "I") (by decide +kernel)
  have f28 := hts (.fieldLink RX0 28 "ChairBallot$Row" "folded" "I") (by decide +kernel)
  have yX0 : ∀ w ∈ u_ws RX0 TX0 6, w.before _ s = true := fun w h => hts w ((by decide +kernel : ∀ w ∈ wsX00, w ∈ wsX0_becomes) w h)
  have hF : CallFix p m c cX0_becomes 2 s _ wsX0_becomes RX0 := ⟨hx, hb, hml, hown, hts⟩
  refine lv_aload_n hx hb dX0_becomes_0 rfl (lv_at hl 1 rfl) ?_
  refine va_get (D := D) (ci := 0) (v := .ref b0) (C := RX0) (T := TX0) (N := 6) hx hb yX0 (fun _ h => h) hown hG.1 hP 5 rfl rfl 0 (by decide) f9 (fun _ h => h) rfl dX0_becomes_1 ?_
  refine lv_iconst (v := nI 0) hx hb dX0_becomes_4 (by decide) ?_
  refine lv_aload_n hx hb dX0_becomes_5 rfl (lv_at hl 0 rfl) ?_
  refine va_get (D := D) (ci := 0) (v := .ref a0) (C := RX0) (T := TX0) (N := 6) hx hb yX0 (fun _ h => h) hown hG.1 hP 0 rfl rfl 0 (by decide) f9 (fun _ h => h) rfl dX0_becomes_6 ?_
  refine lv_iconst (v := nI 0) hx hb dX0_becomes_9 (by decide) ?_
  refine lv_bipush (v := nI 8) hx hb dX0_becomes_10 (by decide) ?_
  refine xcopyA (N := 8) hx hb (by rw [hml, hl.1]) hown (hts (.methodLink RX0 31 arraycopyName) (by decide +kernel)) (hts (.native arraycopyName) (by decide +kernel)) (hts (.static arraycopyName) (by decide +kernel)) (hts (.initialized "java/lang/System") (by decide +kernel)) hG hP hD hS 6 1 rfl rfl (by decide) (Nat.le_of_ble_eq_true rfl) (Nat.le_of_ble_eq_true rfl) dX0_becomes_12 (fun H locs hP hD hS => ?_)
  have hP : va_P D vwCl (wRow2 cI q a0 a1 a2 a3 n fo kj st we lo r b0 b1 b2 b3 n2 go kj sj wj lj) H := hP
  have hD : va_D (AW [q, a0, a1, a2, a3, r, b0, b1, b2, b3]) (wRow2 cI q a0 a1 a2 a3 n fo kj st we lo r b0 b1 b2 b3 n2 go kj sj wj lj) := hD
  refine lv_aload_n hx hb dX0_becomes_15 rfl (lv_at hl 1 rfl) ?_
  refine va_get (D := D) (ci := 0) (v := .ref b1) (C := RX0) (T := TX0) (N := 6) hx hb yX0 (fun _ h => h) hown hG.1 hP 5 rfl rfl 1 (by decide) f15 (fun _ h => h) rfl dX0_becomes_16 ?_
  refine lv_iconst (v := nI 0) hx hb dX0_becomes_19 (by decide) ?_
  refine lv_aload_n hx hb dX0_becomes_20 rfl (lv_at hl 0 rfl) ?_
  refine va_get (D := D) (ci := 0) (v := .ref a1) (C := RX0) (T := TX0) (N := 6) hx hb yX0 (fun _ h => h) hown hG.1 hP 0 rfl rfl 1 (by decide) f15 (fun _ h => h) rfl dX0_becomes_21 ?_
  refine lv_iconst (v := nI 0) hx hb dX0_becomes_24 (by decide) ?_
  refine lv_bipush (v := nI 8) hx hb dX0_becomes_25 (by decide) ?_
  refine xcopyA (N := 8) hx hb (by rw [hml, hl.1]) hown (hts (.methodLink RX0 31 arraycopyName) (by decide +kernel)) (hts (.native arraycopyName) (by decide +kernel)) (hts (.static arraycopyName) (by decide +kernel)) (hts (.initialized "java/lang/System") (by decide +kernel)) hG hP hD hS 7 2 rfl rfl (by decide) (Nat.le_of_ble_eq_true rfl) (Nat.le_of_ble_eq_true rfl) dX0_becomes_27 (fun H locs hP hD hS => ?_)
  have hP : va_P D vwCl (wRow2 cI q a0 a1 a2 a3 n fo kj sj we lo r b0 b1 b2 b3 n2 go kj sj wj lj) H := hP
  have hD : va_D (AW [q, a0, a1, a2, a3, r, b0, b1, b2, b3]) (wRow2 cI q a0 a1 a2 a3 n fo kj sj we lo r b0 b1 b2 b3 n2 go kj sj wj lj) := hD
  refine lv_aload_n hx hb dX0_becomes_30 rfl (lv_at hl 1 rfl) ?_
  refine va_get (D := D) (ci := 0) (v := .ref b2) (C := RX0) (T := TX0) (N := 6) hx hb yX0 (fun _ h => h) hown hG.1 hP 5 rfl rfl 2 (by decide) f18 (fun _ h => h) rfl dX0_becomes_31 ?_
  refine lv_iconst (v := nI 0) hx hb dX0_becomes_34 (by decide) ?_
  refine lv_aload_n hx hb dX0_becomes_35 rfl (lv_at hl 0 rfl) ?_
  refine va_get (D := D) (ci := 0) (v := .ref a2) (C := RX0) (T := TX0) (N := 6) hx hb yX0 (fun _ h => h) hown hG.1 hP 0 rfl rfl 2 (by decide) f18 (fun _ h => h) rfl dX0_becomes_36 ?_
  refine lv_iconst (v := nI 0) hx hb dX0_becomes_39 (by decide) ?_
  refine lv_bipush (v := nI 8) hx hb dX0_becomes_40 (by decide) ?_
  refine xcopyA (N := 8) hx hb (by rw [hml, hl.1]) hown (hts (.methodLink RX0 31 arraycopyName) (by decide +kernel)) (hts (.native arraycopyName) (by decide +kernel)) (hts (.static arraycopyName) (by decide +kernel)) (hts (.initialized "java/lang/System") (by decide +kernel)) hG hP hD hS 8 3 rfl rfl (by decide) (Nat.le_of_ble_eq_true rfl) (Nat.le_of_ble_eq_true rfl) dX0_becomes_42 (fun H locs hP hD hS => ?_)
  have hP : va_P D vwCl (wRow2 cI q a0 a1 a2 a3 n fo kj sj wj lo r b0 b1 b2 b3 n2 go kj sj wj lj) H := hP
  have hD : va_D (AW [q, a0, a1, a2, a3, r, b0, b1, b2, b3]) (wRow2 cI q a0 a1 a2 a3 n fo kj sj wj lo r b0 b1 b2 b3 n2 go kj sj wj lj) := hD
  refine lv_aload_n hx hb dX0_becomes_45 rfl (lv_at hl 1 rfl) ?_
  refine va_get (D := D) (ci := 0) (v := .ref b3) (C := RX0) (T := TX0) (N := 6) hx hb yX0 (fun _ h => h) hown hG.1 hP 5 rfl rfl 3 (by decide) f21 (fun _ h => h) rfl dX0_becomes_46 ?_
  refine lv_iconst (v := nI 0) hx hb dX0_becomes_49 (by decide) ?_
  refine lv_aload_n hx hb dX0_becomes_50 rfl (lv_at hl 0 rfl) ?_
  refine va_get (D := D) (ci := 0) (v := .ref a3) (C := RX0) (T := TX0) (N := 6) hx hb yX0 (fun _ h => h) hown hG.1 hP 0 rfl rfl 3 (by decide) f21 (fun _ h => h) rfl dX0_becomes_51 ?_
  refine lv_iconst (v := nI 0) hx hb dX0_becomes_54 (by decide) ?_
  refine lv_bipush (v := nI 8) hx hb dX0_becomes_55 (by decide) ?_
  refine xcopyA (N := 8) hx hb (by rw [hml, hl.1]) hown (hts (.methodLink RX0 31 arraycopyName) (by decide +kernel)) (hts (.native arraycopyName) (by decide +kernel)) (hts (.static arraycopyName) (by decide +kernel)) (hts (.initialized "java/lang/System") (by decide +kernel)) hG hP hD hS 9 4 rfl rfl (by decide) (Nat.le_of_ble_eq_true rfl) (Nat.le_of_ble_eq_true rfl) dX0_becomes_57 (fun H locs hP hD hS => ?_)
  have hP : va_P D vwCl (wRow2 cI q a0 a1 a2 a3 n fo kj sj wj lj r b0 b1 b2 b3 n2 go kj sj wj lj) H := hP
  have hD : va_D (AW [q, a0, a1, a2, a3, r, b0, b1, b2, b3]) (wRow2 cI q a0 a1 a2 a3 n fo kj sj wj lj r b0 b1 b2 b3 n2 go kj sj wj lj) := hD
  refine lv_aload_n hx hb dX0_becomes_60 rfl (lv_at hl 0 rfl) ?_
  refine lv_aload_n hx hb dX0_becomes_61 rfl (lv_at hl 1 rfl) ?_
  refine va_get (D := D) (ci := 0) (v := .int (nI n2)) (C := RX0) (T := TX0) (N := 6) hx hb yX0 (fun _ h => h) hown hG.1 hP 5 rfl rfl 4 (by decide) f24 (fun _ h => h) rfl dX0_becomes_62 ?_
  refine va_put (D := D) (ci := 0) (v := .int (nI n2)) (ty := .int) (C := RX0) (T := TX0) (N := 6) hx hb yX0 (fun _ h => h) tyX0 tyX0_ok nmX0 hown hG.1 hP hD hS 0 rfl rfl 4 (by decide) f24 (fun _ h => h) rfl (by decide +kernel) rfl rfl (Nat.le_of_ble_eq_true rfl) dX0_becomes_65 (fun H locs hP hD hS => ?_)
  have hP : va_P D vwCl (wRow2 cI q a0 a1 a2 a3 n2 fo kj sj wj lj r b0 b1 b2 b3 n2 go kj sj wj lj) H := hP
  have hD : va_D (AW [q, a0, a1, a2, a3, r, b0, b1, b2, b3]) (wRow2 cI q a0 a1 a2 a3 n2 fo kj sj wj lj r b0 b1 b2 b3 n2 go kj sj wj lj) := hD
  refine lv_aload_n hx hb dX0_becomes_68 rfl (lv_at hl 0 rfl) ?_
  refine lv_aload_n hx hb dX0_becomes_69 rfl (lv_at hl 1 rfl) ?_
  refine va_get (D := D) (ci := 0) (v := .int (nI go)) (C := RX0) (T := TX0) (N := 6) hx hb yX0 (fun _ h => h) hown hG.1 hP 5 rfl rfl 5 (by decide) f28 (fun _ h => h) rfl dX0_becomes_70 ?_
  refine va_put (D := D) (ci := 0) (v := .int (nI go)) (ty := .int) (C := RX0) (T := TX0) (N := 6) hx hb yX0 (fun _ h => h) tyX0 tyX0_ok nmX0 hown hG.1 hP hD hS 0 rfl rfl 5 (by decide) f28 (fun _ h => h) rfl (by decide +kernel) rfl rfl (Nat.le_of_ble_eq_true rfl) dX0_becomes_73 (fun H locs hP hD hS => ?_)
  have hP : va_P D vwCl (wRow2 cI q a0 a1 a2 a3 n2 go kj sj wj lj r b0 b1 b2 b3 n2 go kj sj wj lj) H := hP
  have hD : va_D (AW [q, a0, a1, a2, a3, r, b0, b1, b2, b3]) (wRow2 cI q a0 a1 a2 a3 n2 go kj sj wj lj r b0 b1 b2 b3 n2 go kj sj wj lj) := hD
  exact xretMv hx hb hr hlk dX0_becomes_76 hS () (by trivial) (fun t ht => by rw [ht]; exact hP)

theorem hV_X3_cellsBarred : yX3_cellsBarred.cls = RX3 ∧ yX3_cellsBarred.cls ≠ "java/lang/invoke/MethodHandle" ∧ yX3_cellsBarred.cls ≠ "java/lang/invoke/VarHandle" ∧ (parseMethodDescriptor yX3_cellsBarred.desc).map (fun d => d.parameters.length) = some 4 := by decide +kernel
theorem hV_X3_codeAt : yX3_codeAt.cls = RX3 ∧ yX3_codeAt.cls ≠ "java/lang/invoke/MethodHandle" ∧ yX3_codeAt.cls ≠ "java/lang/invoke/VarHandle" ∧ (parseMethodDescriptor yX3_codeAt.desc).map (fun d => d.parameters.length) = some 2 := by decide +kernel
theorem hV_X3_dayBy : yX3_dayBy.cls = RX3 ∧ yX3_dayBy.cls ≠ "java/lang/invoke/MethodHandle" ∧ yX3_dayBy.cls ≠ "java/lang/invoke/VarHandle" ∧ (parseMethodDescriptor yX3_dayBy.desc).map (fun d => d.parameters.length) = some 3 := by decide +kernel
theorem hV_X3_didPair : yX3_didPair.cls = RX3 ∧ yX3_didPair.cls ≠ "java/lang/invoke/MethodHandle" ∧ yX3_didPair.cls ≠ "java/lang/invoke/VarHandle" ∧ (parseMethodDescriptor yX3_didPair.desc).map (fun d => d.parameters.length) = some 2 := by decide +kernel
theorem hV_X3_figure : yX3_figure.cls = RX3 ∧ yX3_figure.cls ≠ "java/lang/invoke/MethodHandle" ∧ yX3_figure.cls ≠ "java/lang/invoke/VarHandle" ∧ (parseMethodDescriptor yX3_figure.desc).map (fun d => d.parameters.length) = some 5 := by decide +kernel
theorem hV_X3_open : yX3_open.cls = RX3 ∧ yX3_open.cls ≠ "java/lang/invoke/MethodHandle" ∧ yX3_open.cls ≠ "java/lang/invoke/VarHandle" ∧ (parseMethodDescriptor yX3_open.desc).map (fun d => d.parameters.length) = some 1 := by decide +kernel
theorem hV_X3_pairsBarred : yX3_pairsBarred.cls = RX3 ∧ yX3_pairsBarred.cls ≠ "java/lang/invoke/MethodHandle" ∧ yX3_pairsBarred.cls ≠ "java/lang/invoke/VarHandle" ∧ (parseMethodDescriptor yX3_pairsBarred.desc).map (fun d => d.parameters.length) = some 2 := by decide +kernel
theorem hV_X3_readsChair : yX3_readsChair.cls = RX3 ∧ yX3_readsChair.cls ≠ "java/lang/invoke/MethodHandle" ∧ yX3_readsChair.cls ≠ "java/lang/invoke/VarHandle" ∧ (parseMethodDescriptor yX3_readsChair.desc).map (fun d => d.parameters.length) = some 2 := by decide +kernel
theorem hV_X3_readsFront : yX3_readsFront.cls = RX3 ∧ yX3_readsFront.cls ≠ "java/lang/invoke/MethodHandle" ∧ yX3_readsFront.cls ≠ "java/lang/invoke/VarHandle" ∧ (parseMethodDescriptor yX3_readsFront.desc).map (fun d => d.parameters.length) = some 2 := by decide +kernel
theorem hV_X3_turn : yX3_turn.cls = RX3 ∧ yX3_turn.cls ≠ "java/lang/invoke/MethodHandle" ∧ yX3_turn.cls ≠ "java/lang/invoke/VarHandle" ∧ (parseMethodDescriptor yX3_turn.desc).map (fun d => d.parameters.length) = some 2 := by decide +kernel
set_option maxHeartbeats 4000000 in
set_option maxRecDepth 100000 in
theorem c_X3_codeAt (l : Launch) (D : va_G) (cI cS : ClassId) (ad : Nat → Nat) (fa : Nat) (n : Nat) (fo : Nat) (ki : Nat → Nat) (st : Nat → Nat) (we : Nat → Nat) (lo : Nat → Nat) (ra : Nat) (rch : Nat) (q0 : Nat → Int32) (q1 : Nat → Int32) (q2 : Nat → Int32) (q3 : Nat → Int32) (fk : Nat) (fc : Nat → Nat) (rd : Nat) (rc : Nat → Nat) (rv : Nat → Nat) (sh : Nat → Bool) (sle : Nat → Nat) (sla : Nat → Nat) (bg : Nat → Int32) (hd : Nat → Int32) (tr : Int32) (u : Nat) (c1 : Nat) (hu : u + c1 ≤ 240) (hra9 : ra < 1000) : Met l yX3_codeAt wsX3_codeAt ({ frames := 0, cells := 0, slots := 0, locals := 0 }) (PR D cI cS [.ref (ad 0), .int (nI u), .int (nI c1)] (wM cI ad fa n fo ki st we lo ra rch q0 q1 q2 q3 fk fc rd rc rv sh sle sla bg hd tr)) (vp_Si (fun r => r = cdF (textA bg u) c1 ra)) 0 0 (fun _ => False) := by
  refine startR (by decide) rfl (Nat.le_of_ble_eq_true rfl) ?_
  intro p e s m below meth c hx hb hr hts hown hlk hml hG hP ls hl
  have hl : lv_has ls 3 [(0, .ref (ad 0)), (1, .int (nI u)), (2, .int (nI c1))] := hl
  have f72 := hts (.fieldLink RX3 72 "ChairBallotModel" "readAt" "I") (by decide +kernel)
  have f49 := hts (.fieldLink RX3 49 "ChairBallotModel" "sheet" "[I") (by decide +kernel)
  have yX3 : ∀ w ∈ u_ws RX3 TX3 23, w.before _ s = true := fun w h => hts w ((by decide +kernel : ∀ w ∈ wsX30, w ∈ wsX3_codeAt) w h)
  have hF : CallFix p m c cX3_codeAt 3 s _ wsX3_codeAt RX3 := ⟨hx, hb, hml, hown, hts⟩
  refine lv_aload_n hx hb dX3_codeAt_0 rfl (lv_at hl 0 rfl) ?_
  refine va_get (D := D) (ci := 3) (v := .int (nI ra)) (C := RX3) (T := TX3) (N := 23) hx hb yX3 (fun _ h => h) hown hG.1 hP 0 rfl rfl 7 (by decide) f72 (fun _ h => h) rfl dX3_codeAt_1 ?_
  refine lv_iload_n hx hb dX3_codeAt_4 rfl (lv_at hl 2 rfl) ?_
  refine lv_icmp_ge (tgt := 22) hx hb dX3_codeAt_5 (by decide) (fun c_5 => ?_) (fun c_5 => ?_)
  ·
    replace c_5 := (nI_leI (a := c1) (b := ra) (by omega) (by omega)).mp c_5
    have hq : ¬ ra < c1 := by omega
    refine lv_bipush (v := (-9)) hx hb dX3_codeAt_22 (by decide) ?_
    exact xretR hx hb hr hlk dX3_codeAt_24 (by simp [cdF, textA, c_5, hq])
  ·
    replace c_5 := (not_congr (nI_leI (a := c1) (b := ra) (by omega) (by omega))).mp c_5
    have hq : ra < c1 := by omega
    refine lv_aload_n hx hb dX3_codeAt_8 rfl (lv_at hl 0 rfl) ?_
    refine va_get (D := D) (ci := 3) (v := .ref (ad 14)) (C := RX3) (T := TX3) (N := 23) hx hb yX3 (fun _ h => h) hown hG.1 hP 0 rfl rfl 20 (by decide) f49 (fun _ h => h) rfl dX3_codeAt_9 ?_
    refine lv_iload_n hx hb dX3_codeAt_12 rfl (lv_at hl 1 rfl) ?_
    refine lv_aload_n hx hb dX3_codeAt_13 rfl (lv_at hl 0 rfl) ?_
    refine va_get (D := D) (ci := 3) (v := .int (nI ra)) (C := RX3) (T := TX3) (N := 23) hx hb yX3 (fun _ h => h) hown hG.1 hP 0 rfl rfl 7 (by decide) f72 (fun _ h => h) rfl dX3_codeAt_14 ?_
    refine xaddN hx hb dX3_codeAt_17 ?_
    refine xald hx hb hG hP 14 rfl (u + ra) rfl (by omega) (by decide) dX3_codeAt_18 ?_
    refine lv_goto (tgt := 24) hx hb dX3_codeAt_19 (by decide) ?_
    exact xretR hx hb hr hlk dX3_codeAt_24 (by simp [cdF, textA, c_5, hq])

set_option maxHeartbeats 4000000 in
set_option maxRecDepth 100000 in
theorem c_X3_figure (l : Launch) (D : va_G) (cI cS : ClassId) (ad : Nat → Nat) (fa : Nat) (n : Nat) (fo : Nat) (ki : Nat → Nat) (st : Nat → Nat) (we : Nat → Nat) (lo : Nat → Nat) (ra : Nat) (rch : Nat) (q0 : Nat → Int32) (q1 : Nat → Int32) (q2 : Nat → Int32) (q3 : Nat → Int32) (fk : Nat) (fc : Nat → Nat) (rd : Nat) (rc : Nat → Nat) (rv : Nat → Nat) (sh : Nat → Bool) (sle : Nat → Nat) (sla : Nat → Nat) (bg : Nat → Int32) (hd : Nat → Int32) (tr : Int32) (u : Nat) (c1 : Nat) (x1 : Int32) (l9 : Nat) (h9 : Nat) (hnd : nd (adM ad)) (hu : u + c1 ≤ 240) (hra9 : ra < 1000) (hl9 : l9 < 1000) (hh9 : h9 < 1000) : Met l yX3_figure wsX3_figure ({ frames := 1, cells := 0, slots := 0, locals := 25 }) (PR D cI cS [.ref (ad 0), .int (nI u), .int (nI c1), .int x1, .int (nI l9), .int (nI h9)] (wM cI ad fa n fo ki st we lo ra rch q0 q1 q2 q3 fk fc rd rc rv sh sle sla bg hd tr)) (va_Qi (fun r (zz : Unit) => r = fgV (textA bg u) c1 ra x1 l9 h9) (fun (zz : Unit) t => va_P D vwCl (wM cI ad fa n fo ki st we lo (fgR (textA bg u) c1 ra x1 l9 h9) rch q0 q1 q2 q3 fk fc rd rc rv sh sle sla bg hd tr) t.heap) (AW (adM ad))) 0 0 (AW (adM ad)) := by
  refine startM (by decide) rfl (Nat.le_of_ble_eq_true rfl) hnd rfl ?_
  intro p e s m below meth c hx hb hr hts hown hlk hml hG hP hD hS ls hl
  have hl : lv_has ls 8 [(0, .ref (ad 0)), (1, .int (nI u)), (2, .int (nI c1)), (3, .int x1), (4, .int (nI l9)), (5, .int (nI h9))] := hl
  have f72 := hts (.fieldLink RX3 72 "ChairBallotModel" "readAt" "I") (by decide +kernel)
  have yX3 : ∀ w ∈ u_ws RX3 TX3 23, w.before _ s = true := fun w h => hts w ((by decide +kernel : ∀ w ∈ wsX30, w ∈ wsX3_figure) w h)
  have hF : CallFix p m c cX3_figure 8 s _ wsX3_figure RX3 := ⟨hx, hb, hml, hown, hts⟩
  refine lv_iload_n hx hb dX3_figure_0 rfl (lv_at hl 3 rfl) ?_
  refine lv_if_ge (tgt := 9) hx hb dX3_figure_1 (by decide) (fun c_1 => ?_) (fun c_1 => ?_)
  ·
    replace c_1 : 0 ≤ x1.toInt := (i32_gec (b := 0) (by omega)).mp c_1
    have hx1 : ¬ x1.toInt < 0 := by omega
    refine lv_aload_n hx hb dX3_figure_9 rfl (lv_at hl 0 rfl) ?_
    refine lv_iload_n hx hb dX3_figure_10 rfl (lv_at hl 1 rfl) ?_
    refine lv_iload_n hx hb dX3_figure_11 rfl (lv_at hl 2 rfl) ?_
    refine xrd (va_runV (As := [.int (nI u), .int (nI c1)]) (rest := []) hF (c_X3_codeAt l D cI cS ad fa n fo ki st we lo ra rch q0 q1 q2 q3 fk fc rd rc rv sh sle sla bg hd tr u c1 (by first | assumption | omega) (by first | assumption | omega)) (cwV 2 hts gX3_figure_X3_codeAt rfl rfl rfl hV_X3_codeAt ⟨Nat.le_of_ble_eq_true rfl, Nat.le_of_ble_eq_true rfl⟩) (PR.preV hG hP (ci := 3) rfl rfl) rfl rfl hl.1 rfl (lv_room (Nat.le_of_ble_eq_true rfl)) dX3_figure_12 ⟨Nat.le_refl _, Nat.le_refl _⟩) ?_
    refine lv_bipush (v := nI 48) hx hb dX3_figure_15 (by decide) ?_
    refine lv_isub hx hb dX3_figure_17 ?_
    refine lv_istore (lv' := [(6, .int ((cdF (textA bg u) c1 ra) - (nI 48))), (0, .ref (ad 0)), (1, .int (nI u)), (2, .int (nI c1)), (3, .int x1), (4, .int (nI l9)), (5, .int (nI h9))]) hx hb dX3_figure_18 hl (by decide) rfl (fun ls hl => ?_)
    refine lv_iload hx hb dX3_figure_20 (lv_at hl 0 rfl) ?_
    refine lv_i2l (v := ((cdF (textA bg u) c1 ra) - (nI 48)).toInt64) hx hb dX3_figure_22 rfl ?_
    refine lv_iload hx hb dX3_figure_23 (lv_at hl 5 rfl) ?_
    refine lv_i2l (v := lN l9) hx hb dX3_figure_25 (nI_l (by omega)) ?_
    refine lv_iload hx hb dX3_figure_26 (lv_at hl 6 rfl) ?_
    refine lv_i2l (v := lN h9) hx hb dX3_figure_28 (nI_l (by omega)) ?_
    refine xrd (va_runS (As := [.long (((cdF (textA bg u) c1 ra) - (nI 48)).toInt64), .long (lN l9), .long (lN h9)]) (rest := []) hF (c_X3_in l D cI cS ((cdF (textA bg u) c1 ra) - (nI 48)) l9 h9 (by first | assumption | omega) (by first | assumption | omega)) (va_cwS 3 hts gX3_figure_X3_in rfl rfl rfl hD_X3_in ⟨Nat.le_of_ble_eq_true rfl, Nat.le_of_ble_eq_true rfl⟩) (PR.pre hG (hP.sub (ws' := []) [] rfl)) rfl rfl hl.1 rfl (lv_room (Nat.le_of_ble_eq_true rfl)) dX3_figure_29 ⟨Nat.le_refl _, Nat.le_refl _⟩) ?_
    refine xtop (x' := bI (rgB l9 h9 ((cdF (textA bg u) c1 ra) - (nI 48)))) rfl ?_
    refine lv_istore (lv' := [(7, .int (bI (rgB l9 h9 ((cdF (textA bg u) c1 ra) - (nI 48))))), (6, .int ((cdF (textA bg u) c1 ra) - (nI 48))), (0, .ref (ad 0)), (1, .int (nI u)), (2, .int (nI c1)), (3, .int x1), (4, .int (nI l9)), (5, .int (nI h9))]) hx hb dX3_figure_32 hl (by decide) rfl (fun ls hl => ?_)
    refine lv_aload_n hx hb dX3_figure_34 rfl (lv_at hl 2 rfl) ?_
    refine lv_dup hx hb dX3_figure_35 rfl ?_
    refine va_get (D := D) (ci := 3) (v := .int (nI ra)) (C := RX3) (T := TX3) (N := 23) hx hb yX3 (fun _ h => h) hown hG.1 hP 0 rfl rfl 7 (by decide) f72 (fun _ h => h) rfl dX3_figure_36 ?_
    refine lv_iload hx hb dX3_figure_39 (lv_at hl 0 rfl) ?_
    refine lv_if_eq (tgt := 48) hx hb dX3_figure_41 (by decide) (fun c_41 => ?_) (fun c_41 => ?_)
    ·
      replace c_41 := bI_0.mp c_41
      refine lv_iconst (v := nI 0) hx hb dX3_figure_48 (by decide) ?_
      refine xaddN hx hb dX3_figure_49 ?_
      refine va_put (D := D) (ci := 3) (v := .int (nI (ra + 0))) (ty := .int) (C := RX3) (T := TX3) (N := 23) hx hb yX3 (fun _ h => h) tyX3 tyX3_ok nmX3 hown hG.1 hP hD hS 0 rfl rfl 7 (by decide) f72 (fun _ h => h) rfl (by decide +kernel) rfl rfl (Nat.le_of_ble_eq_true rfl) dX3_figure_50 (fun H locs hP hD hS => ?_)
      have hP : va_P D vwCl (wM cI ad fa n fo ki st we lo (ra + 0) rch q0 q1 q2 q3 fk fc rd rc rv sh sle sla bg hd tr) H := hP
      have hD : va_D (AW (adM ad)) (wM cI ad fa n fo ki st we lo (ra + 0) rch q0 q1 q2 q3 fk fc rd rc rv sh sle sla bg hd tr) := hD
      refine lv_iload hx hb dX3_figure_53 (lv_at hl 0 rfl) ?_
      refine lv_if_eq (tgt := 63) hx hb dX3_figure_55 (by decide) (fun c_55 => ?_) (fun c_55 => ?_)
      ·
        replace c_55 := bI_0.mp c_55
        refine lv_bipush (v := (-9)) hx hb dX3_figure_63 (by decide) ?_
        exact xretM hx hb hr hlk dX3_figure_65 hS () (by simp [fgV, fgI, c_1, hx1, c_41, c_55]) (fun t ht => by rw [ht]; rw [show fgR (textA bg u) c1 ra x1 l9 h9 = (ra + 0) from by simp [fgR, fgI, c_1, hx1, c_41, c_55]]; exact hP)
      ·
        replace c_55 := bI_n0.mp c_55
        exact absurd (c_41.symm.trans c_55) (by decide)
    ·
      replace c_41 := bI_n0.mp c_41
      refine lv_iconst (v := nI 1) hx hb dX3_figure_44 (by decide) ?_
      refine lv_goto (tgt := 49) hx hb dX3_figure_45 (by decide) ?_
      refine xaddN hx hb dX3_figure_49 ?_
      refine va_put (D := D) (ci := 3) (v := .int (nI (ra + 1))) (ty := .int) (C := RX3) (T := TX3) (N := 23) hx hb yX3 (fun _ h => h) tyX3 tyX3_ok nmX3 hown hG.1 hP hD hS 0 rfl rfl 7 (by decide) f72 (fun _ h => h) rfl (by decide +kernel) rfl rfl (Nat.le_of_ble_eq_true rfl) dX3_figure_50 (fun H locs hP hD hS => ?_)
      have hP : va_P D vwCl (wM cI ad fa n fo ki st we lo (ra + 1) rch q0 q1 q2 q3 fk fc rd rc rv sh sle sla bg hd tr) H := hP
      have hD : va_D (AW (adM ad)) (wM cI ad fa n fo ki st we lo (ra + 1) rch q0 q1 q2 q3 fk fc rd rc rv sh sle sla bg hd tr) := hD
      refine lv_iload hx hb dX3_figure_53 (lv_at hl 0 rfl) ?_
      refine lv_if_eq (tgt := 63) hx hb dX3_figure_55 (by decide) (fun c_55 => ?_) (fun c_55 => ?_)
      ·
        replace c_55 := bI_0.mp c_55
        exact absurd (c_41.symm.trans c_55) (by decide)
      ·
        replace c_55 := bI_n0.mp c_55
        refine lv_iload hx hb dX3_figure_58 (lv_at hl 1 rfl) ?_
        refine lv_goto (tgt := 65) hx hb dX3_figure_60 (by decide) ?_
        exact xretM hx hb hr hlk dX3_figure_65 hS () (by simp [fgV, fgI, c_1, hx1, c_41, c_55]) (fun t ht => by rw [ht]; rw [show fgR (textA bg u) c1 ra x1 l9 h9 = (ra + 1) from by simp [fgR, fgI, c_1, hx1, c_41, c_55]]; exact hP)
  ·
    replace c_1 : ¬ 0 ≤ x1.toInt := (not_congr (i32_gec (b := 0) (by omega))).mp c_1
    have hx1 : x1.toInt < 0 := by omega
    refine lv_bipush (v := (-9)) hx hb dX3_figure_4 (by decide) ?_
    refine lv_goto (tgt := 18) hx hb dX3_figure_6 (by decide) ?_
    refine lv_istore (lv' := [(6, .int (-9)), (0, .ref (ad 0)), (1, .int (nI u)), (2, .int (nI c1)), (3, .int x1), (4, .int (nI l9)), (5, .int (nI h9))]) hx hb dX3_figure_18 hl (by decide) rfl (fun ls hl => ?_)
    refine lv_iload hx hb dX3_figure_20 (lv_at hl 0 rfl) ?_
    refine lv_i2l (v := (-9).toInt64) hx hb dX3_figure_22 rfl ?_
    refine lv_iload hx hb dX3_figure_23 (lv_at hl 5 rfl) ?_
    refine lv_i2l (v := lN l9) hx hb dX3_figure_25 (nI_l (by omega)) ?_
    refine lv_iload hx hb dX3_figure_26 (lv_at hl 6 rfl) ?_
    refine lv_i2l (v := lN h9) hx hb dX3_figure_28 (nI_l (by omega)) ?_
    refine xrd (va_runS (As := [.long ((-9).toInt64), .long (lN l9), .long (lN h9)]) (rest := []) hF (c_X3_in l D cI cS (-9) l9 h9 (by first | assumption | omega) (by first | assumption | omega)) (va_cwS 3 hts gX3_figure_X3_in rfl rfl rfl hD_X3_in ⟨Nat.le_of_ble_eq_true rfl, Nat.le_of_ble_eq_true rfl⟩) (PR.pre hG (hP.sub (ws' := []) [] rfl)) rfl rfl hl.1 rfl (lv_room (Nat.le_of_ble_eq_true rfl)) dX3_figure_29 ⟨Nat.le_refl _, Nat.le_refl _⟩) ?_
    refine xtop (x' := bI (rgB l9 h9 (-9))) rfl ?_
    refine lv_istore (lv' := [(7, .int (bI (rgB l9 h9 (-9)))), (6, .int (-9)), (0, .ref (ad 0)), (1, .int (nI u)), (2, .int (nI c1)), (3, .int x1), (4, .int (nI l9)), (5, .int (nI h9))]) hx hb dX3_figure_32 hl (by decide) rfl (fun ls hl => ?_)
    refine lv_aload_n hx hb dX3_figure_34 rfl (lv_at hl 2 rfl) ?_
    refine lv_dup hx hb dX3_figure_35 rfl ?_
    refine va_get (D := D) (ci := 3) (v := .int (nI ra)) (C := RX3) (T := TX3) (N := 23) hx hb yX3 (fun _ h => h) hown hG.1 hP 0 rfl rfl 7 (by decide) f72 (fun _ h => h) rfl dX3_figure_36 ?_
    refine lv_iload hx hb dX3_figure_39 (lv_at hl 0 rfl) ?_
    refine lv_if_eq (tgt := 48) hx hb dX3_figure_41 (by decide) (fun c_41 => ?_) (fun c_41 => ?_)
    ·
      replace c_41 := bI_0.mp c_41
      refine lv_iconst (v := nI 0) hx hb dX3_figure_48 (by decide) ?_
      refine xaddN hx hb dX3_figure_49 ?_
      refine va_put (D := D) (ci := 3) (v := .int (nI (ra + 0))) (ty := .int) (C := RX3) (T := TX3) (N := 23) hx hb yX3 (fun _ h => h) tyX3 tyX3_ok nmX3 hown hG.1 hP hD hS 0 rfl rfl 7 (by decide) f72 (fun _ h => h) rfl (by decide +kernel) rfl rfl (Nat.le_of_ble_eq_true rfl) dX3_figure_50 (fun H locs hP hD hS => ?_)
      have hP : va_P D vwCl (wM cI ad fa n fo ki st we lo (ra + 0) rch q0 q1 q2 q3 fk fc rd rc rv sh sle sla bg hd tr) H := hP
      have hD : va_D (AW (adM ad)) (wM cI ad fa n fo ki st we lo (ra + 0) rch q0 q1 q2 q3 fk fc rd rc rv sh sle sla bg hd tr) := hD
      refine lv_iload hx hb dX3_figure_53 (lv_at hl 0 rfl) ?_
      refine lv_if_eq (tgt := 63) hx hb dX3_figure_55 (by decide) (fun c_55 => ?_) (fun c_55 => ?_)
      ·
        replace c_55 := bI_0.mp c_55
        refine lv_bipush (v := (-9)) hx hb dX3_figure_63 (by decide) ?_
        exact xretM hx hb hr hlk dX3_figure_65 hS () (by simp [fgV, fgI, c_1, hx1, c_41, c_55]) (fun t ht => by rw [ht]; rw [show fgR (textA bg u) c1 ra x1 l9 h9 = (ra + 0) from by simp [fgR, fgI, c_1, hx1, c_41, c_55]]; exact hP)
      ·
        replace c_55 := bI_n0.mp c_55
        exact absurd (c_41.symm.trans c_55) (by decide)
    ·
      replace c_41 := bI_n0.mp c_41
      refine lv_iconst (v := nI 1) hx hb dX3_figure_44 (by decide) ?_
      refine lv_goto (tgt := 49) hx hb dX3_figure_45 (by decide) ?_
      refine xaddN hx hb dX3_figure_49 ?_
      refine va_put (D := D) (ci := 3) (v := .int (nI (ra + 1))) (ty := .int) (C := RX3) (T := TX3) (N := 23) hx hb yX3 (fun _ h => h) tyX3 tyX3_ok nmX3 hown hG.1 hP hD hS 0 rfl rfl 7 (by decide) f72 (fun _ h => h) rfl (by decide +kernel) rfl rfl (Nat.le_of_ble_eq_true rfl) dX3_figure_50 (fun H locs hP hD hS => ?_)
      have hP : va_P D vwCl (wM cI ad fa n fo ki st we lo (ra + 1) rch q0 q1 q2 q3 fk fc rd rc rv sh sle sla bg hd tr) H := hP
      have hD : va_D (AW (adM ad)) (wM cI ad fa n fo ki st we lo (ra + 1) rch q0 q1 q2 q3 fk fc rd rc rv sh sle sla bg hd tr) := hD
      refine lv_iload hx hb dX3_figure_53 (lv_at hl 0 rfl) ?_
      refine lv_if_eq (tgt := 63) hx hb dX3_figure_55 (by decide) (fun c_55 => ?_) (fun c_55 => ?_)
      ·
        replace c_55 := bI_0.mp c_55
        exact absurd (c_41.symm.trans c_55) (by decide)
      ·
        replace c_55 := bI_n0.mp c_55
        refine lv_iload hx hb dX3_figure_58 (lv_at hl 1 rfl) ?_
        refine lv_goto (tgt := 65) hx hb dX3_figure_60 (by decide) ?_
        exact xretM hx hb hr hlk dX3_figure_65 hS () (by simp [fgV, fgI, c_1, hx1, c_41, c_55]) (fun t ht => by rw [ht]; rw [show fgR (textA bg u) c1 ra x1 l9 h9 = (ra + 1) from by simp [fgR, fgI, c_1, hx1, c_41, c_55]]; exact hP)

set_option maxHeartbeats 4000000 in
set_option maxRecDepth 100000 in
theorem c_X3_readsChair (l : Launch) (D : va_G) (cI cS : ClassId) (ad : Nat → Nat) (fa : Nat) (n : Nat) (fo : Nat) (ki : Nat → Nat) (st : Nat → Nat) (we : Nat → Nat) (lo : Nat → Nat) (ra : Nat) (rch : Nat) (q0 : Nat → Int32) (q1 : Nat → Int32) (q2 : Nat → Int32) (q3 : Nat → Int32) (fk : Nat) (fc : Nat → Nat) (rd : Nat) (rc : Nat → Nat) (rv : Nat → Nat) (sh : Nat → Bool) (sle : Nat → Nat) (sla : Nat → Nat) (bg : Nat → Int32) (hd : Nat → Int32) (tr : Int32) (u : Nat) (c1 : Nat) (hnd : nd (adM ad)) (hu : u + c1 ≤ 240) (hm : rch ≤ 8) (hra : ra = 1 + 5 * rch) (hU : upG (textA bg u) ra) (hle9 : ra ≤ c1) (hlp : rch < 2 ∨ ra < c1) : Met l yX3_readsChair wsX3_readsChair ({ frames := 2, cells := 0, slots := 0, locals := 52 }) (PR D cI cS [.ref (ad 0), .int (nI u), .int (nI c1)] (wM cI ad fa n fo ki st we lo ra rch q0 q1 q2 q3 fk fc rd rc rv sh sle sla bg hd tr)) (va_Qi (fun r (zz : Bool × Nat × Nat × (Nat → Int32) × (Nat → Int32) × (Nat → Int32) × (Nat → Int32)) => r = bI zz.1 ∧ rcP (textA bg u) c1 rch zz.1 zz.2.1 zz.2.2.1 q0 q1 q2 q3 zz.2.2.2.1 zz.2.2.2.2.1 zz.2.2.2.2.2.1 zz.2.2.2.2.2.2) (fun (zz : Bool × Nat × Nat × (Nat → Int32) × (Nat → Int32) × (Nat → Int32) × (Nat → Int32)) t => va_P D vwCl (wM cI ad fa n fo ki st we lo zz.2.1 zz.2.2.1 zz.2.2.2.1 zz.2.2.2.2.1 zz.2.2.2.2.2.1 zz.2.2.2.2.2.2 fk fc rd rc rv sh sle sla bg hd tr) t.heap) (AW (adM ad))) 0 0 (AW (adM ad)) := by
  refine startM (by decide) rfl (Nat.le_of_ble_eq_true rfl) hnd rfl ?_
  intro p e s m below meth c hx hb hr hts hown hlk hml hG hP hD hS ls hl
  have hl : lv_has ls 7 [(0, .ref (ad 0)), (1, .int (nI u)), (2, .int (nI c1))] := hl
  have f79 := hts (.fieldLink RX3 79 "ChairBallotModel" "readChairs" "I") (by decide +kernel)
  have f72 := hts (.fieldLink RX3 72 "ChairBallotModel" "readAt" "I") (by decide +kernel)
  have f22 := hts (.fieldLink RX3 22 "ChairBallotModel" "readKind" "[I") (by decide +kernel)
  have f25 := hts (.fieldLink RX3 25 "ChairBallotModel" "readStripe" "[I") (by decide +kernel)
  have f28 := hts (.fieldLink RX3 28 "ChairBallotModel" "readWeight" "[I") (by decide +kernel)
  have f31 := hts (.fieldLink RX3 31 "ChairBallotModel" "readFaces" "[I") (by decide +kernel)
  have yX3 : ∀ w ∈ u_ws RX3 TX3 23, w.before _ s = true := fun w h => hts w ((by decide +kernel : ∀ w ∈ wsX30, w ∈ wsX3_readsChair) w h)
  have hF : CallFix p m c cX3_readsChair 7 s _ wsX3_readsChair RX3 := ⟨hx, hb, hml, hown, hts⟩
  refine lv_aload_n hx hb dX3_readsChair_0 rfl (lv_at hl 0 rfl) ?_
  refine va_get (D := D) (ci := 3) (v := .int (nI rch)) (C := RX3) (T := TX3) (N := 23) hx hb yX3 (fun _ h => h) hown hG.1 hP 0 rfl rfl 8 (by decide) f79 (fun _ h => h) rfl dX3_readsChair_1 ?_
  refine lv_bipush (v := nI 8) hx hb dX3_readsChair_4 (by decide) ?_
  refine lv_icmp_eq (tgt := 20) hx hb dX3_readsChair_6 (by decide) (fun c_6 => ?_) (fun c_6 => ?_)
  ·
    replace c_6 := (nI_eq (a := rch) (b := 8) (by omega) (by omega)).mp c_6
    refine lv_iconst (v := nI 0) hx hb dX3_readsChair_20 (by decide) ?_
    exact xretMz hx hb hr hlk dX3_readsChair_21 hS (false) rfl ⟨false, ra, rch, q0, q1, q2, q3⟩ (by exact ⟨rfl, rc_no0 hm hra hU hle9 hlp (Or.inl c_6)⟩) (fun t ht => by rw [ht]; exact hP)
  ·
    replace c_6 := (not_congr (nI_eq (a := rch) (b := 8) (by omega) (by omega))).mp c_6
    refine lv_aload_n hx hb dX3_readsChair_9 rfl (lv_at hl 0 rfl) ?_
    refine lv_iload_n hx hb dX3_readsChair_10 rfl (lv_at hl 1 rfl) ?_
    refine lv_iload_n hx hb dX3_readsChair_11 rfl (lv_at hl 2 rfl) ?_
    refine xrd (va_runV (As := [.int (nI u), .int (nI c1)]) (rest := []) hF (c_X3_codeAt l D cI cS ad fa n fo ki st we lo ra rch q0 q1 q2 q3 fk fc rd rc rv sh sle sla bg hd tr u c1 (by first | assumption | omega) (by first | assumption | omega)) (cwV 2 hts gX3_readsChair_X3_codeAt rfl rfl rfl hV_X3_codeAt ⟨Nat.le_of_ble_eq_true rfl, Nat.le_of_ble_eq_true rfl⟩) (PR.preV hG hP (ci := 3) rfl rfl) rfl rfl hl.1 rfl (lv_room (Nat.le_of_ble_eq_true rfl)) dX3_readsChair_12 ⟨Nat.le_refl _, Nat.le_refl _⟩) ?_
    refine lv_bipush (v := nI 59) hx hb dX3_readsChair_15 (by decide) ?_
    refine lv_icmp_eq (tgt := 22) hx hb dX3_readsChair_17 (by decide) (fun c_17 => ?_) (fun c_17 => ?_)
    ·
      refine lv_aload_n hx hb dX3_readsChair_22 rfl (lv_at hl 0 rfl) ?_
      refine lv_dup hx hb dX3_readsChair_23 rfl ?_
      refine va_get (D := D) (ci := 3) (v := .int (nI ra)) (C := RX3) (T := TX3) (N := 23) hx hb yX3 (fun _ h => h) hown hG.1 hP 0 rfl rfl 7 (by decide) f72 (fun _ h => h) rfl dX3_readsChair_24 ?_
      refine lv_iconst (v := nI 1) hx hb dX3_readsChair_27 (by decide) ?_
      refine xaddN hx hb dX3_readsChair_28 ?_
      refine va_put (D := D) (ci := 3) (v := .int (nI (ra + 1))) (ty := .int) (C := RX3) (T := TX3) (N := 23) hx hb yX3 (fun _ h => h) tyX3 tyX3_ok nmX3 hown hG.1 hP hD hS 0 rfl rfl 7 (by decide) f72 (fun _ h => h) rfl (by decide +kernel) rfl rfl (Nat.le_of_ble_eq_true rfl) dX3_readsChair_29 (fun H locs hP hD hS => ?_)
      have hP : va_P D vwCl (wM cI ad fa n fo ki st we lo (ra + 1) rch q0 q1 q2 q3 fk fc rd rc rv sh sle sla bg hd tr) H := hP
      have hD : va_D (AW (adM ad)) (wM cI ad fa n fo ki st we lo (ra + 1) rch q0 q1 q2 q3 fk fc rd rc rv sh sle sla bg hd tr) := hD
      refine lv_aload_n hx hb dX3_readsChair_32 rfl (lv_at hl 0 rfl) ?_
      refine lv_iload_n hx hb dX3_readsChair_33 rfl (lv_at hl 1 rfl) ?_
      refine lv_iload_n hx hb dX3_readsChair_34 rfl (lv_at hl 2 rfl) ?_
      refine xrd (va_runV (As := [.int (nI u), .int (nI c1)]) (rest := []) hF (c_X3_codeAt l D cI cS ad fa n fo ki st we lo (ra + 1) rch q0 q1 q2 q3 fk fc rd rc rv sh sle sla bg hd tr u c1 (by first | assumption | omega) (by first | assumption | omega)) (cwV 2 hts gX3_readsChair_X3_codeAt rfl rfl rfl hV_X3_codeAt ⟨Nat.le_of_ble_eq_true rfl, Nat.le_of_ble_eq_true rfl⟩) (PR.preV hG hP (ci := 3) rfl rfl) rfl rfl hl.1 rfl (lv_room (Nat.le_of_ble_eq_true rfl)) dX3_readsChair_35 ⟨Nat.le_refl _, Nat.le_refl _⟩) ?_
      refine lv_istore_n (lv' := [(3, .int (cdF (textA bg u) c1 (ra + 1))), (0, .ref (ad 0)), (1, .int (nI u)), (2, .int (nI c1))]) hx hb dX3_readsChair_38 rfl hl (by decide) rfl (fun ls hl => ?_)
      refine lv_iload_n hx hb dX3_readsChair_39 rfl (lv_at hl 0 rfl) ?_
      refine lv_bipush (v := nI 112) hx hb dX3_readsChair_40 (by decide) ?_
      refine lv_icmp_eq (tgt := 59) hx hb dX3_readsChair_42 (by decide) (fun c_42 => ?_) (fun c_42 => ?_)
      ·
        refine lv_aload_n hx hb dX3_readsChair_59 rfl (lv_at hl 1 rfl) ?_
        refine lv_dup hx hb dX3_readsChair_60 rfl ?_
        refine va_get (D := D) (ci := 3) (v := .int (nI (ra + 1))) (C := RX3) (T := TX3) (N := 23) hx hb yX3 (fun _ h => h) hown hG.1 hP 0 rfl rfl 7 (by decide) f72 (fun _ h => h) rfl dX3_readsChair_61 ?_
        refine lv_iconst (v := nI 1) hx hb dX3_readsChair_64 (by decide) ?_
        refine xaddN hx hb dX3_readsChair_65 ?_
        refine va_put (D := D) (ci := 3) (v := .int (nI (ra + 1 + 1))) (ty := .int) (C := RX3) (T := TX3) (N := 23) hx hb yX3 (fun _ h => h) tyX3 tyX3_ok nmX3 hown hG.1 hP hD hS 0 rfl rfl 7 (by decide) f72 (fun _ h => h) rfl (by decide +kernel) rfl rfl (Nat.le_of_ble_eq_true rfl) dX3_readsChair_66 (fun H locs hP hD hS => ?_)
        have hP : va_P D vwCl (wM cI ad fa n fo ki st we lo (ra + 1 + 1) rch q0 q1 q2 q3 fk fc rd rc rv sh sle sla bg hd tr) H := hP
        have hD : va_D (AW (adM ad)) (wM cI ad fa n fo ki st we lo (ra + 1 + 1) rch q0 q1 q2 q3 fk fc rd rc rv sh sle sla bg hd tr) := hD
        refine lv_aload_n hx hb dX3_readsChair_69 rfl (lv_at hl 1 rfl) ?_
        refine lv_iload_n hx hb dX3_readsChair_70 rfl (lv_at hl 2 rfl) ?_
        refine lv_iload_n hx hb dX3_readsChair_71 rfl (lv_at hl 3 rfl) ?_
        refine lv_iconst (v := nI 0) hx hb dX3_readsChair_72 (by decide) ?_
        refine lv_iconst (v := nI 0) hx hb dX3_readsChair_73 (by decide) ?_
        refine lv_iconst (v := nI 3) hx hb dX3_readsChair_74 (by decide) ?_
        refine xmuW (va_runV (As := [.int (nI u), .int (nI c1), .int (nI 0), .int (nI 0), .int (nI 3)]) (rest := []) hF (c_X3_figure l D cI cS ad fa n fo ki st we lo (ra + 1 + 1) rch q0 q1 q2 q3 fk fc rd rc rv sh sle sla bg hd tr u c1 (nI 0) 0 3 hnd (by first | assumption | omega) (by first | assumption | omega) (by first | assumption | omega) (by first | assumption | omega)) (cwV 5 hts gX3_readsChair_X3_figure rfl rfl rfl hV_X3_figure ⟨Nat.le_of_ble_eq_true rfl, Nat.le_of_ble_eq_true rfl⟩) (PR.preV hG hP (ci := 3) rfl rfl) rfl rfl hl.1 rfl (lv_room (Nat.le_of_ble_eq_true rfl)) dX3_readsChair_75 ⟨Nat.le_refl _, Nat.le_refl _⟩) hD hS rfl (fun _ => rfl) (fun r_75 u_75 H locs q_75 hP hD hS => ?_)
        try dsimp only at q_75 hP hD
        have e_75 := q_75
        subst e_75
        have hP : va_P D vwCl (wM cI ad fa n fo ki st we lo (fgR (textA bg u) c1 (ra + 1 + 1) (nI 0) 0 3) rch q0 q1 q2 q3 fk fc rd rc rv sh sle sla bg hd tr) H := hP
        have hD : va_D (AW (adM ad)) (wM cI ad fa n fo ki st we lo (fgR (textA bg u) c1 (ra + 1 + 1) (nI 0) 0 3) rch q0 q1 q2 q3 fk fc rd rc rv sh sle sla bg hd tr) := hD
        obtain ⟨s9, hs9⟩ : ∃ z, z = fgV (textA bg u) c1 (ra + 1 + 1) (nI 0) 0 3 := ⟨_, rfl⟩
        have ha3l : fgR (textA bg u) c1 (ra + 1 + 1) (nI 0) 0 3 ≤ ra + 1 + 1 + 1 := fgR_le
        obtain ⟨a3, ha3⟩ : ∃ z, z = fgR (textA bg u) c1 (ra + 1 + 1) (nI 0) 0 3 := ⟨_, rfl⟩
        rw [← ha3] at hP hD ha3l
        have hP : va_P D vwCl (wM cI ad fa n fo ki st we lo a3 rch q0 q1 q2 q3 fk fc rd rc rv sh sle sla bg hd tr) H := hP
        have hD : va_D (AW (adM ad)) (wM cI ad fa n fo ki st we lo a3 rch q0 q1 q2 q3 fk fc rd rc rv sh sle sla bg hd tr) := hD
        refine xtop (x' := s9) (by exact hs9.symm) ?_
        refine lv_istore (lv' := [(4, .int s9), (3, .int (cdF (textA bg u) c1 (ra + 1))), (0, .ref (ad 0)), (1, .int (nI u)), (2, .int (nI c1))]) hx hb dX3_readsChair_78 hl (by decide) rfl (fun ls hl => ?_)
        refine lv_aload_n hx hb dX3_readsChair_80 rfl (lv_at hl 2 rfl) ?_
        refine lv_iload_n hx hb dX3_readsChair_81 rfl (lv_at hl 3 rfl) ?_
        refine lv_iload_n hx hb dX3_readsChair_82 rfl (lv_at hl 4 rfl) ?_
        refine lv_iload hx hb dX3_readsChair_83 (lv_at hl 0 rfl) ?_
        refine lv_iconst (v := nI 1) hx hb dX3_readsChair_85 (by decide) ?_
        refine lv_bipush (v := nI 9) hx hb dX3_readsChair_86 (by decide) ?_
        refine xmuW (va_runV (As := [.int (nI u), .int (nI c1), .int s9, .int (nI 1), .int (nI 9)]) (rest := []) hF (c_X3_figure l D cI cS ad fa n fo ki st we lo a3 rch q0 q1 q2 q3 fk fc rd rc rv sh sle sla bg hd tr u c1 s9 1 9 hnd (by first | assumption | omega) (by first | assumption | omega) (by first | assumption | omega) (by first | assumption | omega)) (cwV 5 hts gX3_readsChair_X3_figure rfl rfl rfl hV_X3_figure ⟨Nat.le_of_ble_eq_true rfl, Nat.le_of_ble_eq_true rfl⟩) (PR.preV hG hP (ci := 3) rfl rfl) rfl rfl hl.1 rfl (lv_room (Nat.le_of_ble_eq_true rfl)) dX3_readsChair_88 ⟨Nat.le_refl _, Nat.le_refl _⟩) hD hS rfl (fun _ => rfl) (fun r_88 u_88 H locs q_88 hP hD hS => ?_)
        try dsimp only at q_88 hP hD
        have e_88 := q_88
        subst e_88
        have hP : va_P D vwCl (wM cI ad fa n fo ki st we lo (fgR (textA bg u) c1 a3 s9 1 9) rch q0 q1 q2 q3 fk fc rd rc rv sh sle sla bg hd tr) H := hP
        have hD : va_D (AW (adM ad)) (wM cI ad fa n fo ki st we lo (fgR (textA bg u) c1 a3 s9 1 9) rch q0 q1 q2 q3 fk fc rd rc rv sh sle sla bg hd tr) := hD
        obtain ⟨w9, hw9⟩ : ∃ z, z = fgV (textA bg u) c1 a3 s9 1 9 := ⟨_, rfl⟩
        have ha4l : fgR (textA bg u) c1 a3 s9 1 9 ≤ a3 + 1 := fgR_le
        obtain ⟨a4, ha4⟩ : ∃ z, z = fgR (textA bg u) c1 a3 s9 1 9 := ⟨_, rfl⟩
        rw [← ha4] at hP hD ha4l
        have hP : va_P D vwCl (wM cI ad fa n fo ki st we lo a4 rch q0 q1 q2 q3 fk fc rd rc rv sh sle sla bg hd tr) H := hP
        have hD : va_D (AW (adM ad)) (wM cI ad fa n fo ki st we lo a4 rch q0 q1 q2 q3 fk fc rd rc rv sh sle sla bg hd tr) := hD
        refine xtop (x' := w9) (by exact hw9.symm) ?_
        refine lv_istore (lv' := [(5, .int w9), (4, .int s9), (3, .int (cdF (textA bg u) c1 (ra + 1))), (0, .ref (ad 0)), (1, .int (nI u)), (2, .int (nI c1))]) hx hb dX3_readsChair_91 hl (by decide) rfl (fun ls hl => ?_)
        refine lv_aload_n hx hb dX3_readsChair_93 rfl (lv_at hl 3 rfl) ?_
        refine lv_iload_n hx hb dX3_readsChair_94 rfl (lv_at hl 4 rfl) ?_
        refine lv_iload_n hx hb dX3_readsChair_95 rfl (lv_at hl 5 rfl) ?_
        refine lv_iload hx hb dX3_readsChair_96 (lv_at hl 0 rfl) ?_
        refine lv_iconst (v := nI 0) hx hb dX3_readsChair_98 (by decide) ?_
        refine lv_iconst (v := nI 3) hx hb dX3_readsChair_99 (by decide) ?_
        refine xmuW (va_runV (As := [.int (nI u), .int (nI c1), .int w9, .int (nI 0), .int (nI 3)]) (rest := []) hF (c_X3_figure l D cI cS ad fa n fo ki st we lo a4 rch q0 q1 q2 q3 fk fc rd rc rv sh sle sla bg hd tr u c1 w9 0 3 hnd (by first | assumption | omega) (by first | assumption | omega) (by first | assumption | omega) (by first | assumption | omega)) (cwV 5 hts gX3_readsChair_X3_figure rfl rfl rfl hV_X3_figure ⟨Nat.le_of_ble_eq_true rfl, Nat.le_of_ble_eq_true rfl⟩) (PR.preV hG hP (ci := 3) rfl rfl) rfl rfl hl.1 rfl (lv_room (Nat.le_of_ble_eq_true rfl)) dX3_readsChair_100 ⟨Nat.le_refl _, Nat.le_refl _⟩) hD hS rfl (fun _ => rfl) (fun r_100 u_100 H locs q_100 hP hD hS => ?_)
        try dsimp only at q_100 hP hD
        have e_100 := q_100
        subst e_100
        have hP : va_P D vwCl (wM cI ad fa n fo ki st we lo (fgR (textA bg u) c1 a4 w9 0 3) rch q0 q1 q2 q3 fk fc rd rc rv sh sle sla bg hd tr) H := hP
        have hD : va_D (AW (adM ad)) (wM cI ad fa n fo ki st we lo (fgR (textA bg u) c1 a4 w9 0 3) rch q0 q1 q2 q3 fk fc rd rc rv sh sle sla bg hd tr) := hD
        obtain ⟨f9, hf9⟩ : ∃ z, z = fgV (textA bg u) c1 a4 w9 0 3 := ⟨_, rfl⟩
        have ha5l : fgR (textA bg u) c1 a4 w9 0 3 ≤ a4 + 1 := fgR_le
        obtain ⟨a5, ha5⟩ : ∃ z, z = fgR (textA bg u) c1 a4 w9 0 3 := ⟨_, rfl⟩
        rw [← ha5] at hP hD ha5l
        have hP : va_P D vwCl (wM cI ad fa n fo ki st we lo a5 rch q0 q1 q2 q3 fk fc rd rc rv sh sle sla bg hd tr) H := hP
        have hD : va_D (AW (adM ad)) (wM cI ad fa n fo ki st we lo a5 rch q0 q1 q2 q3 fk fc rd rc rv sh sle sla bg hd tr) := hD
        refine xtop (x' := f9) (by exact hf9.symm) ?_
        refine lv_istore (lv' := [(6, .int f9), (5, .int w9), (4, .int s9), (3, .int (cdF (textA bg u) c1 (ra + 1))), (0, .ref (ad 0)), (1, .int (nI u)), (2, .int (nI c1))]) hx hb dX3_readsChair_103 hl (by decide) rfl (fun ls hl => ?_)
        refine lv_aload_n hx hb dX3_readsChair_105 rfl (lv_at hl 4 rfl) ?_
        refine va_get (D := D) (ci := 3) (v := .ref (ad 5)) (C := RX3) (T := TX3) (N := 23) hx hb yX3 (fun _ h => h) hown hG.1 hP 0 rfl rfl 9 (by decide) f22 (fun _ h => h) rfl dX3_readsChair_106 ?_
        refine lv_aload_n hx hb dX3_readsChair_109 rfl (lv_at hl 4 rfl) ?_
        refine va_get (D := D) (ci := 3) (v := .int (nI rch)) (C := RX3) (T := TX3) (N := 23) hx hb yX3 (fun _ h => h) hown hG.1 hP 0 rfl rfl 8 (by decide) f79 (fun _ h => h) rfl dX3_readsChair_110 ?_
        refine lv_iload_n hx hb dX3_readsChair_113 rfl (lv_at hl 3 rfl) ?_
        refine lv_bipush (v := nI 112) hx hb dX3_readsChair_114 (by decide) ?_
        refine lv_icmp_ne (tgt := 123) hx hb dX3_readsChair_116 (by decide) (fun c_116 => ?_) (fun c_116 => ?_)
        ·
          exact absurd c_42 c_116
        ·
          refine lv_iconst (v := nI 0) hx hb dX3_readsChair_119 (by decide) ?_
          refine lv_goto (tgt := 134) hx hb dX3_readsChair_120 (by decide) ?_
          refine xast hx hb hG hP hD hS 5 rfl (rch) rfl (by omega) (by decide) dX3_readsChair_134 (fun H locs hP hD hS => ?_)
          have hP : va_P D vwCl (wM cI ad fa n fo ki st we lo a5 rch (upd q0 rch (nI 0)) q1 q2 q3 fk fc rd rc rv sh sle sla bg hd tr) H := hP
          have hD : va_D (AW (adM ad)) (wM cI ad fa n fo ki st we lo a5 rch (upd q0 rch (nI 0)) q1 q2 q3 fk fc rd rc rv sh sle sla bg hd tr) := hD
          refine lv_aload_n hx hb dX3_readsChair_135 rfl (lv_at hl 4 rfl) ?_
          refine va_get (D := D) (ci := 3) (v := .ref (ad 6)) (C := RX3) (T := TX3) (N := 23) hx hb yX3 (fun _ h => h) hown hG.1 hP 0 rfl rfl 10 (by decide) f25 (fun _ h => h) rfl dX3_readsChair_136 ?_
          refine lv_aload_n hx hb dX3_readsChair_139 rfl (lv_at hl 4 rfl) ?_
          refine va_get (D := D) (ci := 3) (v := .int (nI rch)) (C := RX3) (T := TX3) (N := 23) hx hb yX3 (fun _ h => h) hown hG.1 hP 0 rfl rfl 8 (by decide) f79 (fun _ h => h) rfl dX3_readsChair_140 ?_
          refine lv_iload hx hb dX3_readsChair_143 (lv_at hl 2 rfl) ?_
          refine xast hx hb hG hP hD hS 6 rfl (rch) rfl (by omega) (by decide) dX3_readsChair_145 (fun H locs hP hD hS => ?_)
          have hP : va_P D vwCl (wM cI ad fa n fo ki st we lo a5 rch (upd q0 rch (nI 0)) (upd q1 rch s9) q2 q3 fk fc rd rc rv sh sle sla bg hd tr) H := hP
          have hD : va_D (AW (adM ad)) (wM cI ad fa n fo ki st we lo a5 rch (upd q0 rch (nI 0)) (upd q1 rch s9) q2 q3 fk fc rd rc rv sh sle sla bg hd tr) := hD
          refine lv_aload_n hx hb dX3_readsChair_146 rfl (lv_at hl 4 rfl) ?_
          refine va_get (D := D) (ci := 3) (v := .ref (ad 7)) (C := RX3) (T := TX3) (N := 23) hx hb yX3 (fun _ h => h) hown hG.1 hP 0 rfl rfl 11 (by decide) f28 (fun _ h => h) rfl dX3_readsChair_147 ?_
          refine lv_aload_n hx hb dX3_readsChair_150 rfl (lv_at hl 4 rfl) ?_
          refine va_get (D := D) (ci := 3) (v := .int (nI rch)) (C := RX3) (T := TX3) (N := 23) hx hb yX3 (fun _ h => h) hown hG.1 hP 0 rfl rfl 8 (by decide) f79 (fun _ h => h) rfl dX3_readsChair_151 ?_
          refine lv_iload hx hb dX3_readsChair_154 (lv_at hl 1 rfl) ?_
          refine xast hx hb hG hP hD hS 7 rfl (rch) rfl (by omega) (by decide) dX3_readsChair_156 (fun H locs hP hD hS => ?_)
          have hP : va_P D vwCl (wM cI ad fa n fo ki st we lo a5 rch (upd q0 rch (nI 0)) (upd q1 rch s9) (upd q2 rch w9) q3 fk fc rd rc rv sh sle sla bg hd tr) H := hP
          have hD : va_D (AW (adM ad)) (wM cI ad fa n fo ki st we lo a5 rch (upd q0 rch (nI 0)) (upd q1 rch s9) (upd q2 rch w9) q3 fk fc rd rc rv sh sle sla bg hd tr) := hD
          refine lv_aload_n hx hb dX3_readsChair_157 rfl (lv_at hl 4 rfl) ?_
          refine va_get (D := D) (ci := 3) (v := .ref (ad 8)) (C := RX3) (T := TX3) (N := 23) hx hb yX3 (fun _ h => h) hown hG.1 hP 0 rfl rfl 12 (by decide) f31 (fun _ h => h) rfl dX3_readsChair_158 ?_
          refine lv_aload_n hx hb dX3_readsChair_161 rfl (lv_at hl 4 rfl) ?_
          refine va_get (D := D) (ci := 3) (v := .int (nI rch)) (C := RX3) (T := TX3) (N := 23) hx hb yX3 (fun _ h => h) hown hG.1 hP 0 rfl rfl 8 (by decide) f79 (fun _ h => h) rfl dX3_readsChair_162 ?_
          refine lv_iload hx hb dX3_readsChair_165 (lv_at hl 0 rfl) ?_
          refine xast hx hb hG hP hD hS 8 rfl (rch) rfl (by omega) (by decide) dX3_readsChair_167 (fun H locs hP hD hS => ?_)
          have hP : va_P D vwCl (wM cI ad fa n fo ki st we lo a5 rch (upd q0 rch (nI 0)) (upd q1 rch s9) (upd q2 rch w9) (upd q3 rch f9) fk fc rd rc rv sh sle sla bg hd tr) H := hP
          have hD : va_D (AW (adM ad)) (wM cI ad fa n fo ki st we lo a5 rch (upd q0 rch (nI 0)) (upd q1 rch s9) (upd q2 rch w9) (upd q3 rch f9) fk fc rd rc rv sh sle sla bg hd tr) := hD
          refine lv_aload_n hx hb dX3_readsChair_168 rfl (lv_at hl 4 rfl) ?_
          refine lv_dup hx hb dX3_readsChair_169 rfl ?_
          refine va_get (D := D) (ci := 3) (v := .int (nI rch)) (C := RX3) (T := TX3) (N := 23) hx hb yX3 (fun _ h => h) hown hG.1 hP 0 rfl rfl 8 (by decide) f79 (fun _ h => h) rfl dX3_readsChair_170 ?_
          refine lv_iconst (v := nI 1) hx hb dX3_readsChair_173 (by decide) ?_
          refine xaddN hx hb dX3_readsChair_174 ?_
          refine va_put (D := D) (ci := 3) (v := .int (nI (rch + 1))) (ty := .int) (C := RX3) (T := TX3) (N := 23) hx hb yX3 (fun _ h => h) tyX3 tyX3_ok nmX3 hown hG.1 hP hD hS 0 rfl rfl 8 (by decide) f79 (fun _ h => h) rfl (by decide +kernel) rfl rfl (Nat.le_of_ble_eq_true rfl) dX3_readsChair_175 (fun H locs hP hD hS => ?_)
          have hP : va_P D vwCl (wM cI ad fa n fo ki st we lo a5 (rch + 1) (upd q0 rch (nI 0)) (upd q1 rch s9) (upd q2 rch w9) (upd q3 rch f9) fk fc rd rc rv sh sle sla bg hd tr) H := hP
          have hD : va_D (AW (adM ad)) (wM cI ad fa n fo ki st we lo a5 (rch + 1) (upd q0 rch (nI 0)) (upd q1 rch s9) (upd q2 rch w9) (upd q3 rch f9) fk fc rd rc rv sh sle sla bg hd tr) := hD
          refine lv_iload hx hb dX3_readsChair_178 (lv_at hl 0 rfl) ?_
          refine lv_if_lt (tgt := 187) hx hb dX3_readsChair_180 (by decide) (fun c_180 => ?_) (fun c_180 => ?_)
          ·
            replace c_180 : f9.toInt < 0 := (i32_ltc (b := 0) (by omega)).mp c_180
            refine lv_iconst (v := nI 0) hx hb dX3_readsChair_187 (by decide) ?_
            exact xretMz hx hb hr hlk dX3_readsChair_188 hS (false) rfl ⟨false, a5, rch + 1, upd q0 rch (nI 0), upd q1 rch s9, upd q2 rch w9, upd q3 rch f9⟩ (by exact ⟨rfl, rc_no2 (kv := 0) hm c_6 hra hU c_17 (Or.inl ⟨c_42, rfl⟩) hs9 ha3 hw9 ha4 hf9 ha5 c_180⟩) (fun t ht => by rw [ht]; exact hP)
          ·
            replace c_180 : ¬ f9.toInt < 0 := (not_congr (i32_ltc (b := 0) (by omega))).mp c_180
            refine lv_iconst (v := nI 1) hx hb dX3_readsChair_183 (by decide) ?_
            refine lv_goto (tgt := 188) hx hb dX3_readsChair_184 (by decide) ?_
            exact xretMz hx hb hr hlk dX3_readsChair_188 hS (true) rfl ⟨true, a5, rch + 1, upd q0 rch (nI 0), upd q1 rch s9, upd q2 rch w9, upd q3 rch f9⟩ (by exact ⟨rfl, rc_y (kv := 0) hm c_6 hra hU c_17 (Or.inl ⟨c_42, rfl⟩) hs9 ha3 hw9 ha4 hf9 ha5 c_180⟩) (fun t ht => by rw [ht]; exact hP)
      ·
        refine lv_iload_n hx hb dX3_readsChair_45 rfl (lv_at hl 0 rfl) ?_
        refine lv_bipush (v := nI 115) hx hb dX3_readsChair_46 (by decide) ?_
        refine lv_icmp_eq (tgt := 59) hx hb dX3_readsChair_48 (by decide) (fun c_48 => ?_) (fun c_48 => ?_)
        ·
          refine lv_aload_n hx hb dX3_readsChair_59 rfl (lv_at hl 1 rfl) ?_
          refine lv_dup hx hb dX3_readsChair_60 rfl ?_
          refine va_get (D := D) (ci := 3) (v := .int (nI (ra + 1))) (C := RX3) (T := TX3) (N := 23) hx hb yX3 (fun _ h => h) hown hG.1 hP 0 rfl rfl 7 (by decide) f72 (fun _ h => h) rfl dX3_readsChair_61 ?_
          refine lv_iconst (v := nI 1) hx hb dX3_readsChair_64 (by decide) ?_
          refine xaddN hx hb dX3_readsChair_65 ?_
          refine va_put (D := D) (ci := 3) (v := .int (nI (ra + 1 + 1))) (ty := .int) (C := RX3) (T := TX3) (N := 23) hx hb yX3 (fun _ h => h) tyX3 tyX3_ok nmX3 hown hG.1 hP hD hS 0 rfl rfl 7 (by decide) f72 (fun _ h => h) rfl (by decide +kernel) rfl rfl (Nat.le_of_ble_eq_true rfl) dX3_readsChair_66 (fun H locs hP hD hS => ?_)
          have hP : va_P D vwCl (wM cI ad fa n fo ki st we lo (ra + 1 + 1) rch q0 q1 q2 q3 fk fc rd rc rv sh sle sla bg hd tr) H := hP
          have hD : va_D (AW (adM ad)) (wM cI ad fa n fo ki st we lo (ra + 1 + 1) rch q0 q1 q2 q3 fk fc rd rc rv sh sle sla bg hd tr) := hD
          refine lv_aload_n hx hb dX3_readsChair_69 rfl (lv_at hl 1 rfl) ?_
          refine lv_iload_n hx hb dX3_readsChair_70 rfl (lv_at hl 2 rfl) ?_
          refine lv_iload_n hx hb dX3_readsChair_71 rfl (lv_at hl 3 rfl) ?_
          refine lv_iconst (v := nI 0) hx hb dX3_readsChair_72 (by decide) ?_
          refine lv_iconst (v := nI 0) hx hb dX3_readsChair_73 (by decide) ?_
          refine lv_iconst (v := nI 3) hx hb dX3_readsChair_74 (by decide) ?_
          refine xmuW (va_runV (As := [.int (nI u), .int (nI c1), .int (nI 0), .int (nI 0), .int (nI 3)]) (rest := []) hF (c_X3_figure l D cI cS ad fa n fo ki st we lo (ra + 1 + 1) rch q0 q1 q2 q3 fk fc rd rc rv sh sle sla bg hd tr u c1 (nI 0) 0 3 hnd (by first | assumption | omega) (by first | assumption | omega) (by first | assumption | omega) (by first | assumption | omega)) (cwV 5 hts gX3_readsChair_X3_figure rfl rfl rfl hV_X3_figure ⟨Nat.le_of_ble_eq_true rfl, Nat.le_of_ble_eq_true rfl⟩) (PR.preV hG hP (ci := 3) rfl rfl) rfl rfl hl.1 rfl (lv_room (Nat.le_of_ble_eq_true rfl)) dX3_readsChair_75 ⟨Nat.le_refl _, Nat.le_refl _⟩) hD hS rfl (fun _ => rfl) (fun r_75 u_75 H locs q_75 hP hD hS => ?_)
          try dsimp only at q_75 hP hD
          have e_75 := q_75
          subst e_75
          have hP : va_P D vwCl (wM cI ad fa n fo ki st we lo (fgR (textA bg u) c1 (ra + 1 + 1) (nI 0) 0 3) rch q0 q1 q2 q3 fk fc rd rc rv sh sle sla bg hd tr) H := hP
          have hD : va_D (AW (adM ad)) (wM cI ad fa n fo ki st we lo (fgR (textA bg u) c1 (ra + 1 + 1) (nI 0) 0 3) rch q0 q1 q2 q3 fk fc rd rc rv sh sle sla bg hd tr) := hD
          obtain ⟨s9, hs9⟩ : ∃ z, z = fgV (textA bg u) c1 (ra + 1 + 1) (nI 0) 0 3 := ⟨_, rfl⟩
          have ha3l : fgR (textA bg u) c1 (ra + 1 + 1) (nI 0) 0 3 ≤ ra + 1 + 1 + 1 := fgR_le
          obtain ⟨a3, ha3⟩ : ∃ z, z = fgR (textA bg u) c1 (ra + 1 + 1) (nI 0) 0 3 := ⟨_, rfl⟩
          rw [← ha3] at hP hD ha3l
          have hP : va_P D vwCl (wM cI ad fa n fo ki st we lo a3 rch q0 q1 q2 q3 fk fc rd rc rv sh sle sla bg hd tr) H := hP
          have hD : va_D (AW (adM ad)) (wM cI ad fa n fo ki st we lo a3 rch q0 q1 q2 q3 fk fc rd rc rv sh sle sla bg hd tr) := hD
          refine xtop (x' := s9) (by exact hs9.symm) ?_
          refine lv_istore (lv' := [(4, .int s9), (3, .int (cdF (textA bg u) c1 (ra + 1))), (0, .ref (ad 0)), (1, .int (nI u)), (2, .int (nI c1))]) hx hb dX3_readsChair_78 hl (by decide) rfl (fun ls hl => ?_)
          refine lv_aload_n hx hb dX3_readsChair_80 rfl (lv_at hl 2 rfl) ?_
          refine lv_iload_n hx hb dX3_readsChair_81 rfl (lv_at hl 3 rfl) ?_
          refine lv_iload_n hx hb dX3_readsChair_82 rfl (lv_at hl 4 rfl) ?_
          refine lv_iload hx hb dX3_readsChair_83 (lv_at hl 0 rfl) ?_
          refine lv_iconst (v := nI 1) hx hb dX3_readsChair_85 (by decide) ?_
          refine lv_bipush (v := nI 9) hx hb dX3_readsChair_86 (by decide) ?_
          refine xmuW (va_runV (As := [.int (nI u), .int (nI c1), .int s9, .int (nI 1), .int (nI 9)]) (rest := []) hF (c_X3_figure l D cI cS ad fa n fo ki st we lo a3 rch q0 q1 q2 q3 fk fc rd rc rv sh sle sla bg hd tr u c1 s9 1 9 hnd (by first | assumption | omega) (by first | assumption | omega) (by first | assumption | omega) (by first | assumption | omega)) (cwV 5 hts gX3_readsChair_X3_figure rfl rfl rfl hV_X3_figure ⟨Nat.le_of_ble_eq_true rfl, Nat.le_of_ble_eq_true rfl⟩) (PR.preV hG hP (ci := 3) rfl rfl) rfl rfl hl.1 rfl (lv_room (Nat.le_of_ble_eq_true rfl)) dX3_readsChair_88 ⟨Nat.le_refl _, Nat.le_refl _⟩) hD hS rfl (fun _ => rfl) (fun r_88 u_88 H locs q_88 hP hD hS => ?_)
          try dsimp only at q_88 hP hD
          have e_88 := q_88
          subst e_88
          have hP : va_P D vwCl (wM cI ad fa n fo ki st we lo (fgR (textA bg u) c1 a3 s9 1 9) rch q0 q1 q2 q3 fk fc rd rc rv sh sle sla bg hd tr) H := hP
          have hD : va_D (AW (adM ad)) (wM cI ad fa n fo ki st we lo (fgR (textA bg u) c1 a3 s9 1 9) rch q0 q1 q2 q3 fk fc rd rc rv sh sle sla bg hd tr) := hD
          obtain ⟨w9, hw9⟩ : ∃ z, z = fgV (textA bg u) c1 a3 s9 1 9 := ⟨_, rfl⟩
          have ha4l : fgR (textA bg u) c1 a3 s9 1 9 ≤ a3 + 1 := fgR_le
          obtain ⟨a4, ha4⟩ : ∃ z, z = fgR (textA bg u) c1 a3 s9 1 9 := ⟨_, rfl⟩
          rw [← ha4] at hP hD ha4l
          have hP : va_P D vwCl (wM cI ad fa n fo ki st we lo a4 rch q0 q1 q2 q3 fk fc rd rc rv sh sle sla bg hd tr) H := hP
          have hD : va_D (AW (adM ad)) (wM cI ad fa n fo ki st we lo a4 rch q0 q1 q2 q3 fk fc rd rc rv sh sle sla bg hd tr) := hD
          refine xtop (x' := w9) (by exact hw9.symm) ?_
          refine lv_istore (lv' := [(5, .int w9), (4, .int s9), (3, .int (cdF (textA bg u) c1 (ra + 1))), (0, .ref (ad 0)), (1, .int (nI u)), (2, .int (nI c1))]) hx hb dX3_readsChair_91 hl (by decide) rfl (fun ls hl => ?_)
          refine lv_aload_n hx hb dX3_readsChair_93 rfl (lv_at hl 3 rfl) ?_
          refine lv_iload_n hx hb dX3_readsChair_94 rfl (lv_at hl 4 rfl) ?_
          refine lv_iload_n hx hb dX3_readsChair_95 rfl (lv_at hl 5 rfl) ?_
          refine lv_iload hx hb dX3_readsChair_96 (lv_at hl 0 rfl) ?_
          refine lv_iconst (v := nI 0) hx hb dX3_readsChair_98 (by decide) ?_
          refine lv_iconst (v := nI 3) hx hb dX3_readsChair_99 (by decide) ?_
          refine xmuW (va_runV (As := [.int (nI u), .int (nI c1), .int w9, .int (nI 0), .int (nI 3)]) (rest := []) hF (c_X3_figure l D cI cS ad fa n fo ki st we lo a4 rch q0 q1 q2 q3 fk fc rd rc rv sh sle sla bg hd tr u c1 w9 0 3 hnd (by first | assumption | omega) (by first | assumption | omega) (by first | assumption | omega) (by first | assumption | omega)) (cwV 5 hts gX3_readsChair_X3_figure rfl rfl rfl hV_X3_figure ⟨Nat.le_of_ble_eq_true rfl, Nat.le_of_ble_eq_true rfl⟩) (PR.preV hG hP (ci := 3) rfl rfl) rfl rfl hl.1 rfl (lv_room (Nat.le_of_ble_eq_true rfl)) dX3_readsChair_100 ⟨Nat.le_refl _, Nat.le_refl _⟩) hD hS rfl (fun _ => rfl) (fun r_100 u_100 H locs q_100 hP hD hS => ?_)
          try dsimp only at q_100 hP hD
          have e_100 := q_100
          subst e_100
          have hP : va_P D vwCl (wM cI ad fa n fo ki st we lo (fgR (textA bg u) c1 a4 w9 0 3) rch q0 q1 q2 q3 fk fc rd rc rv sh sle sla bg hd tr) H := hP
          have hD : va_D (AW (adM ad)) (wM cI ad fa n fo ki st we lo (fgR (textA bg u) c1 a4 w9 0 3) rch q0 q1 q2 q3 fk fc rd rc rv sh sle sla bg hd tr) := hD
          obtain ⟨f9, hf9⟩ : ∃ z, z = fgV (textA bg u) c1 a4 w9 0 3 := ⟨_, rfl⟩
          have ha5l : fgR (textA bg u) c1 a4 w9 0 3 ≤ a4 + 1 := fgR_le
          obtain ⟨a5, ha5⟩ : ∃ z, z = fgR (textA bg u) c1 a4 w9 0 3 := ⟨_, rfl⟩
          rw [← ha5] at hP hD ha5l
          have hP : va_P D vwCl (wM cI ad fa n fo ki st we lo a5 rch q0 q1 q2 q3 fk fc rd rc rv sh sle sla bg hd tr) H := hP
          have hD : va_D (AW (adM ad)) (wM cI ad fa n fo ki st we lo a5 rch q0 q1 q2 q3 fk fc rd rc rv sh sle sla bg hd tr) := hD
          refine xtop (x' := f9) (by exact hf9.symm) ?_
          refine lv_istore (lv' := [(6, .int f9), (5, .int w9), (4, .int s9), (3, .int (cdF (textA bg u) c1 (ra + 1))), (0, .ref (ad 0)), (1, .int (nI u)), (2, .int (nI c1))]) hx hb dX3_readsChair_103 hl (by decide) rfl (fun ls hl => ?_)
          refine lv_aload_n hx hb dX3_readsChair_105 rfl (lv_at hl 4 rfl) ?_
          refine va_get (D := D) (ci := 3) (v := .ref (ad 5)) (C := RX3) (T := TX3) (N := 23) hx hb yX3 (fun _ h => h) hown hG.1 hP 0 rfl rfl 9 (by decide) f22 (fun _ h => h) rfl dX3_readsChair_106 ?_
          refine lv_aload_n hx hb dX3_readsChair_109 rfl (lv_at hl 4 rfl) ?_
          refine va_get (D := D) (ci := 3) (v := .int (nI rch)) (C := RX3) (T := TX3) (N := 23) hx hb yX3 (fun _ h => h) hown hG.1 hP 0 rfl rfl 8 (by decide) f79 (fun _ h => h) rfl dX3_readsChair_110 ?_
          refine lv_iload_n hx hb dX3_readsChair_113 rfl (lv_at hl 3 rfl) ?_
          refine lv_bipush (v := nI 112) hx hb dX3_readsChair_114 (by decide) ?_
          refine lv_icmp_ne (tgt := 123) hx hb dX3_readsChair_116 (by decide) (fun c_116 => ?_) (fun c_116 => ?_)
          ·
            refine lv_iload_n hx hb dX3_readsChair_123 rfl (lv_at hl 3 rfl) ?_
            refine lv_bipush (v := nI 115) hx hb dX3_readsChair_124 (by decide) ?_
            refine lv_icmp_ne (tgt := 133) hx hb dX3_readsChair_126 (by decide) (fun c_126 => ?_) (fun c_126 => ?_)
            ·
              exact absurd c_48 c_126
            ·
              refine lv_iconst (v := nI 1) hx hb dX3_readsChair_129 (by decide) ?_
              refine lv_goto (tgt := 134) hx hb dX3_readsChair_130 (by decide) ?_
              refine xast hx hb hG hP hD hS 5 rfl (rch) rfl (by omega) (by decide) dX3_readsChair_134 (fun H locs hP hD hS => ?_)
              have hP : va_P D vwCl (wM cI ad fa n fo ki st we lo a5 rch (upd q0 rch (nI 1)) q1 q2 q3 fk fc rd rc rv sh sle sla bg hd tr) H := hP
              have hD : va_D (AW (adM ad)) (wM cI ad fa n fo ki st we lo a5 rch (upd q0 rch (nI 1)) q1 q2 q3 fk fc rd rc rv sh sle sla bg hd tr) := hD
              refine lv_aload_n hx hb dX3_readsChair_135 rfl (lv_at hl 4 rfl) ?_
              refine va_get (D := D) (ci := 3) (v := .ref (ad 6)) (C := RX3) (T := TX3) (N := 23) hx hb yX3 (fun _ h => h) hown hG.1 hP 0 rfl rfl 10 (by decide) f25 (fun _ h => h) rfl dX3_readsChair_136 ?_
              refine lv_aload_n hx hb dX3_readsChair_139 rfl (lv_at hl 4 rfl) ?_
              refine va_get (D := D) (ci := 3) (v := .int (nI rch)) (C := RX3) (T := TX3) (N := 23) hx hb yX3 (fun _ h => h) hown hG.1 hP 0 rfl rfl 8 (by decide) f79 (fun _ h => h) rfl dX3_readsChair_140 ?_
              refine lv_iload hx hb dX3_readsChair_143 (lv_at hl 2 rfl) ?_
              refine xast hx hb hG hP hD hS 6 rfl (rch) rfl (by omega) (by decide) dX3_readsChair_145 (fun H locs hP hD hS => ?_)
              have hP : va_P D vwCl (wM cI ad fa n fo ki st we lo a5 rch (upd q0 rch (nI 1)) (upd q1 rch s9) q2 q3 fk fc rd rc rv sh sle sla bg hd tr) H := hP
              have hD : va_D (AW (adM ad)) (wM cI ad fa n fo ki st we lo a5 rch (upd q0 rch (nI 1)) (upd q1 rch s9) q2 q3 fk fc rd rc rv sh sle sla bg hd tr) := hD
              refine lv_aload_n hx hb dX3_readsChair_146 rfl (lv_at hl 4 rfl) ?_
              refine va_get (D := D) (ci := 3) (v := .ref (ad 7)) (C := RX3) (T := TX3) (N := 23) hx hb yX3 (fun _ h => h) hown hG.1 hP 0 rfl rfl 11 (by decide) f28 (fun _ h => h) rfl dX3_readsChair_147 ?_
              refine lv_aload_n hx hb dX3_readsChair_150 rfl (lv_at hl 4 rfl) ?_
              refine va_get (D := D) (ci := 3) (v := .int (nI rch)) (C := RX3) (T := TX3) (N := 23) hx hb yX3 (fun _ h => h) hown hG.1 hP 0 rfl rfl 8 (by decide) f79 (fun _ h => h) rfl dX3_readsChair_151 ?_
              refine lv_iload hx hb dX3_readsChair_154 (lv_at hl 1 rfl) ?_
              refine xast hx hb hG hP hD hS 7 rfl (rch) rfl (by omega) (by decide) dX3_readsChair_156 (fun H locs hP hD hS => ?_)
              have hP : va_P D vwCl (wM cI ad fa n fo ki st we lo a5 rch (upd q0 rch (nI 1)) (upd q1 rch s9) (upd q2 rch w9) q3 fk fc rd rc rv sh sle sla bg hd tr) H := hP
              have hD : va_D (AW (adM ad)) (wM cI ad fa n fo ki st we lo a5 rch (upd q0 rch (nI 1)) (upd q1 rch s9) (upd q2 rch w9) q3 fk fc rd rc rv sh sle sla bg hd tr) := hD
              refine lv_aload_n hx hb dX3_readsChair_157 rfl (lv_at hl 4 rfl) ?_
              refine va_get (D := D) (ci := 3) (v := .ref (ad 8)) (C := RX3) (T := TX3) (N := 23) hx hb yX3 (fun _ h => h) hown hG.1 hP 0 rfl rfl 12 (by decide) f31 (fun _ h => h) rfl dX3_readsChair_158 ?_
              refine lv_aload_n hx hb dX3_readsChair_161 rfl (lv_at hl 4 rfl) ?_
              refine va_get (D := D) (ci := 3) (v := .int (nI rch)) (C := RX3) (T := TX3) (N := 23) hx hb yX3 (fun _ h => h) hown hG.1 hP 0 rfl rfl 8 (by decide) f79 (fun _ h => h) rfl dX3_readsChair_162 ?_
              refine lv_iload hx hb dX3_readsChair_165 (lv_at hl 0 rfl) ?_
              refine xast hx hb hG hP hD hS 8 rfl (rch) rfl (by omega) (by decide) dX3_readsChair_167 (fun H locs hP hD hS => ?_)
              have hP : va_P D vwCl (wM cI ad fa n fo ki st we lo a5 rch (upd q0 rch (nI 1)) (upd q1 rch s9) (upd q2 rch w9) (upd q3 rch f9) fk fc rd rc rv sh sle sla bg hd tr) H := hP
              have hD : va_D (AW (adM ad)) (wM cI ad fa n fo ki st we lo a5 rch (upd q0 rch (nI 1)) (upd q1 rch s9) (upd q2 rch w9) (upd q3 rch f9) fk fc rd rc rv sh sle sla bg hd tr) := hD
              refine lv_aload_n hx hb dX3_readsChair_168 rfl (lv_at hl 4 rfl) ?_
              refine lv_dup hx hb dX3_readsChair_169 rfl ?_
              refine va_get (D := D) (ci := 3) (v := .int (nI rch)) (C := RX3) (T := TX3) (N := 23) hx hb yX3 (fun _ h => h) hown hG.1 hP 0 rfl rfl 8 (by decide) f79 (fun _ h => h) rfl dX3_readsChair_170 ?_
              refine lv_iconst (v := nI 1) hx hb dX3_readsChair_173 (by decide) ?_
              refine xaddN hx hb dX3_readsChair_174 ?_
              refine va_put (D := D) (ci := 3) (v := .int (nI (rch + 1))) (ty := .int) (C := RX3) (T := TX3) (N := 23) hx hb yX3 (fun _ h => h) tyX3 tyX3_ok nmX3 hown hG.1 hP hD hS 0 rfl rfl 8 (by decide) f79 (fun _ h => h) rfl (by decide +kernel) rfl rfl (Nat.le_of_ble_eq_true rfl) dX3_readsChair_175 (fun H locs hP hD hS => ?_)
              have hP : va_P D vwCl (wM cI ad fa n fo ki st we lo a5 (rch + 1) (upd q0 rch (nI 1)) (upd q1 rch s9) (upd q2 rch w9) (upd q3 rch f9) fk fc rd rc rv sh sle sla bg hd tr) H := hP
              have hD : va_D (AW (adM ad)) (wM cI ad fa n fo ki st we lo a5 (rch + 1) (upd q0 rch (nI 1)) (upd q1 rch s9) (upd q2 rch w9) (upd q3 rch f9) fk fc rd rc rv sh sle sla bg hd tr) := hD
              refine lv_iload hx hb dX3_readsChair_178 (lv_at hl 0 rfl) ?_
              refine lv_if_lt (tgt := 187) hx hb dX3_readsChair_180 (by decide) (fun c_180 => ?_) (fun c_180 => ?_)
              ·
                replace c_180 : f9.toInt < 0 := (i32_ltc (b := 0) (by omega)).mp c_180
                refine lv_iconst (v := nI 0) hx hb dX3_readsChair_187 (by decide) ?_
                exact xretMz hx hb hr hlk dX3_readsChair_188 hS (false) rfl ⟨false, a5, rch + 1, upd q0 rch (nI 1), upd q1 rch s9, upd q2 rch w9, upd q3 rch f9⟩ (by exact ⟨rfl, rc_no2 (kv := 1) hm c_6 hra hU c_17 (Or.inr (Or.inl ⟨c_48, rfl⟩)) hs9 ha3 hw9 ha4 hf9 ha5 c_180⟩) (fun t ht => by rw [ht]; exact hP)
              ·
                replace c_180 : ¬ f9.toInt < 0 := (not_congr (i32_ltc (b := 0) (by omega))).mp c_180
                refine lv_iconst (v := nI 1) hx hb dX3_readsChair_183 (by decide) ?_
                refine lv_goto (tgt := 188) hx hb dX3_readsChair_184 (by decide) ?_
                exact xretMz hx hb hr hlk dX3_readsChair_188 hS (true) rfl ⟨true, a5, rch + 1, upd q0 rch (nI 1), upd q1 rch s9, upd q2 rch w9, upd q3 rch f9⟩ (by exact ⟨rfl, rc_y (kv := 1) hm c_6 hra hU c_17 (Or.inr (Or.inl ⟨c_48, rfl⟩)) hs9 ha3 hw9 ha4 hf9 ha5 c_180⟩) (fun t ht => by rw [ht]; exact hP)
          ·
            exact absurd c_116 c_42
        ·
          refine lv_iload_n hx hb dX3_readsChair_51 rfl (lv_at hl 0 rfl) ?_
          refine lv_bipush (v := nI 98) hx hb dX3_readsChair_52 (by decide) ?_
          refine lv_icmp_eq (tgt := 59) hx hb dX3_readsChair_54 (by decide) (fun c_54 => ?_) (fun c_54 => ?_)
          ·
            refine lv_aload_n hx hb dX3_readsChair_59 rfl (lv_at hl 1 rfl) ?_
            refine lv_dup hx hb dX3_readsChair_60 rfl ?_
            refine va_get (D := D) (ci := 3) (v := .int (nI (ra + 1))) (C := RX3) (T := TX3) (N := 23) hx hb yX3 (fun _ h => h) hown hG.1 hP 0 rfl rfl 7 (by decide) f72 (fun _ h => h) rfl dX3_readsChair_61 ?_
            refine lv_iconst (v := nI 1) hx hb dX3_readsChair_64 (by decide) ?_
            refine xaddN hx hb dX3_readsChair_65 ?_
            refine va_put (D := D) (ci := 3) (v := .int (nI (ra + 1 + 1))) (ty := .int) (C := RX3) (T := TX3) (N := 23) hx hb yX3 (fun _ h => h) tyX3 tyX3_ok nmX3 hown hG.1 hP hD hS 0 rfl rfl 7 (by decide) f72 (fun _ h => h) rfl (by decide +kernel) rfl rfl (Nat.le_of_ble_eq_true rfl) dX3_readsChair_66 (fun H locs hP hD hS => ?_)
            have hP : va_P D vwCl (wM cI ad fa n fo ki st we lo (ra + 1 + 1) rch q0 q1 q2 q3 fk fc rd rc rv sh sle sla bg hd tr) H := hP
            have hD : va_D (AW (adM ad)) (wM cI ad fa n fo ki st we lo (ra + 1 + 1) rch q0 q1 q2 q3 fk fc rd rc rv sh sle sla bg hd tr) := hD
            refine lv_aload_n hx hb dX3_readsChair_69 rfl (lv_at hl 1 rfl) ?_
            refine lv_iload_n hx hb dX3_readsChair_70 rfl (lv_at hl 2 rfl) ?_
            refine lv_iload_n hx hb dX3_readsChair_71 rfl (lv_at hl 3 rfl) ?_
            refine lv_iconst (v := nI 0) hx hb dX3_readsChair_72 (by decide) ?_
            refine lv_iconst (v := nI 0) hx hb dX3_readsChair_73 (by decide) ?_
            refine lv_iconst (v := nI 3) hx hb dX3_readsChair_74 (by decide) ?_
            refine xmuW (va_runV (As := [.int (nI u), .int (nI c1), .int (nI 0), .int (nI 0), .int (nI 3)]) (rest := []) hF (c_X3_figure l D cI cS ad fa n fo ki st we lo (ra + 1 + 1) rch q0 q1 q2 q3 fk fc rd rc rv sh sle sla bg hd tr u c1 (nI 0) 0 3 hnd (by first | assumption | omega) (by first | assumption | omega) (by first | assumption | omega) (by first | assumption | omega)) (cwV 5 hts gX3_readsChair_X3_figure rfl rfl rfl hV_X3_figure ⟨Nat.le_of_ble_eq_true rfl, Nat.le_of_ble_eq_true rfl⟩) (PR.preV hG hP (ci := 3) rfl rfl) rfl rfl hl.1 rfl (lv_room (Nat.le_of_ble_eq_true rfl)) dX3_readsChair_75 ⟨Nat.le_refl _, Nat.le_refl _⟩) hD hS rfl (fun _ => rfl) (fun r_75 u_75 H locs q_75 hP hD hS => ?_)
            try dsimp only at q_75 hP hD
            have e_75 := q_75
            subst e_75
            have hP : va_P D vwCl (wM cI ad fa n fo ki st we lo (fgR (textA bg u) c1 (ra + 1 + 1) (nI 0) 0 3) rch q0 q1 q2 q3 fk fc rd rc rv sh sle sla bg hd tr) H := hP
            have hD : va_D (AW (adM ad)) (wM cI ad fa n fo ki st we lo (fgR (textA bg u) c1 (ra + 1 + 1) (nI 0) 0 3) rch q0 q1 q2 q3 fk fc rd rc rv sh sle sla bg hd tr) := hD
            obtain ⟨s9, hs9⟩ : ∃ z, z = fgV (textA bg u) c1 (ra + 1 + 1) (nI 0) 0 3 := ⟨_, rfl⟩
            have ha3l : fgR (textA bg u) c1 (ra + 1 + 1) (nI 0) 0 3 ≤ ra + 1 + 1 + 1 := fgR_le
            obtain ⟨a3, ha3⟩ : ∃ z, z = fgR (textA bg u) c1 (ra + 1 + 1) (nI 0) 0 3 := ⟨_, rfl⟩
            rw [← ha3] at hP hD ha3l
            have hP : va_P D vwCl (wM cI ad fa n fo ki st we lo a3 rch q0 q1 q2 q3 fk fc rd rc rv sh sle sla bg hd tr) H := hP
            have hD : va_D (AW (adM ad)) (wM cI ad fa n fo ki st we lo a3 rch q0 q1 q2 q3 fk fc rd rc rv sh sle sla bg hd tr) := hD
            refine xtop (x' := s9) (by exact hs9.symm) ?_
            refine lv_istore (lv' := [(4, .int s9), (3, .int (cdF (textA bg u) c1 (ra + 1))), (0, .ref (ad 0)), (1, .int (nI u)), (2, .int (nI c1))]) hx hb dX3_readsChair_78 hl (by decide) rfl (fun ls hl => ?_)
            refine lv_aload_n hx hb dX3_readsChair_80 rfl (lv_at hl 2 rfl) ?_
            refine lv_iload_n hx hb dX3_readsChair_81 rfl (lv_at hl 3 rfl) ?_
            refine lv_iload_n hx hb dX3_readsChair_82 rfl (lv_at hl 4 rfl) ?_
            refine lv_iload hx hb dX3_readsChair_83 (lv_at hl 0 rfl) ?_
            refine lv_iconst (v := nI 1) hx hb dX3_readsChair_85 (by decide) ?_
            refine lv_bipush (v := nI 9) hx hb dX3_readsChair_86 (by decide) ?_
            refine xmuW (va_runV (As := [.int (nI u), .int (nI c1), .int s9, .int (nI 1), .int (nI 9)]) (rest := []) hF (c_X3_figure l D cI cS ad fa n fo ki st we lo a3 rch q0 q1 q2 q3 fk fc rd rc rv sh sle sla bg hd tr u c1 s9 1 9 hnd (by first | assumption | omega) (by first | assumption | omega) (by first | assumption | omega) (by first | assumption | omega)) (cwV 5 hts gX3_readsChair_X3_figure rfl rfl rfl hV_X3_figure ⟨Nat.le_of_ble_eq_true rfl, Nat.le_of_ble_eq_true rfl⟩) (PR.preV hG hP (ci := 3) rfl rfl) rfl rfl hl.1 rfl (lv_room (Nat.le_of_ble_eq_true rfl)) dX3_readsChair_88 ⟨Nat.le_refl _, Nat.le_refl _⟩) hD hS rfl (fun _ => rfl) (fun r_88 u_88 H locs q_88 hP hD hS => ?_)
            try dsimp only at q_88 hP hD
            have e_88 := q_88
            subst e_88
            have hP : va_P D vwCl (wM cI ad fa n fo ki st we lo (fgR (textA bg u) c1 a3 s9 1 9) rch q0 q1 q2 q3 fk fc rd rc rv sh sle sla bg hd tr) H := hP
            have hD : va_D (AW (adM ad)) (wM cI ad fa n fo ki st we lo (fgR (textA bg u) c1 a3 s9 1 9) rch q0 q1 q2 q3 fk fc rd rc rv sh sle sla bg hd tr) := hD
            obtain ⟨w9, hw9⟩ : ∃ z, z = fgV (textA bg u) c1 a3 s9 1 9 := ⟨_, rfl⟩
            have ha4l : fgR (textA bg u) c1 a3 s9 1 9 ≤ a3 + 1 := fgR_le
            obtain ⟨a4, ha4⟩ : ∃ z, z = fgR (textA bg u) c1 a3 s9 1 9 := ⟨_, rfl⟩
            rw [← ha4] at hP hD ha4l
            have hP : va_P D vwCl (wM cI ad fa n fo ki st we lo a4 rch q0 q1 q2 q3 fk fc rd rc rv sh sle sla bg hd tr) H := hP
            have hD : va_D (AW (adM ad)) (wM cI ad fa n fo ki st we lo a4 rch q0 q1 q2 q3 fk fc rd rc rv sh sle sla bg hd tr) := hD
            refine xtop (x' := w9) (by exact hw9.symm) ?_
            refine lv_istore (lv' := [(5, .int w9), (4, .int s9), (3, .int (cdF (textA bg u) c1 (ra + 1))), (0, .ref (ad 0)), (1, .int (nI u)), (2, .int (nI c1))]) hx hb dX3_readsChair_91 hl (by decide) rfl (fun ls hl => ?_)
            refine lv_aload_n hx hb dX3_readsChair_93 rfl (lv_at hl 3 rfl) ?_
            refine lv_iload_n hx hb dX3_readsChair_94 rfl (lv_at hl 4 rfl) ?_
            refine lv_iload_n hx hb dX3_readsChair_95 rfl (lv_at hl 5 rfl) ?_
            refine lv_iload hx hb dX3_readsChair_96 (lv_at hl 0 rfl) ?_
            refine lv_iconst (v := nI 0) hx hb dX3_readsChair_98 (by decide) ?_
            refine lv_iconst (v := nI 3) hx hb dX3_readsChair_99 (by decide) ?_
            refine xmuW (va_runV (As := [.int (nI u), .int (nI c1), .int w9, .int (nI 0), .int (nI 3)]) (rest := []) hF (c_X3_figure l D cI cS ad fa n fo ki st we lo a4 rch q0 q1 q2 q3 fk fc rd rc rv sh sle sla bg hd tr u c1 w9 0 3 hnd (by first | assumption | omega) (by first | assumption | omega) (by first | assumption | omega) (by first | assumption | omega)) (cwV 5 hts gX3_readsChair_X3_figure rfl rfl rfl hV_X3_figure ⟨Nat.le_of_ble_eq_true rfl, Nat.le_of_ble_eq_true rfl⟩) (PR.preV hG hP (ci := 3) rfl rfl) rfl rfl hl.1 rfl (lv_room (Nat.le_of_ble_eq_true rfl)) dX3_readsChair_100 ⟨Nat.le_refl _, Nat.le_refl _⟩) hD hS rfl (fun _ => rfl) (fun r_100 u_100 H locs q_100 hP hD hS => ?_)
            try dsimp only at q_100 hP hD
            have e_100 := q_100
            subst e_100
            have hP : va_P D vwCl (wM cI ad fa n fo ki st we lo (fgR (textA bg u) c1 a4 w9 0 3) rch q0 q1 q2 q3 fk fc rd rc rv sh sle sla bg hd tr) H := hP
            have hD : va_D (AW (adM ad)) (wM cI ad fa n fo ki st we lo (fgR (textA bg u) c1 a4 w9 0 3) rch q0 q1 q2 q3 fk fc rd rc rv sh sle sla bg hd tr) := hD
            obtain ⟨f9, hf9⟩ : ∃ z, z = fgV (textA bg u) c1 a4 w9 0 3 := ⟨_, rfl⟩
            have ha5l : fgR (textA bg u) c1 a4 w9 0 3 ≤ a4 + 1 := fgR_le
            obtain ⟨a5, ha5⟩ : ∃ z, z = fgR (textA bg u) c1 a4 w9 0 3 := ⟨_, rfl⟩
            rw [← ha5] at hP hD ha5l
            have hP : va_P D vwCl (wM cI ad fa n fo ki st we lo a5 rch q0 q1 q2 q3 fk fc rd rc rv sh sle sla bg hd tr) H := hP
            have hD : va_D (AW (adM ad)) (wM cI ad fa n fo ki st we lo a5 rch q0 q1 q2 q3 fk fc rd rc rv sh sle sla bg hd tr) := hD
            refine xtop (x' := f9) (by exact hf9.symm) ?_
            refine lv_istore (lv' := [(6, .int f9), (5, .int w9), (4, .int s9), (3, .int (cdF (textA bg u) c1 (ra + 1))), (0, .ref (ad 0)), (1, .int (nI u)), (2, .int (nI c1))]) hx hb dX3_readsChair_103 hl (by decide) rfl (fun ls hl => ?_)
            refine lv_aload_n hx hb dX3_readsChair_105 rfl (lv_at hl 4 rfl) ?_
            refine va_get (D := D) (ci := 3) (v := .ref (ad 5)) (C := RX3) (T := TX3) (N := 23) hx hb yX3 (fun _ h => h) hown hG.1 hP 0 rfl rfl 9 (by decide) f22 (fun _ h => h) rfl dX3_readsChair_106 ?_
            refine lv_aload_n hx hb dX3_readsChair_109 rfl (lv_at hl 4 rfl) ?_
            refine va_get (D := D) (ci := 3) (v := .int (nI rch)) (C := RX3) (T := TX3) (N := 23) hx hb yX3 (fun _ h => h) hown hG.1 hP 0 rfl rfl 8 (by decide) f79 (fun _ h => h) rfl dX3_readsChair_110 ?_
            refine lv_iload_n hx hb dX3_readsChair_113 rfl (lv_at hl 3 rfl) ?_
            refine lv_bipush (v := nI 112) hx hb dX3_readsChair_114 (by decide) ?_
            refine lv_icmp_ne (tgt := 123) hx hb dX3_readsChair_116 (by decide) (fun c_116 => ?_) (fun c_116 => ?_)
            ·
              refine lv_iload_n hx hb dX3_readsChair_123 rfl (lv_at hl 3 rfl) ?_
              refine lv_bipush (v := nI 115) hx hb dX3_readsChair_124 (by decide) ?_
              refine lv_icmp_ne (tgt := 133) hx hb dX3_readsChair_126 (by decide) (fun c_126 => ?_) (fun c_126 => ?_)
              ·
                refine lv_iconst (v := nI 2) hx hb dX3_readsChair_133 (by decide) ?_
                refine xast hx hb hG hP hD hS 5 rfl (rch) rfl (by omega) (by decide) dX3_readsChair_134 (fun H locs hP hD hS => ?_)
                have hP : va_P D vwCl (wM cI ad fa n fo ki st we lo a5 rch (upd q0 rch (nI 2)) q1 q2 q3 fk fc rd rc rv sh sle sla bg hd tr) H := hP
                have hD : va_D (AW (adM ad)) (wM cI ad fa n fo ki st we lo a5 rch (upd q0 rch (nI 2)) q1 q2 q3 fk fc rd rc rv sh sle sla bg hd tr) := hD
                refine lv_aload_n hx hb dX3_readsChair_135 rfl (lv_at hl 4 rfl) ?_
                refine va_get (D := D) (ci := 3) (v := .ref (ad 6)) (C := RX3) (T := TX3) (N := 23) hx hb yX3 (fun _ h => h) hown hG.1 hP 0 rfl rfl 10 (by decide) f25 (fun _ h => h) rfl dX3_readsChair_136 ?_
                refine lv_aload_n hx hb dX3_readsChair_139 rfl (lv_at hl 4 rfl) ?_
                refine va_get (D := D) (ci := 3) (v := .int (nI rch)) (C := RX3) (T := TX3) (N := 23) hx hb yX3 (fun _ h => h) hown hG.1 hP 0 rfl rfl 8 (by decide) f79 (fun _ h => h) rfl dX3_readsChair_140 ?_
                refine lv_iload hx hb dX3_readsChair_143 (lv_at hl 2 rfl) ?_
                refine xast hx hb hG hP hD hS 6 rfl (rch) rfl (by omega) (by decide) dX3_readsChair_145 (fun H locs hP hD hS => ?_)
                have hP : va_P D vwCl (wM cI ad fa n fo ki st we lo a5 rch (upd q0 rch (nI 2)) (upd q1 rch s9) q2 q3 fk fc rd rc rv sh sle sla bg hd tr) H := hP
                have hD : va_D (AW (adM ad)) (wM cI ad fa n fo ki st we lo a5 rch (upd q0 rch (nI 2)) (upd q1 rch s9) q2 q3 fk fc rd rc rv sh sle sla bg hd tr) := hD
                refine lv_aload_n hx hb dX3_readsChair_146 rfl (lv_at hl 4 rfl) ?_
                refine va_get (D := D) (ci := 3) (v := .ref (ad 7)) (C := RX3) (T := TX3) (N := 23) hx hb yX3 (fun _ h => h) hown hG.1 hP 0 rfl rfl 11 (by decide) f28 (fun _ h => h) rfl dX3_readsChair_147 ?_
                refine lv_aload_n hx hb dX3_readsChair_150 rfl (lv_at hl 4 rfl) ?_
                refine va_get (D := D) (ci := 3) (v := .int (nI rch)) (C := RX3) (T := TX3) (N := 23) hx hb yX3 (fun _ h => h) hown hG.1 hP 0 rfl rfl 8 (by decide) f79 (fun _ h => h) rfl dX3_readsChair_151 ?_
                refine lv_iload hx hb dX3_readsChair_154 (lv_at hl 1 rfl) ?_
                refine xast hx hb hG hP hD hS 7 rfl (rch) rfl (by omega) (by decide) dX3_readsChair_156 (fun H locs hP hD hS => ?_)
                have hP : va_P D vwCl (wM cI ad fa n fo ki st we lo a5 rch (upd q0 rch (nI 2)) (upd q1 rch s9) (upd q2 rch w9) q3 fk fc rd rc rv sh sle sla bg hd tr) H := hP
                have hD : va_D (AW (adM ad)) (wM cI ad fa n fo ki st we lo a5 rch (upd q0 rch (nI 2)) (upd q1 rch s9) (upd q2 rch w9) q3 fk fc rd rc rv sh sle sla bg hd tr) := hD
                refine lv_aload_n hx hb dX3_readsChair_157 rfl (lv_at hl 4 rfl) ?_
                refine va_get (D := D) (ci := 3) (v := .ref (ad 8)) (C := RX3) (T := TX3) (N := 23) hx hb yX3 (fun _ h => h) hown hG.1 hP 0 rfl rfl 12 (by decide) f31 (fun _ h => h) rfl dX3_readsChair_158 ?_
                refine lv_aload_n hx hb dX3_readsChair_161 rfl (lv_at hl 4 rfl) ?_
                refine va_get (D := D) (ci := 3) (v := .int (nI rch)) (C := RX3) (T := TX3) (N := 23) hx hb yX3 (fun _ h => h) hown hG.1 hP 0 rfl rfl 8 (by decide) f79 (fun _ h => h) rfl dX3_readsChair_162 ?_
                refine lv_iload hx hb dX3_readsChair_165 (lv_at hl 0 rfl) ?_
                refine xast hx hb hG hP hD hS 8 rfl (rch) rfl (by omega) (by decide) dX3_readsChair_167 (fun H locs hP hD hS => ?_)
                have hP : va_P D vwCl (wM cI ad fa n fo ki st we lo a5 rch (upd q0 rch (nI 2)) (upd q1 rch s9) (upd q2 rch w9) (upd q3 rch f9) fk fc rd rc rv sh sle sla bg hd tr) H := hP
                have hD : va_D (AW (adM ad)) (wM cI ad fa n fo ki st we lo a5 rch (upd q0 rch (nI 2)) (upd q1 rch s9) (upd q2 rch w9) (upd q3 rch f9) fk fc rd rc rv sh sle sla bg hd tr) := hD
                refine lv_aload_n hx hb dX3_readsChair_168 rfl (lv_at hl 4 rfl) ?_
                refine lv_dup hx hb dX3_readsChair_169 rfl ?_
                refine va_get (D := D) (ci := 3) (v := .int (nI rch)) (C := RX3) (T := TX3) (N := 23) hx hb yX3 (fun _ h => h) hown hG.1 hP 0 rfl rfl 8 (by decide) f79 (fun _ h => h) rfl dX3_readsChair_170 ?_
                refine lv_iconst (v := nI 1) hx hb dX3_readsChair_173 (by decide) ?_
                refine xaddN hx hb dX3_readsChair_174 ?_
                refine va_put (D := D) (ci := 3) (v := .int (nI (rch + 1))) (ty := .int) (C := RX3) (T := TX3) (N := 23) hx hb yX3 (fun _ h => h) tyX3 tyX3_ok nmX3 hown hG.1 hP hD hS 0 rfl rfl 8 (by decide) f79 (fun _ h => h) rfl (by decide +kernel) rfl rfl (Nat.le_of_ble_eq_true rfl) dX3_readsChair_175 (fun H locs hP hD hS => ?_)
                have hP : va_P D vwCl (wM cI ad fa n fo ki st we lo a5 (rch + 1) (upd q0 rch (nI 2)) (upd q1 rch s9) (upd q2 rch w9) (upd q3 rch f9) fk fc rd rc rv sh sle sla bg hd tr) H := hP
                have hD : va_D (AW (adM ad)) (wM cI ad fa n fo ki st we lo a5 (rch + 1) (upd q0 rch (nI 2)) (upd q1 rch s9) (upd q2 rch w9) (upd q3 rch f9) fk fc rd rc rv sh sle sla bg hd tr) := hD
                refine lv_iload hx hb dX3_readsChair_178 (lv_at hl 0 rfl) ?_
                refine lv_if_lt (tgt := 187) hx hb dX3_readsChair_180 (by decide) (fun c_180 => ?_) (fun c_180 => ?_)
                ·
                  replace c_180 : f9.toInt < 0 := (i32_ltc (b := 0) (by omega)).mp c_180
                  refine lv_iconst (v := nI 0) hx hb dX3_readsChair_187 (by decide) ?_
                  exact xretMz hx hb hr hlk dX3_readsChair_188 hS (false) rfl ⟨false, a5, rch + 1, upd q0 rch (nI 2), upd q1 rch s9, upd q2 rch w9, upd q3 rch f9⟩ (by exact ⟨rfl, rc_no2 (kv := 2) hm c_6 hra hU c_17 (Or.inr (Or.inr ⟨c_54, rfl⟩)) hs9 ha3 hw9 ha4 hf9 ha5 c_180⟩) (fun t ht => by rw [ht]; exact hP)
                ·
                  replace c_180 : ¬ f9.toInt < 0 := (not_congr (i32_ltc (b := 0) (by omega))).mp c_180
                  refine lv_iconst (v := nI 1) hx hb dX3_readsChair_183 (by decide) ?_
                  refine lv_goto (tgt := 188) hx hb dX3_readsChair_184 (by decide) ?_
                  exact xretMz hx hb hr hlk dX3_readsChair_188 hS (true) rfl ⟨true, a5, rch + 1, upd q0 rch (nI 2), upd q1 rch s9, upd q2 rch w9, upd q3 rch f9⟩ (by exact ⟨rfl, rc_y (kv := 2) hm c_6 hra hU c_17 (Or.inr (Or.inr ⟨c_54, rfl⟩)) hs9 ha3 hw9 ha4 hf9 ha5 c_180⟩) (fun t ht => by rw [ht]; exact hP)
              ·
                exact absurd c_126 c_48
            ·
              exact absurd c_116 c_42
          ·
            refine lv_iconst (v := nI 0) hx hb dX3_readsChair_57 (by decide) ?_
            exact xretMz hx hb hr hlk dX3_readsChair_58 hS (false) rfl ⟨false, ra + 1, rch, q0, q1, q2, q3⟩ (by exact ⟨rfl, rc_no1 hm c_6 hra hU c_17 c_42 c_48 c_54⟩) (fun t ht => by rw [ht]; exact hP)
    ·
      refine lv_iconst (v := nI 0) hx hb dX3_readsChair_20 (by decide) ?_
      exact xretMz hx hb hr hlk dX3_readsChair_21 hS (false) rfl ⟨false, ra, rch, q0, q1, q2, q3⟩ (by exact ⟨rfl, rc_no0 hm hra hU hle9 hlp (Or.inr c_17)⟩) (fun t ht => by rw [ht]; exact hP)

set_option maxHeartbeats 4000000 in
set_option maxRecDepth 100000 in
theorem c_X3_readsFront (l : Launch) (D : va_G) (cI cS : ClassId) (ad : Nat → Nat) (fa : Nat) (n : Nat) (fo : Nat) (ki : Nat → Nat) (st : Nat → Nat) (we : Nat → Nat) (lo : Nat → Nat) (ra : Nat) (rch : Nat) (q0 : Nat → Int32) (q1 : Nat → Int32) (q2 : Nat → Int32) (q3 : Nat → Int32) (fk : Nat) (fc : Nat → Nat) (rd : Nat) (rc : Nat → Nat) (rv : Nat → Nat) (sh : Nat → Bool) (sle : Nat → Nat) (sla : Nat → Nat) (bg : Nat → Int32) (hd : Nat → Int32) (tr : Int32) (u : Nat) (c1 : Nat) (hnd : nd (adM ad)) (hu : u + c1 ≤ 240) (hc60 : c1 ≤ 60) : Met l yX3_readsFront wsX3_readsFront ({ frames := 3, cells := 0, slots := 0, locals := 78 }) (PR D cI cS [.ref (ad 0), .int (nI u), .int (nI c1)] (wM cI ad fa n fo ki st we lo ra rch q0 q1 q2 q3 fk fc rd rc rv sh sle sla bg hd tr)) (va_Qi (fun r (zz : Nat × Nat × (Nat → Int32) × (Nat → Int32) × (Nat → Int32) × (Nat → Int32)) => r = bI (okT (textA bg u) c1) ∧ rfP (textA bg u) c1 zz.1 zz.2.1 zz.2.2.1 zz.2.2.2.1 zz.2.2.2.2.1 zz.2.2.2.2.2) (fun (zz : Nat × Nat × (Nat → Int32) × (Nat → Int32) × (Nat → Int32) × (Nat → Int32)) t => va_P D vwCl (wM cI ad fa n fo ki st we lo zz.1 zz.2.1 zz.2.2.1 zz.2.2.2.1 zz.2.2.2.2.1 zz.2.2.2.2.2 fk fc rd rc rv sh sle sla bg hd tr) t.heap) (AW (adM ad))) 0 0 (AW (adM ad)) := by
  refine startM (by decide) rfl (Nat.le_of_ble_eq_true rfl) hnd rfl ?_
  intro p e s m below meth c hx hb hr hts hown hlk hml hG hP hD hS ls hl
  have hl : lv_has ls 4 [(0, .ref (ad 0)), (1, .int (nI u)), (2, .int (nI c1))] := hl
  have f72 := hts (.fieldLink RX3 72 "ChairBallotModel" "readAt" "I") (by decide +kernel)
  have f79 := hts (.fieldLink RX3 79 "ChairBallotModel" "readChairs" "I") (by decide +kernel)
  have yX3 : ∀ w ∈ u_ws RX3 TX3 23, w.before _ s = true := fun w h => hts w ((by decide +kernel : ∀ w ∈ wsX30, w ∈ wsX3_readsFront) w h)
  have hF : CallFix p m c cX3_readsFront 4 s _ wsX3_readsFront RX3 := ⟨hx, hb, hml, hown, hts⟩
  refine lv_aload_n hx hb dX3_readsFront_0 rfl (lv_at hl 0 rfl) ?_
  refine lv_iconst (v := nI 0) hx hb dX3_readsFront_1 (by decide) ?_
  refine va_put (D := D) (ci := 3) (v := .int (nI 0)) (ty := .int) (C := RX3) (T := TX3) (N := 23) hx hb yX3 (fun _ h => h) tyX3 tyX3_ok nmX3 hown hG.1 hP hD hS 0 rfl rfl 7 (by decide) f72 (fun _ h => h) rfl (by decide +kernel) rfl rfl (Nat.le_of_ble_eq_true rfl) dX3_readsFront_2 (fun H locs hP hD hS => ?_)
  have hP : va_P D vwCl (wM cI ad fa n fo ki st we lo 0 rch q0 q1 q2 q3 fk fc rd rc rv sh sle sla bg hd tr) H := hP
  have hD : va_D (AW (adM ad)) (wM cI ad fa n fo ki st we lo 0 rch q0 q1 q2 q3 fk fc rd rc rv sh sle sla bg hd tr) := hD
  refine lv_aload_n hx hb dX3_readsFront_5 rfl (lv_at hl 0 rfl) ?_
  refine lv_iconst (v := nI 0) hx hb dX3_readsFront_6 (by decide) ?_
  refine va_put (D := D) (ci := 3) (v := .int (nI 0)) (ty := .int) (C := RX3) (T := TX3) (N := 23) hx hb yX3 (fun _ h => h) tyX3 tyX3_ok nmX3 hown hG.1 hP hD hS 0 rfl rfl 8 (by decide) f79 (fun _ h => h) rfl (by decide +kernel) rfl rfl (Nat.le_of_ble_eq_true rfl) dX3_readsFront_7 (fun H locs hP hD hS => ?_)
  have hP : va_P D vwCl (wM cI ad fa n fo ki st we lo 0 0 q0 q1 q2 q3 fk fc rd rc rv sh sle sla bg hd tr) H := hP
  have hD : va_D (AW (adM ad)) (wM cI ad fa n fo ki st we lo 0 0 q0 q1 q2 q3 fk fc rd rc rv sh sle sla bg hd tr) := hD
  refine lv_aload_n hx hb dX3_readsFront_10 rfl (lv_at hl 0 rfl) ?_
  refine lv_iload_n hx hb dX3_readsFront_11 rfl (lv_at hl 1 rfl) ?_
  refine lv_iload_n hx hb dX3_readsFront_12 rfl (lv_at hl 2 rfl) ?_
  refine xrd (va_runV (As := [.int (nI u), .int (nI c1)]) (rest := []) hF (c_X3_codeAt l D cI cS ad fa n fo ki st we lo 0 0 q0 q1 q2 q3 fk fc rd rc rv sh sle sla bg hd tr u c1 (by first | assumption | omega) (by first | assumption | omega)) (cwV 2 hts gX3_readsFront_X3_codeAt rfl rfl rfl hV_X3_codeAt ⟨Nat.le_of_ble_eq_true rfl, Nat.le_of_ble_eq_true rfl⟩) (PR.preV hG hP (ci := 3) rfl rfl) rfl rfl hl.1 rfl (lv_room (Nat.le_of_ble_eq_true rfl)) dX3_readsFront_13 ⟨Nat.le_refl _, Nat.le_refl _⟩) ?_
  refine lv_bipush (v := nI 102) hx hb dX3_readsFront_16 (by decide) ?_
  refine lv_icmp_ne (tgt := 25) hx hb dX3_readsFront_18 (by decide) (fun c_18 => ?_) (fun c_18 => ?_)
  ·
    refine lv_iconst (v := nI 0) hx hb dX3_readsFront_25 (by decide) ?_
    refine xtop (x' := bI false) (by rfl) ?_
    refine lv_istore_n (lv' := [(3, .int (bI false)), (0, .ref (ad 0)), (1, .int (nI u)), (2, .int (nI c1))]) hx hb dX3_readsFront_26 rfl hl (by decide) rfl (fun ls hl => ?_)
    refine lv_aload_n hx hb dX3_readsFront_27 rfl (lv_at hl 1 rfl) ?_
    refine lv_dup hx hb dX3_readsFront_28 rfl ?_
    refine va_get (D := D) (ci := 3) (v := .int (nI 0)) (C := RX3) (T := TX3) (N := 23) hx hb yX3 (fun _ h => h) hown hG.1 hP 0 rfl rfl 7 (by decide) f72 (fun _ h => h) rfl dX3_readsFront_29 ?_
    refine lv_iload_n hx hb dX3_readsFront_32 rfl (lv_at hl 0 rfl) ?_
    refine lv_if_eq (tgt := 40) hx hb dX3_readsFront_33 (by decide) (fun c_33 => ?_) (fun c_33 => ?_)
    ·
      refine lv_iconst (v := nI 0) hx hb dX3_readsFront_40 (by decide) ?_
      refine xaddN hx hb dX3_readsFront_41 ?_
      refine va_put (D := D) (ci := 3) (v := .int (nI (0 + 0))) (ty := .int) (C := RX3) (T := TX3) (N := 23) hx hb yX3 (fun _ h => h) tyX3 tyX3_ok nmX3 hown hG.1 hP hD hS 0 rfl rfl 7 (by decide) f72 (fun _ h => h) rfl (by decide +kernel) rfl rfl (Nat.le_of_ble_eq_true rfl) dX3_readsFront_42 (fun H locs hP hD hS => ?_)
      have hP : va_P D vwCl (wM cI ad fa n fo ki st we lo (0 + 0) 0 q0 q1 q2 q3 fk fc rd rc rv sh sle sla bg hd tr) H := hP
      have hD : va_D (AW (adM ad)) (wM cI ad fa n fo ki st we lo (0 + 0) 0 q0 q1 q2 q3 fk fc rd rc rv sh sle sla bg hd tr) := hD
      have K45 : ∀ (fuel : Nat) (b : Bool) (ra_45 : Nat) (rch_45 : Nat) (q0_45 : Nat → Int32) (q1_45 : Nat → Int32) (q2_45 : Nat → Int32) (q3_45 : Nat → Int32), (rfI (textA bg u) c1 b ra_45 rch_45 q0_45 q1_45 q2_45 q3_45) → (muB b rch_45) < fuel → ∀ (H : Heap) (locs : List Loc), va_P D vwCl (wM cI ad fa n fo ki st we lo ra_45 rch_45 q0_45 q1_45 q2_45 q3_45 fk fc rd rc rv sh sle sla bg hd tr) H → va_D (AW (adM ad)) (wM cI ad fa n fo ki st we lo ra_45 rch_45 q0_45 q1_45 q2_45 q3_45 fk fc rd rc rv sh sle sla bg hd tr) → va_S (AW (adM ad)) s.heap H locs → ∀ ls : Array Slot, lv_has ls 4 [(3, .int (bI b)), (0, .ref (ad 0)), (1, .int (nI u)), (2, .int (nI c1))] → W p l e ({ frames := 3, cells := 0, slots := 0, locals := 78 }) s m (([.ref (ad 0), .int (nI u), .int (nI c1)] : List Value).toArray) below meth c H locs 0 0 (MQ below (va_Qi (fun r (zz : Nat × Nat × (Nat → Int32) × (Nat → Int32) × (Nat → Int32) × (Nat → Int32)) => r = bI (okT (textA bg u) c1) ∧ rfP (textA bg u) c1 zz.1 zz.2.1 zz.2.2.1 zz.2.2.2.1 zz.2.2.2.2.1 zz.2.2.2.2.2) (fun (zz : Nat × Nat × (Nat → Int32) × (Nat → Int32) × (Nat → Int32) × (Nat → Int32)) t => va_P D vwCl (wM cI ad fa n fo ki st we lo zz.1 zz.2.1 zz.2.2.1 zz.2.2.2.1 zz.2.2.2.2.1 zz.2.2.2.2.2 fk fc rd rc rv sh sle sla bg hd tr) t.heap) (AW (adM ad))) (([.ref (ad 0), .int (nI u), .int (nI c1)] : List Value).toArray) s 0 0 (AW (adM ad))) (F0 m 45 ls []) := by
        intro fuel
        induction fuel with
        | zero => intro b ra_45 rch_45 q0_45 q1_45 q2_45 q3_45 hI hmu; exact absurd hmu (Nat.not_lt_zero _)
        | succ fuel ih =>
          intro b ra_45 rch_45 q0_45 q1_45 q2_45 q3_45 hI hmu H locs hP hD hS ls hl
          refine lv_iload_n hx hb dX3_readsFront_45 rfl (lv_at hl 0 rfl) ?_
          refine lv_if_eq (tgt := 75) hx hb dX3_readsFront_46 (by decide) (fun c_46 => ?_) (fun c_46 => ?_)
          ·
            replace c_46 := bI_0.mp c_46
            subst c_46
            refine lv_iload_n hx hb dX3_readsFront_75 rfl (lv_at hl 0 rfl) ?_
            exact xretMz hx hb hr hlk dX3_readsFront_76 hS (false) rfl ⟨ra_45, rch_45, q0_45, q1_45, q2_45, q3_45⟩ (by exact rf_en hI) (fun t ht => by rw [ht]; exact hP)
          ·
            replace c_46 := bI_n0.mp c_46
            subst c_46
            obtain ⟨hi1, hi2, hi3, hi4, hi5⟩ := rf_t hI
            refine lv_aload_n hx hb dX3_readsFront_49 rfl (lv_at hl 1 rfl) ?_
            refine va_get (D := D) (ci := 3) (v := .int (nI rch_45)) (C := RX3) (T := TX3) (N := 23) hx hb yX3 (fun _ h => h) hown hG.1 hP 0 rfl rfl 8 (by decide) f79 (fun _ h => h) rfl dX3_readsFront_50 ?_
            refine lv_iconst (v := nI 2) hx hb dX3_readsFront_53 (by decide) ?_
            refine lv_icmp_lt (tgt := 65) hx hb dX3_readsFront_54 (by decide) (fun c_54 => ?_) (fun c_54 => ?_)
            ·
              replace c_54 := (nI_ltI (a := rch_45) (b := 2) (by omega) (by omega)).mp c_54
              refine lv_aload_n hx hb dX3_readsFront_65 rfl (lv_at hl 1 rfl) ?_
              refine lv_iload_n hx hb dX3_readsFront_66 rfl (lv_at hl 2 rfl) ?_
              refine lv_iload_n hx hb dX3_readsFront_67 rfl (lv_at hl 3 rfl) ?_
              refine xmuW (va_runV (As := [.int (nI u), .int (nI c1)]) (rest := []) hF (c_X3_readsChair l D cI cS ad fa n fo ki st we lo ra_45 rch_45 q0_45 q1_45 q2_45 q3_45 fk fc rd rc rv sh sle sla bg hd tr u c1 hnd (by first | assumption | omega) (by first | assumption | omega) (by first | assumption | omega) (by first | assumption | omega) (by first | assumption | omega) (by first | assumption | omega)) (cwV 2 hts gX3_readsFront_X3_readsChair rfl rfl rfl hV_X3_readsChair ⟨Nat.le_of_ble_eq_true rfl, Nat.le_of_ble_eq_true rfl⟩) (PR.preV hG hP (ci := 3) rfl rfl) rfl rfl hl.1 rfl (lv_room (Nat.le_of_ble_eq_true rfl)) dX3_readsFront_68 ⟨Nat.le_refl _, Nat.le_refl _⟩) hD hS rfl (fun _ => rfl) (fun r_68 u_68 H locs q_68 hP hD hS => ?_)
              obtain ⟨b0_68, ra0_68, rch0_68, q00_68, q10_68, q20_68, q30_68⟩ := u_68
              try dsimp only at q_68 hP hD
              obtain ⟨e_68, q_68⟩ := q_68
              subst e_68
              have hP : va_P D vwCl (wM cI ad fa n fo ki st we lo ra0_68 rch0_68 q00_68 q10_68 q20_68 q30_68 fk fc rd rc rv sh sle sla bg hd tr) H := hP
              have hD : va_D (AW (adM ad)) (wM cI ad fa n fo ki st we lo ra0_68 rch0_68 q00_68 q10_68 q20_68 q30_68 fk fc rd rc rv sh sle sla bg hd tr) := hD
              refine lv_istore_n (lv' := [(3, .int (bI b0_68)), (0, .ref (ad 0)), (1, .int (nI u)), (2, .int (nI c1))]) hx hb dX3_readsFront_71 rfl hl (by decide) rfl (fun ls hl => ?_)
              refine lv_goto (tgt := 45) hx hb dX3_readsFront_72 (by decide) ?_
              exact ih b0_68 ra0_68 rch0_68 q00_68 q10_68 q20_68 q30_68  (by exact rf_step hi5 q_68) (by have h9 := rf_mu hi3 q_68; omega) _ _ hP hD hS ls (lv_sub hl [0, 1, 2, 3] rfl)
            ·
              replace c_54 := (not_congr (nI_ltI (a := rch_45) (b := 2) (by omega) (by omega))).mp c_54
              refine lv_aload_n hx hb dX3_readsFront_57 rfl (lv_at hl 1 rfl) ?_
              refine va_get (D := D) (ci := 3) (v := .int (nI ra_45)) (C := RX3) (T := TX3) (N := 23) hx hb yX3 (fun _ h => h) hown hG.1 hP 0 rfl rfl 7 (by decide) f72 (fun _ h => h) rfl dX3_readsFront_58 ?_
              refine lv_iload_n hx hb dX3_readsFront_61 rfl (lv_at hl 3 rfl) ?_
              refine lv_icmp_ge (tgt := 75) hx hb dX3_readsFront_62 (by decide) (fun c_62 => ?_) (fun c_62 => ?_)
              ·
                replace c_62 := (nI_leI (a := c1) (b := ra_45) (by omega) (by omega)).mp c_62
                refine lv_iload_n hx hb dX3_readsFront_75 rfl (lv_at hl 0 rfl) ?_
                exact xretMz hx hb hr hlk dX3_readsFront_76 hS (true) rfl ⟨ra_45, rch_45, q0_45, q1_45, q2_45, q3_45⟩ (by exact rf_ey hi1 hi2 hi3 hi4 hi5 (by omega) (by omega)) (fun t ht => by rw [ht]; exact hP)
              ·
                replace c_62 := (not_congr (nI_leI (a := c1) (b := ra_45) (by omega) (by omega))).mp c_62
                refine lv_aload_n hx hb dX3_readsFront_65 rfl (lv_at hl 1 rfl) ?_
                refine lv_iload_n hx hb dX3_readsFront_66 rfl (lv_at hl 2 rfl) ?_
                refine lv_iload_n hx hb dX3_readsFront_67 rfl (lv_at hl 3 rfl) ?_
                refine xmuW (va_runV (As := [.int (nI u), .int (nI c1)]) (rest := []) hF (c_X3_readsChair l D cI cS ad fa n fo ki st we lo ra_45 rch_45 q0_45 q1_45 q2_45 q3_45 fk fc rd rc rv sh sle sla bg hd tr u c1 hnd (by first | assumption | omega) (by first | assumption | omega) (by first | assumption | omega) (by first | assumption | omega) (by first | assumption | omega) (by first | assumption | omega)) (cwV 2 hts gX3_readsFront_X3_readsChair rfl rfl rfl hV_X3_readsChair ⟨Nat.le_of_ble_eq_true rfl, Nat.le_of_ble_eq_true rfl⟩) (PR.preV hG hP (ci := 3) rfl rfl) rfl rfl hl.1 rfl (lv_room (Nat.le_of_ble_eq_true rfl)) dX3_readsFront_68 ⟨Nat.le_refl _, Nat.le_refl _⟩) hD hS rfl (fun _ => rfl) (fun r_68 u_68 H locs q_68 hP hD hS => ?_)
                obtain ⟨b0_68, ra0_68, rch0_68, q00_68, q10_68, q20_68, q30_68⟩ := u_68
                try dsimp only at q_68 hP hD
                obtain ⟨e_68, q_68⟩ := q_68
                subst e_68
                have hP : va_P D vwCl (wM cI ad fa n fo ki st we lo ra0_68 rch0_68 q00_68 q10_68 q20_68 q30_68 fk fc rd rc rv sh sle sla bg hd tr) H := hP
                have hD : va_D (AW (adM ad)) (wM cI ad fa n fo ki st we lo ra0_68 rch0_68 q00_68 q10_68 q20_68 q30_68 fk fc rd rc rv sh sle sla bg hd tr) := hD
                refine lv_istore_n (lv' := [(3, .int (bI b0_68)), (0, .ref (ad 0)), (1, .int (nI u)), (2, .int (nI c1))]) hx hb dX3_readsFront_71 rfl hl (by decide) rfl (fun ls hl => ?_)
                refine lv_goto (tgt := 45) hx hb dX3_readsFront_72 (by decide) ?_
                exact ih b0_68 ra0_68 rch0_68 q00_68 q10_68 q20_68 q30_68  (by exact rf_step hi5 q_68) (by have h9 := rf_mu hi3 q_68; omega) _ _ hP hD hS ls (lv_sub hl [0, 1, 2, 3] rfl)
      exact K45 _ false (0 + 0) 0 q0 q1 q2 q3  (by first | exact rf_y0 c_18 | exact rf_n0 c_18) (Nat.lt_succ_self _) _ _ hP hD hS ls (lv_sub hl [0, 1, 2, 3] rfl)
    · exact absurd (by decide) c_33
  ·
    refine lv_iconst (v := nI 1) hx hb dX3_readsFront_21 (by decide) ?_
    refine xtop (x' := bI true) (by rfl) ?_
    refine lv_goto (tgt := 26) hx hb dX3_readsFront_22 (by decide) ?_
    refine lv_istore_n (lv' := [(3, .int (bI true)), (0, .ref (ad 0)), (1, .int (nI u)), (2, .int (nI c1))]) hx hb dX3_readsFront_26 rfl hl (by decide) rfl (fun ls hl => ?_)
    refine lv_aload_n hx hb dX3_readsFront_27 rfl (lv_at hl 1 rfl) ?_
    refine lv_dup hx hb dX3_readsFront_28 rfl ?_
    refine va_get (D := D) (ci := 3) (v := .int (nI 0)) (C := RX3) (T := TX3) (N := 23) hx hb yX3 (fun _ h => h) hown hG.1 hP 0 rfl rfl 7 (by decide) f72 (fun _ h => h) rfl dX3_readsFront_29 ?_
    refine lv_iload_n hx hb dX3_readsFront_32 rfl (lv_at hl 0 rfl) ?_
    refine lv_if_eq (tgt := 40) hx hb dX3_readsFront_33 (by decide) (fun c_33 => ?_) (fun c_33 => ?_)
    · exact absurd c_33 (by decide)
    ·
      refine lv_iconst (v := nI 1) hx hb dX3_readsFront_36 (by decide) ?_
      refine lv_goto (tgt := 41) hx hb dX3_readsFront_37 (by decide) ?_
      refine xaddN hx hb dX3_readsFront_41 ?_
      refine va_put (D := D) (ci := 3) (v := .int (nI (0 + 1))) (ty := .int) (C := RX3) (T := TX3) (N := 23) hx hb yX3 (fun _ h => h) tyX3 tyX3_ok nmX3 hown hG.1 hP hD hS 0 rfl rfl 7 (by decide) f72 (fun _ h => h) rfl (by decide +kernel) rfl rfl (Nat.le_of_ble_eq_true rfl) dX3_readsFront_42 (fun H locs hP hD hS => ?_)
      have hP : va_P D vwCl (wM cI ad fa n fo ki st we lo (0 + 1) 0 q0 q1 q2 q3 fk fc rd rc rv sh sle sla bg hd tr) H := hP
      have hD : va_D (AW (adM ad)) (wM cI ad fa n fo ki st we lo (0 + 1) 0 q0 q1 q2 q3 fk fc rd rc rv sh sle sla bg hd tr) := hD
      have K45 : ∀ (fuel : Nat) (b : Bool) (ra_45 : Nat) (rch_45 : Nat) (q0_45 : Nat → Int32) (q1_45 : Nat → Int32) (q2_45 : Nat → Int32) (q3_45 : Nat → Int32), (rfI (textA bg u) c1 b ra_45 rch_45 q0_45 q1_45 q2_45 q3_45) → (muB b rch_45) < fuel → ∀ (H : Heap) (locs : List Loc), va_P D vwCl (wM cI ad fa n fo ki st we lo ra_45 rch_45 q0_45 q1_45 q2_45 q3_45 fk fc rd rc rv sh sle sla bg hd tr) H → va_D (AW (adM ad)) (wM cI ad fa n fo ki st we lo ra_45 rch_45 q0_45 q1_45 q2_45 q3_45 fk fc rd rc rv sh sle sla bg hd tr) → va_S (AW (adM ad)) s.heap H locs → ∀ ls : Array Slot, lv_has ls 4 [(3, .int (bI b)), (0, .ref (ad 0)), (1, .int (nI u)), (2, .int (nI c1))] → W p l e ({ frames := 3, cells := 0, slots := 0, locals := 78 }) s m (([.ref (ad 0), .int (nI u), .int (nI c1)] : List Value).toArray) below meth c H locs 0 0 (MQ below (va_Qi (fun r (zz : Nat × Nat × (Nat → Int32) × (Nat → Int32) × (Nat → Int32) × (Nat → Int32)) => r = bI (okT (textA bg u) c1) ∧ rfP (textA bg u) c1 zz.1 zz.2.1 zz.2.2.1 zz.2.2.2.1 zz.2.2.2.2.1 zz.2.2.2.2.2) (fun (zz : Nat × Nat × (Nat → Int32) × (Nat → Int32) × (Nat → Int32) × (Nat → Int32)) t => va_P D vwCl (wM cI ad fa n fo ki st we lo zz.1 zz.2.1 zz.2.2.1 zz.2.2.2.1 zz.2.2.2.2.1 zz.2.2.2.2.2 fk fc rd rc rv sh sle sla bg hd tr) t.heap) (AW (adM ad))) (([.ref (ad 0), .int (nI u), .int (nI c1)] : List Value).toArray) s 0 0 (AW (adM ad))) (F0 m 45 ls []) := by
        intro fuel
        induction fuel with
        | zero => intro b ra_45 rch_45 q0_45 q1_45 q2_45 q3_45 hI hmu; exact absurd hmu (Nat.not_lt_zero _)
        | succ fuel ih =>
          intro b ra_45 rch_45 q0_45 q1_45 q2_45 q3_45 hI hmu H locs hP hD hS ls hl
          refine lv_iload_n hx hb dX3_readsFront_45 rfl (lv_at hl 0 rfl) ?_
          refine lv_if_eq (tgt := 75) hx hb dX3_readsFront_46 (by decide) (fun c_46 => ?_) (fun c_46 => ?_)
          ·
            replace c_46 := bI_0.mp c_46
            subst c_46
            refine lv_iload_n hx hb dX3_readsFront_75 rfl (lv_at hl 0 rfl) ?_
            exact xretMz hx hb hr hlk dX3_readsFront_76 hS (false) rfl ⟨ra_45, rch_45, q0_45, q1_45, q2_45, q3_45⟩ (by exact rf_en hI) (fun t ht => by rw [ht]; exact hP)
          ·
            replace c_46 := bI_n0.mp c_46
            subst c_46
            obtain ⟨hi1, hi2, hi3, hi4, hi5⟩ := rf_t hI
            refine lv_aload_n hx hb dX3_readsFront_49 rfl (lv_at hl 1 rfl) ?_
            refine va_get (D := D) (ci := 3) (v := .int (nI rch_45)) (C := RX3) (T := TX3) (N := 23) hx hb yX3 (fun _ h => h) hown hG.1 hP 0 rfl rfl 8 (by decide) f79 (fun _ h => h) rfl dX3_readsFront_50 ?_
            refine lv_iconst (v := nI 2) hx hb dX3_readsFront_53 (by decide) ?_
            refine lv_icmp_lt (tgt := 65) hx hb dX3_readsFront_54 (by decide) (fun c_54 => ?_) (fun c_54 => ?_)
            ·
              replace c_54 := (nI_ltI (a := rch_45) (b := 2) (by omega) (by omega)).mp c_54
              refine lv_aload_n hx hb dX3_readsFront_65 rfl (lv_at hl 1 rfl) ?_
              refine lv_iload_n hx hb dX3_readsFront_66 rfl (lv_at hl 2 rfl) ?_
              refine lv_iload_n hx hb dX3_readsFront_67 rfl (lv_at hl 3 rfl) ?_
              refine xmuW (va_runV (As := [.int (nI u), .int (nI c1)]) (rest := []) hF (c_X3_readsChair l D cI cS ad fa n fo ki st we lo ra_45 rch_45 q0_45 q1_45 q2_45 q3_45 fk fc rd rc rv sh sle sla bg hd tr u c1 hnd (by first | assumption | omega) (by first | assumption | omega) (by first | assumption | omega) (by first | assumption | omega) (by first | assumption | omega) (by first | assumption | omega)) (cwV 2 hts gX3_readsFront_X3_readsChair rfl rfl rfl hV_X3_readsChair ⟨Nat.le_of_ble_eq_true rfl, Nat.le_of_ble_eq_true rfl⟩) (PR.preV hG hP (ci := 3) rfl rfl) rfl rfl hl.1 rfl (lv_room (Nat.le_of_ble_eq_true rfl)) dX3_readsFront_68 ⟨Nat.le_refl _, Nat.le_refl _⟩) hD hS rfl (fun _ => rfl) (fun r_68 u_68 H locs q_68 hP hD hS => ?_)
              obtain ⟨b0_68, ra0_68, rch0_68, q00_68, q10_68, q20_68, q30_68⟩ := u_68
              try dsimp only at q_68 hP hD
              obtain ⟨e_68, q_68⟩ := q_68
              subst e_68
              have hP : va_P D vwCl (wM cI ad fa n fo ki st we lo ra0_68 rch0_68 q00_68 q10_68 q20_68 q30_68 fk fc rd rc rv sh sle sla bg hd tr) H := hP
              have hD : va_D (AW (adM ad)) (wM cI ad fa n fo ki st we lo ra0_68 rch0_68 q00_68 q10_68 q20_68 q30_68 fk fc rd rc rv sh sle sla bg hd tr) := hD
              refine lv_istore_n (lv' := [(3, .int (bI b0_68)), (0, .ref (ad 0)), (1, .int (nI u)), (2, .int (nI c1))]) hx hb dX3_readsFront_71 rfl hl (by decide) rfl (fun ls hl => ?_)
              refine lv_goto (tgt := 45) hx hb dX3_readsFront_72 (by decide) ?_
              exact ih b0_68 ra0_68 rch0_68 q00_68 q10_68 q20_68 q30_68  (by exact rf_step hi5 q_68) (by have h9 := rf_mu hi3 q_68; omega) _ _ hP hD hS ls (lv_sub hl [0, 1, 2, 3] rfl)
            ·
              replace c_54 := (not_congr (nI_ltI (a := rch_45) (b := 2) (by omega) (by omega))).mp c_54
              refine lv_aload_n hx hb dX3_readsFront_57 rfl (lv_at hl 1 rfl) ?_
              refine va_get (D := D) (ci := 3) (v := .int (nI ra_45)) (C := RX3) (T := TX3) (N := 23) hx hb yX3 (fun _ h => h) hown hG.1 hP 0 rfl rfl 7 (by decide) f72 (fun _ h => h) rfl dX3_readsFront_58 ?_
              refine lv_iload_n hx hb dX3_readsFront_61 rfl (lv_at hl 3 rfl) ?_
              refine lv_icmp_ge (tgt := 75) hx hb dX3_readsFront_62 (by decide) (fun c_62 => ?_) (fun c_62 => ?_)
              ·
                replace c_62 := (nI_leI (a := c1) (b := ra_45) (by omega) (by omega)).mp c_62
                refine lv_iload_n hx hb dX3_readsFront_75 rfl (lv_at hl 0 rfl) ?_
                exact xretMz hx hb hr hlk dX3_readsFront_76 hS (true) rfl ⟨ra_45, rch_45, q0_45, q1_45, q2_45, q3_45⟩ (by exact rf_ey hi1 hi2 hi3 hi4 hi5 (by omega) (by omega)) (fun t ht => by rw [ht]; exact hP)
              ·
                replace c_62 := (not_congr (nI_leI (a := c1) (b := ra_45) (by omega) (by omega))).mp c_62
                refine lv_aload_n hx hb dX3_readsFront_65 rfl (lv_at hl 1 rfl) ?_
                refine lv_iload_n hx hb dX3_readsFront_66 rfl (lv_at hl 2 rfl) ?_
                refine lv_iload_n hx hb dX3_readsFront_67 rfl (lv_at hl 3 rfl) ?_
                refine xmuW (va_runV (As := [.int (nI u), .int (nI c1)]) (rest := []) hF (c_X3_readsChair l D cI cS ad fa n fo ki st we lo ra_45 rch_45 q0_45 q1_45 q2_45 q3_45 fk fc rd rc rv sh sle sla bg hd tr u c1 hnd (by first | assumption | omega) (by first | assumption | omega) (by first | assumption | omega) (by first | assumption | omega) (by first | assumption | omega) (by first | assumption | omega)) (cwV 2 hts gX3_readsFront_X3_readsChair rfl rfl rfl hV_X3_readsChair ⟨Nat.le_of_ble_eq_true rfl, Nat.le_of_ble_eq_true rfl⟩) (PR.preV hG hP (ci := 3) rfl rfl) rfl rfl hl.1 rfl (lv_room (Nat.le_of_ble_eq_true rfl)) dX3_readsFront_68 ⟨Nat.le_refl _, Nat.le_refl _⟩) hD hS rfl (fun _ => rfl) (fun r_68 u_68 H locs q_68 hP hD hS => ?_)
                obtain ⟨b0_68, ra0_68, rch0_68, q00_68, q10_68, q20_68, q30_68⟩ := u_68
                try dsimp only at q_68 hP hD
                obtain ⟨e_68, q_68⟩ := q_68
                subst e_68
                have hP : va_P D vwCl (wM cI ad fa n fo ki st we lo ra0_68 rch0_68 q00_68 q10_68 q20_68 q30_68 fk fc rd rc rv sh sle sla bg hd tr) H := hP
                have hD : va_D (AW (adM ad)) (wM cI ad fa n fo ki st we lo ra0_68 rch0_68 q00_68 q10_68 q20_68 q30_68 fk fc rd rc rv sh sle sla bg hd tr) := hD
                refine lv_istore_n (lv' := [(3, .int (bI b0_68)), (0, .ref (ad 0)), (1, .int (nI u)), (2, .int (nI c1))]) hx hb dX3_readsFront_71 rfl hl (by decide) rfl (fun ls hl => ?_)
                refine lv_goto (tgt := 45) hx hb dX3_readsFront_72 (by decide) ?_
                exact ih b0_68 ra0_68 rch0_68 q00_68 q10_68 q20_68 q30_68  (by exact rf_step hi5 q_68) (by have h9 := rf_mu hi3 q_68; omega) _ _ hP hD hS ls (lv_sub hl [0, 1, 2, 3] rfl)
      exact K45 _ true (0 + 1) 0 q0 q1 q2 q3  (by first | exact rf_y0 c_18 | exact rf_n0 c_18) (Nat.lt_succ_self _) _ _ hP hD hS ls (lv_sub hl [0, 1, 2, 3] rfl)

set_option maxHeartbeats 4000000 in
set_option maxRecDepth 100000 in
theorem c_X3_front (l : Launch) (D : va_G) (cI cS : ClassId) (ad : Nat → Nat) (fa : Nat) (n : Nat) (fo : Nat) (ki : Nat → Nat) (st : Nat → Nat) (we : Nat → Nat) (lo : Nat → Nat) (ra : Nat) (rch : Nat) (q0 : Nat → Int32) (q1 : Nat → Int32) (q2 : Nat → Int32) (q3 : Nat → Int32) (fk : Nat) (fc : Nat → Nat) (rd : Nat) (rc : Nat → Nat) (rv : Nat → Nat) (sh : Nat → Bool) (sle : Nat → Nat) (sla : Nat → Nat) (bg : Nat → Int32) (hd : Nat → Int32) (tr : Int32) (k : Int32) (la : Int32) (i : Int32) (ct : Int32) (hnd : nd (adM ad)) (hsla : ∀ j, sla j ≤ 2) (hsle : ∀ j, sle j ≤ 60) : Met l yX3_front wsX3_front ({ frames := 4, cells := 0, slots := 0, locals := 101 }) (PR D cI cS [.ref (ad 0), .int k, .int la, .int i, .int ct] (wM cI ad fa n fo ki st we lo ra rch q0 q1 q2 q3 fk fc rd rc rv sh sle sla bg hd tr)) (va_Qi (fun r (zz : Nat × Nat × (Nat → Int32) × (Nat → Int32) × (Nat → Int32) × (Nat → Int32)) => r = A_front sh sla sle (bigF bg) k la i ct) (fun (zz : Nat × Nat × (Nat → Int32) × (Nat → Int32) × (Nat → Int32) × (Nat → Int32)) t => va_P D vwCl (wM cI ad (S_front sh sla sle k la i ct) (ifO (okFront sh sla sle (bigF bg) k la i ct) (numT ct) n) (ifO (okFront sh sla sle (bigF bg) k la i ct) 0 fo) (ifO (okFront sh sla sle (bigF bg) k la i ct) (tkF (numT ct) (kiT (textA (bigF bg k.toNatClampNeg) i.toNatClampNeg)) ki) ki) (ifO (okFront sh sla sle (bigF bg) k la i ct) (tkF (numT ct) (stT (textA (bigF bg k.toNatClampNeg) i.toNatClampNeg)) st) st) (ifO (okFront sh sla sle (bigF bg) k la i ct) (tkF (numT ct) (weT (textA (bigF bg k.toNatClampNeg) i.toNatClampNeg)) we) we) (ifO (okFront sh sla sle (bigF bg) k la i ct) (tkF (numT ct) (loT (textA (bigF bg k.toNatClampNeg) i.toNatClampNeg)) lo) lo) zz.1 zz.2.1 zz.2.2.1 zz.2.2.2.1 zz.2.2.2.2.1 zz.2.2.2.2.2 fk fc (ifO (okFront sh sla sle (bigF bg) k la i ct) 0 rd) rc rv sh sle sla bg hd tr) t.heap) (AW (adM ad))) 0 0 (AW (adM ad)) := by
  refine startM (by decide) rfl (Nat.le_of_ble_eq_true rfl) hnd rfl ?_
  intro p e s m below meth c hx hb hr hts hown hlk hml hG hP hD hS ls hl
  have hl : lv_has ls 7 [(0, .ref (ad 0)), (1, .int k), (2, .int la), (3, .int i), (4, .int ct)] := hl
  have f72 := hts (.fieldLink RX3 72 "ChairBallotModel" "readAt" "I") (by decide +kernel)
  have f79 := hts (.fieldLink RX3 79 "ChairBallotModel" "readChairs" "I") (by decide +kernel)
  have f65 := hts (.fieldLink RX3 65 "ChairBallotModel" "chairs" "I") (by decide +kernel)
  have f114 := hts (.fieldLink RX3 114 "ChairBallotModel" "folded" "I") (by decide +kernel)
  have f7 := hts (.fieldLink RX3 7 "ChairBallotModel" "kindOf" "[I") (by decide +kernel)
  have f22 := hts (.fieldLink RX3 22 "ChairBallotModel" "readKind" "[I") (by decide +kernel)
  have f13 := hts (.fieldLink RX3 13 "ChairBallotModel" "stripeOf" "[I") (by decide +kernel)
  have f25 := hts (.fieldLink RX3 25 "ChairBallotModel" "readStripe" "[I") (by decide +kernel)
  have f16 := hts (.fieldLink RX3 16 "ChairBallotModel" "weightOf" "[I") (by decide +kernel)
  have f28 := hts (.fieldLink RX3 28 "ChairBallotModel" "readWeight" "[I") (by decide +kernel)
  have f19 := hts (.fieldLink RX3 19 "ChairBallotModel" "facesOf" "[I") (by decide +kernel)
  have f31 := hts (.fieldLink RX3 31 "ChairBallotModel" "readFaces" "[I") (by decide +kernel)
  have f117 := hts (.fieldLink RX3 117 "ChairBallotModel" "readings" "I") (by decide +kernel)
  have yX3 : ∀ w ∈ u_ws RX3 TX3 23, w.before _ s = true := fun w h => hts w ((by decide +kernel : ∀ w ∈ wsX30, w ∈ wsX3_front) w h)
  have hF : CallFix p m c cX3_front 7 s _ wsX3_front RX3 := ⟨hx, hb, hml, hown, hts⟩
  refine lv_iload_n hx hb dX3_front_0 rfl (lv_at hl 1 rfl) ?_
  refine xrd (va_runS (As := [.int k]) (rest := []) hF (c_X3_noSheet l D cI cS k ) (va_cwS 1 hts gX3_front_X3_noSheet rfl rfl rfl hD_X3_noSheet ⟨Nat.le_of_ble_eq_true rfl, Nat.le_of_ble_eq_true rfl⟩) (PR.pre hG (hP.sub (ws' := []) [] rfl)) rfl rfl hl.1 rfl (lv_room (Nat.le_of_ble_eq_true rfl)) dX3_front_1 ⟨Nat.le_refl _, Nat.le_refl _⟩) ?_
  refine lv_if_eq (tgt := 13) hx hb dX3_front_4 (by decide) (fun c_4 => ?_) (fun c_4 => ?_)
  ·
    replace c_4 := bI_0.mp c_4
    replace c_4 := (by simpa using c_4 : (rgB 0 3 k) = true)
    obtain ⟨j, hj0, hj1, rfl⟩ := rgB_nat (by decide) c_4
    have hclj := cl8 (j := j) (by omega)
    have hsj := hsle j
    have hsaj := hsla j
    refine lv_iload_n hx hb dX3_front_13 rfl (lv_at hl 2 rfl) ?_
    refine lv_i2l (v := la.toInt64) hx hb dX3_front_14 rfl ?_
    refine lv_lconst (v := lN 0) hx hb dX3_front_15 rfl ?_
    refine lv_ldc2 (v := 2) hx hb hown (hts (.constantLong RX3 105 (2)) (by decide +kernel)) dX3_front_16 ?_
    refine xtopl (x' := lN 2) rfl ?_
    refine xrd (va_runS (As := [.long la.toInt64, .long (lN 0), .long (lN 2)]) (rest := []) hF (c_X3_in l D cI cS la 0 2 (by first | assumption | omega) (by first | assumption | omega)) (va_cwS 3 hts gX3_front_X3_in rfl rfl rfl hD_X3_in ⟨Nat.le_of_ble_eq_true rfl, Nat.le_of_ble_eq_true rfl⟩) (PR.pre hG (hP.sub (ws' := []) [] rfl)) rfl rfl hl.1 rfl (lv_room (Nat.le_of_ble_eq_true rfl)) dX3_front_19 ⟨Nat.le_refl _, Nat.le_refl _⟩) ?_
    refine xtop (x' := bI (rgB 0 2 la)) rfl ?_
    refine lv_if_ne (tgt := 32) hx hb dX3_front_22 (by decide) (fun c_22 => ?_) (fun c_22 => ?_)
    ·
      replace c_22 := bI_n0.mp c_22
      obtain ⟨w, hw0, hw1, rfl⟩ := rgB_nat (by decide) c_22
      have hclw := cl8 (j := w) (by omega)
      refine lv_aload_n hx hb dX3_front_32 rfl (lv_at hl 0 rfl) ?_
      refine lv_iload_n hx hb dX3_front_33 rfl (lv_at hl 1 rfl) ?_
      refine lv_iload_n hx hb dX3_front_34 rfl (lv_at hl 2 rfl) ?_
      refine lv_iload_n hx hb dX3_front_35 rfl (lv_at hl 3 rfl) ?_
      refine lv_iload hx hb dX3_front_36 (lv_at hl 4 rfl) ?_
      refine lv_i2l (v := ct.toInt64) hx hb dX3_front_38 rfl ?_
      refine xmuW (va_runV (As := [.int (nI j), .int (nI w), .int i, .long ct.toInt64]) (rest := []) hF (c_X3_cellsBarred l D cI cS ad fa n fo ki st we lo ra rch q0 q1 q2 q3 fk fc rd rc rv sh sle sla bg hd tr j w i ct hnd (by first | assumption | omega) (by first | assumption | omega) (by first | assumption | omega) (by first | assumption | omega)) (cwV 4 hts gX3_front_X3_cellsBarred rfl rfl rfl hV_X3_cellsBarred ⟨Nat.le_of_ble_eq_true rfl, Nat.le_of_ble_eq_true rfl⟩) (PR.preV hG hP (ci := 3) rfl rfl) rfl rfl hl.1 rfl (lv_room (Nat.le_of_ble_eq_true rfl)) dX3_front_39 ⟨Nat.le_refl _, Nat.le_refl _⟩) hD hS rfl (fun _ => rfl) (fun r_39 u_39 H locs q_39 hP hD hS => ?_)
      try dsimp only at q_39 hP hD
      have e_39 := q_39
      subst e_39
      have hP : va_P D vwCl (wM cI ad (faN (cbN sh sla sle j w i ct) fa) n fo ki st we lo ra rch q0 q1 q2 q3 fk fc rd rc rv sh sle sla bg hd tr) H := hP
      have hD : va_D (AW (adM ad)) (wM cI ad (faN (cbN sh sla sle j w i ct) fa) n fo ki st we lo ra rch q0 q1 q2 q3 fk fc rd rc rv sh sle sla bg hd tr) := hD
      refine lv_istore (lv' := [(5, .int (cbR (cbN sh sla sle j w i ct))), (0, .ref (ad 0)), (1, .int (nI j)), (2, .int (nI w)), (3, .int i), (4, .int ct)]) hx hb dX3_front_42 hl (by decide) rfl (fun ls hl => ?_)
      refine lv_iload hx hb dX3_front_44 (lv_at hl 0 rfl) ?_
      refine lv_if_ge (tgt := 52) hx hb dX3_front_46 (by decide) (fun c_46 => ?_) (fun c_46 => ?_)
      ·
        replace c_46 : 0 ≤ (cbR (cbN sh sla sle j w i ct)).toInt := (i32_gec (b := 0) (by omega)).mp c_46
        have hcb := cbR_ge cbN_le c_46
        obtain ⟨hcf, hc0, hch⟩ := cb_0 hcb
        obtain ⟨u, cc, hu, rfl, rfl⟩ := hldB_nat hch
        have hclu := cl8 (j := u) (by omega)
        have hclc := cl8 (j := cc) (by omega)
        refine lv_aload_n hx hb dX3_front_52 rfl (lv_at hl 1 rfl) ?_
        refine lv_bipush (v := nI 60) hx hb dX3_front_53 (by decide) ?_
        refine lv_iload_n hx hb dX3_front_55 rfl (lv_at hl 2 rfl) ?_
        refine xmulN hx hb dX3_front_56 ?_
        refine lv_iload_n hx hb dX3_front_57 rfl (lv_at hl 4 rfl) ?_
        refine xaddN hx hb dX3_front_58 ?_
        refine lv_iload hx hb dX3_front_59 (lv_at hl 5 rfl) ?_
        refine xmuW (va_runV (As := [.int (nI (60 * j + u)), .int (nI cc)]) (rest := []) hF (c_X3_readsFront l D cI cS ad (faN (cbN sh sla sle j w (nI u) (nI cc)) fa) n fo ki st we lo ra rch q0 q1 q2 q3 fk fc rd rc rv sh sle sla bg hd tr (60 * j + u) cc hnd (by first | assumption | omega) (by first | assumption | omega)) (cwV 2 hts gX3_front_X3_readsFront rfl rfl rfl hV_X3_readsFront ⟨Nat.le_of_ble_eq_true rfl, Nat.le_of_ble_eq_true rfl⟩) (PR.preV hG hP (ci := 3) rfl rfl) rfl rfl hl.1 rfl (lv_room (Nat.le_of_ble_eq_true rfl)) dX3_front_61 ⟨Nat.le_refl _, Nat.le_refl _⟩) hD hS rfl (fun _ => rfl) (fun r_61 u_61 H locs q_61 hP hD hS => ?_)
        obtain ⟨ra0_61, rch0_61, q00_61, q10_61, q20_61, q30_61⟩ := u_61
        try dsimp only at q_61 hP hD
        obtain ⟨e_61, q_61⟩ := q_61
        subst e_61
        have hP : va_P D vwCl (wM cI ad (faN (cbN sh sla sle j w (nI u) (nI cc)) fa) n fo ki st we lo ra0_61 rch0_61 q00_61 q10_61 q20_61 q30_61 fk fc rd rc rv sh sle sla bg hd tr) H := hP
        have hD : va_D (AW (adM ad)) (wM cI ad (faN (cbN sh sla sle j w (nI u) (nI cc)) fa) n fo ki st we lo ra0_61 rch0_61 q00_61 q10_61 q20_61 q30_61 fk fc rd rc rv sh sle sla bg hd tr) := hD
        refine lv_if_ne (tgt := 79) hx hb dX3_front_64 (by decide) (fun c_64 => ?_) (fun c_64 => ?_)
        ·
          replace c_64 := bI_n0.mp c_64
          obtain ⟨hr1, hr2, hrq⟩ := rf_py q_61 c_64
          subst hr1
          refine lv_aload_n hx hb dX3_front_79 rfl (lv_at hl 1 rfl) ?_
          refine lv_aload_n hx hb dX3_front_80 rfl (lv_at hl 1 rfl) ?_
          refine va_get (D := D) (ci := 3) (v := .int (nI ((cc - 1) / 5))) (C := RX3) (T := TX3) (N := 23) hx hb yX3 (fun _ h => h) hown hG.1 hP 0 rfl rfl 8 (by decide) f79 (fun _ h => h) rfl dX3_front_81 ?_
          refine va_put (D := D) (ci := 3) (v := .int (nI ((cc - 1) / 5))) (ty := .int) (C := RX3) (T := TX3) (N := 23) hx hb yX3 (fun _ h => h) tyX3 tyX3_ok nmX3 hown hG.1 hP hD hS 0 rfl rfl 1 (by decide) f65 (fun _ h => h) rfl (by decide +kernel) rfl rfl (Nat.le_of_ble_eq_true rfl) dX3_front_84 (fun H locs hP hD hS => ?_)
          have hP : va_P D vwCl (wM cI ad (faN (cbN sh sla sle j w (nI u) (nI cc)) fa) ((cc - 1) / 5) fo ki st we lo ra0_61 ((cc - 1) / 5) q00_61 q10_61 q20_61 q30_61 fk fc rd rc rv sh sle sla bg hd tr) H := hP
          have hD : va_D (AW (adM ad)) (wM cI ad (faN (cbN sh sla sle j w (nI u) (nI cc)) fa) ((cc - 1) / 5) fo ki st we lo ra0_61 ((cc - 1) / 5) q00_61 q10_61 q20_61 q30_61 fk fc rd rc rv sh sle sla bg hd tr) := hD
          refine lv_aload_n hx hb dX3_front_87 rfl (lv_at hl 1 rfl) ?_
          refine lv_iconst (v := nI 0) hx hb dX3_front_88 (by decide) ?_
          refine va_put (D := D) (ci := 3) (v := .int (nI 0)) (ty := .int) (C := RX3) (T := TX3) (N := 23) hx hb yX3 (fun _ h => h) tyX3 tyX3_ok nmX3 hown hG.1 hP hD hS 0 rfl rfl 2 (by decide) f114 (fun _ h => h) rfl (by decide +kernel) rfl rfl (Nat.le_of_ble_eq_true rfl) dX3_front_89 (fun H locs hP hD hS => ?_)
          have hP : va_P D vwCl (wM cI ad (faN (cbN sh sla sle j w (nI u) (nI cc)) fa) ((cc - 1) / 5) 0 ki st we lo ra0_61 ((cc - 1) / 5) q00_61 q10_61 q20_61 q30_61 fk fc rd rc rv sh sle sla bg hd tr) H := hP
          have hD : va_D (AW (adM ad)) (wM cI ad (faN (cbN sh sla sle j w (nI u) (nI cc)) fa) ((cc - 1) / 5) 0 ki st we lo ra0_61 ((cc - 1) / 5) q00_61 q10_61 q20_61 q30_61 fk fc rd rc rv sh sle sla bg hd tr) := hD
          refine lv_iconst (v := nI 0) hx hb dX3_front_92 (by decide) ?_
          refine lv_istore (lv' := [(6, .int (nI 0)), (5, .int (cbR (cbN sh sla sle j w (nI u) (nI cc)))), (0, .ref (ad 0)), (1, .int (nI j)), (2, .int (nI w)), (3, .int (nI u)), (4, .int (nI cc))]) hx hb dX3_front_93 hl (by decide) rfl (fun ls hl => ?_)
          have K95 : ∀ (fuel : Nat) (x : Nat) (gki : Nat → Nat) (gst : Nat → Nat) (gwe : Nat → Nat) (glo : Nat → Nat), gki = tkF x (kiT (textA bg (60 * j + u))) ki → gst = tkF x (stT (textA bg (60 * j + u))) st → gwe = tkF x (weT (textA bg (60 * j + u))) we → glo = tkF x (loT (textA bg (60 * j + u))) lo → (x ≤ (cc - 1) / 5) → ((cc - 1) / 5 - x) < fuel → ∀ (H : Heap) (locs : List Loc), va_P D vwCl (wM cI ad (faN (cbN sh sla sle j w (nI u) (nI cc)) fa) ((cc - 1) / 5) 0 gki gst gwe glo ra0_61 ((cc - 1) / 5) q00_61 q10_61 q20_61 q30_61 fk fc rd rc rv sh sle sla bg hd tr) H → va_D (AW (adM ad)) (wM cI ad (faN (cbN sh sla sle j w (nI u) (nI cc)) fa) ((cc - 1) / 5) 0 gki gst gwe glo ra0_61 ((cc - 1) / 5) q00_61 q10_61 q20_61 q30_61 fk fc rd rc rv sh sle sla bg hd tr) → va_S (AW (adM ad)) s.heap H locs → ∀ ls : Array Slot, lv_has ls 7 [(6, .int (nI x)), (5, .int (cbR (cbN sh sla sle j w (nI u) (nI cc)))), (0, .ref (ad 0)), (1, .int (nI j)), (2, .int (nI w)), (3, .int (nI u)), (4, .int (nI cc))] → W p l e ({ frames := 4, cells := 0, slots := 0, locals := 101 }) s m (([.ref (ad 0), .int (nI j), .int (nI w), .int (nI u), .int (nI cc)] : List Value).toArray) below meth c H locs 0 0 (MQ below (va_Qi (fun r (zz : Nat × Nat × (Nat → Int32) × (Nat → Int32) × (Nat → Int32) × (Nat → Int32)) => r = A_front sh sla sle (bigF bg) (nI j) (nI w) (nI u) (nI cc)) (fun (zz : Nat × Nat × (Nat → Int32) × (Nat → Int32) × (Nat → Int32) × (Nat → Int32)) t => va_P D vwCl (wM cI ad (S_front sh sla sle (nI j) (nI w) (nI u) (nI cc)) (ifO (okFront sh sla sle (bigF bg) (nI j) (nI w) (nI u) (nI cc)) (numT (nI cc)) n) (ifO (okFront sh sla sle (bigF bg) (nI j) (nI w) (nI u) (nI cc)) 0 fo) (ifO (okFront sh sla sle (bigF bg) (nI j) (nI w) (nI u) (nI cc)) (tkF (numT (nI cc)) (kiT (textA (bigF bg (nI j).toNatClampNeg) (nI u).toNatClampNeg)) ki) ki) (ifO (okFront sh sla sle (bigF bg) (nI j) (nI w) (nI u) (nI cc)) (tkF (numT (nI cc)) (stT (textA (bigF bg (nI j).toNatClampNeg) (nI u).toNatClampNeg)) st) st) (ifO (okFront sh sla sle (bigF bg) (nI j) (nI w) (nI u) (nI cc)) (tkF (numT (nI cc)) (weT (textA (bigF bg (nI j).toNatClampNeg) (nI u).toNatClampNeg)) we) we) (ifO (okFront sh sla sle (bigF bg) (nI j) (nI w) (nI u) (nI cc)) (tkF (numT (nI cc)) (loT (textA (bigF bg (nI j).toNatClampNeg) (nI u).toNatClampNeg)) lo) lo) zz.1 zz.2.1 zz.2.2.1 zz.2.2.2.1 zz.2.2.2.2.1 zz.2.2.2.2.2 fk fc (ifO (okFront sh sla sle (bigF bg) (nI j) (nI w) (nI u) (nI cc)) 0 rd) rc rv sh sle sla bg hd tr) t.heap) (AW (adM ad))) (([.ref (ad 0), .int (nI j), .int (nI w), .int (nI u), .int (nI cc)] : List Value).toArray) s 0 0 (AW (adM ad))) (F0 m 95 ls []) := by
            intro fuel
            induction fuel with
            | zero => intro x gki gst gwe glo e_gki e_gst e_gwe e_glo hx9 hmu; exact absurd hmu (Nat.not_lt_zero _)
            | succ fuel ih =>
              intro x gki gst gwe glo e_gki e_gst e_gwe e_glo hx9 hmu H locs hP hD hS ls hl
              subst e_gki
              subst e_gst
              subst e_gwe
              subst e_glo
              refine lv_iload hx hb dX3_front_95 (lv_at hl 0 rfl) ?_
              refine lv_aload_n hx hb dX3_front_97 rfl (lv_at hl 2 rfl) ?_
              refine va_get (D := D) (ci := 3) (v := .int (nI ((cc - 1) / 5))) (C := RX3) (T := TX3) (N := 23) hx hb yX3 (fun _ h => h) hown hG.1 hP 0 rfl rfl 1 (by decide) f65 (fun _ h => h) rfl dX3_front_98 ?_
              refine lv_icmp_ge (tgt := 166) hx hb dX3_front_101 (by decide) (fun c_101 => ?_) (fun c_101 => ?_)
              ·
                replace c_101 := (nI_leI (a := (cc - 1) / 5) (b := x) (by omega) (by omega)).mp c_101
                have hin : (cc - 1) / 5 = x := by omega
                subst hin
                refine lv_aload_n hx hb dX3_front_166 rfl (lv_at hl 2 rfl) ?_
                refine lv_iconst (v := nI 0) hx hb dX3_front_167 (by decide) ?_
                refine va_put (D := D) (ci := 3) (v := .int (nI 0)) (ty := .int) (C := RX3) (T := TX3) (N := 23) hx hb yX3 (fun _ h => h) tyX3 tyX3_ok nmX3 hown hG.1 hP hD hS 0 rfl rfl 15 (by decide) f117 (fun _ h => h) rfl (by decide +kernel) rfl rfl (Nat.le_of_ble_eq_true rfl) dX3_front_168 (fun H locs hP hD hS => ?_)
                have hP : va_P D vwCl (wM cI ad (faN (cbN sh sla sle j w (nI u) (nI cc)) fa) ((cc - 1) / 5) 0 (tkF ((cc - 1) / 5) (kiT (textA bg (60 * j + u))) ki) (tkF ((cc - 1) / 5) (stT (textA bg (60 * j + u))) st) (tkF ((cc - 1) / 5) (weT (textA bg (60 * j + u))) we) (tkF ((cc - 1) / 5) (loT (textA bg (60 * j + u))) lo) ra0_61 ((cc - 1) / 5) q00_61 q10_61 q20_61 q30_61 fk fc 0 rc rv sh sle sla bg hd tr) H := hP
                have hD : va_D (AW (adM ad)) (wM cI ad (faN (cbN sh sla sle j w (nI u) (nI cc)) fa) ((cc - 1) / 5) 0 (tkF ((cc - 1) / 5) (kiT (textA bg (60 * j + u))) ki) (tkF ((cc - 1) / 5) (stT (textA bg (60 * j + u))) st) (tkF ((cc - 1) / 5) (weT (textA bg (60 * j + u))) we) (tkF ((cc - 1) / 5) (loT (textA bg (60 * j + u))) lo) ra0_61 ((cc - 1) / 5) q00_61 q10_61 q20_61 q30_61 fk fc 0 rc rv sh sle sla bg hd tr) := hD
                refine lv_aload_n hx hb dX3_front_171 rfl (lv_at hl 2 rfl) ?_
                refine lv_aload_n hx hb dX3_front_172 rfl (lv_at hl 2 rfl) ?_
                refine va_get (D := D) (ci := 3) (v := .int (nI ((cc - 1) / 5))) (C := RX3) (T := TX3) (N := 23) hx hb yX3 (fun _ h => h) hown hG.1 hP 0 rfl rfl 1 (by decide) f65 (fun _ h => h) rfl dX3_front_173 ?_
                refine xmuW (va_runV (As := [.int (nI ((cc - 1) / 5))]) (rest := []) hF (c_X3_refused l D cI cS ad (faN (cbN sh sla sle j w (nI u) (nI cc)) fa) ((cc - 1) / 5) 0 (tkF ((cc - 1) / 5) (kiT (textA bg (60 * j + u))) ki) (tkF ((cc - 1) / 5) (stT (textA bg (60 * j + u))) st) (tkF ((cc - 1) / 5) (weT (textA bg (60 * j + u))) we) (tkF ((cc - 1) / 5) (loT (textA bg (60 * j + u))) lo) ra0_61 ((cc - 1) / 5) q00_61 q10_61 q20_61 q30_61 fk fc 0 rc rv sh sle sla bg hd tr (nI ((cc - 1) / 5)) hnd) (cwV 1 hts gX3_front_X3_refused rfl rfl rfl hV_X3_refused ⟨Nat.le_of_ble_eq_true rfl, Nat.le_of_ble_eq_true rfl⟩) (PR.preV hG hP (ci := 3) rfl rfl) rfl rfl hl.1 rfl (lv_room (Nat.le_of_ble_eq_true rfl)) dX3_front_176 ⟨Nat.le_refl _, Nat.le_refl _⟩) hD hS rfl (fun _ => rfl) (fun r_176 u_176 H locs q_176 hP hD hS => ?_)
                try dsimp only at q_176 hP hD
                have e_176 := q_176
                subst e_176
                have hP : va_P D vwCl (wM cI ad 0 ((cc - 1) / 5) 0 (tkF ((cc - 1) / 5) (kiT (textA bg (60 * j + u))) ki) (tkF ((cc - 1) / 5) (stT (textA bg (60 * j + u))) st) (tkF ((cc - 1) / 5) (weT (textA bg (60 * j + u))) we) (tkF ((cc - 1) / 5) (loT (textA bg (60 * j + u))) lo) ra0_61 ((cc - 1) / 5) q00_61 q10_61 q20_61 q30_61 fk fc 0 rc rv sh sle sla bg hd tr) H := hP
                have hD : va_D (AW (adM ad)) (wM cI ad 0 ((cc - 1) / 5) 0 (tkF ((cc - 1) / 5) (kiT (textA bg (60 * j + u))) ki) (tkF ((cc - 1) / 5) (stT (textA bg (60 * j + u))) st) (tkF ((cc - 1) / 5) (weT (textA bg (60 * j + u))) we) (tkF ((cc - 1) / 5) (loT (textA bg (60 * j + u))) lo) ra0_61 ((cc - 1) / 5) q00_61 q10_61 q20_61 q30_61 fk fc 0 rc rv sh sle sla bg hd tr) := hD
                exact xretM hx hb hr hlk dX3_front_179 hS ⟨ra0_61, (cc - 1) / 5, q00_61, q10_61, q20_61, q30_61⟩ (by rw [fr_A c_4 c_22 hclj hclw, if_pos hcb, hclu, hclc, tx_big, c_64]; simp [numT, hclc]) (fun t ht => by rw [ht]; rw [show ifO (okFront sh sla sle (bigF bg) (nI j) (nI w) (nI u) (nI cc)) (numT (nI cc)) n = ((cc - 1) / 5) from by simp [fr_ok c_4 c_22 hclj hclw, tx_big, ifO, numT, c_4, hclj, c_22, hclw, hcb, hclu, hclc, c_64, c_101]]; rw [show ifO (okFront sh sla sle (bigF bg) (nI j) (nI w) (nI u) (nI cc)) 0 fo = 0 from by simp [fr_ok c_4 c_22 hclj hclw, tx_big, ifO, numT, c_4, hclj, c_22, hclw, hcb, hclu, hclc, c_64, c_101]]; rw [show ifO (okFront sh sla sle (bigF bg) (nI j) (nI w) (nI u) (nI cc)) (tkF (numT (nI cc)) (kiT (textA (bigF bg (nI j).toNatClampNeg) (nI u).toNatClampNeg)) ki) ki = (tkF ((cc - 1) / 5) (kiT (textA bg (60 * j + u))) ki) from by simp [fr_ok c_4 c_22 hclj hclw, tx_big, ifO, numT, c_4, hclj, c_22, hclw, hcb, hclu, hclc, c_64, c_101]]; rw [show ifO (okFront sh sla sle (bigF bg) (nI j) (nI w) (nI u) (nI cc)) (tkF (numT (nI cc)) (stT (textA (bigF bg (nI j).toNatClampNeg) (nI u).toNatClampNeg)) st) st = (tkF ((cc - 1) / 5) (stT (textA bg (60 * j + u))) st) from by simp [fr_ok c_4 c_22 hclj hclw, tx_big, ifO, numT, c_4, hclj, c_22, hclw, hcb, hclu, hclc, c_64, c_101]]; rw [show ifO (okFront sh sla sle (bigF bg) (nI j) (nI w) (nI u) (nI cc)) (tkF (numT (nI cc)) (weT (textA (bigF bg (nI j).toNatClampNeg) (nI u).toNatClampNeg)) we) we = (tkF ((cc - 1) / 5) (weT (textA bg (60 * j + u))) we) from by simp [fr_ok c_4 c_22 hclj hclw, tx_big, ifO, numT, c_4, hclj, c_22, hclw, hcb, hclu, hclc, c_64, c_101]]; rw [show ifO (okFront sh sla sle (bigF bg) (nI j) (nI w) (nI u) (nI cc)) (tkF (numT (nI cc)) (loT (textA (bigF bg (nI j).toNatClampNeg) (nI u).toNatClampNeg)) lo) lo = (tkF ((cc - 1) / 5) (loT (textA bg (60 * j + u))) lo) from by simp [fr_ok c_4 c_22 hclj hclw, tx_big, ifO, numT, c_4, hclj, c_22, hclw, hcb, hclu, hclc, c_64, c_101]]; rw [show ifO (okFront sh sla sle (bigF bg) (nI j) (nI w) (nI u) (nI cc)) 0 rd = 0 from by simp [fr_ok c_4 c_22 hclj hclw, tx_big, ifO, numT, c_4, hclj, c_22, hclw, hcb, hclu, hclc, c_64, c_101]]; rw [show S_front sh sla sle (nI j) (nI w) (nI u) (nI cc) = 0 from by rw [fr_S c_4 c_22 hclj hclw, hcb]]; exact hP)
              ·
                replace c_101 := (not_congr (nI_leI (a := (cc - 1) / 5) (b := x) (by omega) (by omega))).mp c_101
                refine lv_aload_n hx hb dX3_front_104 rfl (lv_at hl 2 rfl) ?_
                refine va_get (D := D) (ci := 3) (v := .ref (ad 1)) (C := RX3) (T := TX3) (N := 23) hx hb yX3 (fun _ h => h) hown hG.1 hP 0 rfl rfl 3 (by decide) f7 (fun _ h => h) rfl dX3_front_105 ?_
                refine lv_iload hx hb dX3_front_108 (lv_at hl 0 rfl) ?_
                refine lv_aload_n hx hb dX3_front_110 rfl (lv_at hl 2 rfl) ?_
                refine va_get (D := D) (ci := 3) (v := .ref (ad 5)) (C := RX3) (T := TX3) (N := 23) hx hb yX3 (fun _ h => h) hown hG.1 hP 0 rfl rfl 9 (by decide) f22 (fun _ h => h) rfl dX3_front_111 ?_
                refine lv_iload hx hb dX3_front_114 (lv_at hl 0 rfl) ?_
                refine xald hx hb hG hP 5 rfl (x) rfl (by omega) (by decide) dX3_front_116 ?_
                refine xtop (x' := nI (kiT (textA bg (60 * j + u)) x)) (by exact (hrq x (by omega)).1) ?_
                refine xastN hx hb hG hP hD hS 1 rfl (x) (kiT (textA bg (60 * j + u)) x) rfl rfl (by omega) (by decide) dX3_front_117 (fun H locs hP hD hS => ?_)
                have hP : va_P D vwCl (wM cI ad (faN (cbN sh sla sle j w (nI u) (nI cc)) fa) ((cc - 1) / 5) 0 (updN (tkF x (kiT (textA bg (60 * j + u))) ki) x (kiT (textA bg (60 * j + u)) x)) (tkF x (stT (textA bg (60 * j + u))) st) (tkF x (weT (textA bg (60 * j + u))) we) (tkF x (loT (textA bg (60 * j + u))) lo) ra0_61 ((cc - 1) / 5) q00_61 q10_61 q20_61 q30_61 fk fc rd rc rv sh sle sla bg hd tr) H := hP
                have hD : va_D (AW (adM ad)) (wM cI ad (faN (cbN sh sla sle j w (nI u) (nI cc)) fa) ((cc - 1) / 5) 0 (updN (tkF x (kiT (textA bg (60 * j + u))) ki) x (kiT (textA bg (60 * j + u)) x)) (tkF x (stT (textA bg (60 * j + u))) st) (tkF x (weT (textA bg (60 * j + u))) we) (tkF x (loT (textA bg (60 * j + u))) lo) ra0_61 ((cc - 1) / 5) q00_61 q10_61 q20_61 q30_61 fk fc rd rc rv sh sle sla bg hd tr) := hD
                refine lv_aload_n hx hb dX3_front_118 rfl (lv_at hl 2 rfl) ?_
                refine va_get (D := D) (ci := 3) (v := .ref (ad 2)) (C := RX3) (T := TX3) (N := 23) hx hb yX3 (fun _ h => h) hown hG.1 hP 0 rfl rfl 4 (by decide) f13 (fun _ h => h) rfl dX3_front_119 ?_
                refine lv_iload hx hb dX3_front_122 (lv_at hl 0 rfl) ?_
                refine lv_aload_n hx hb dX3_front_124 rfl (lv_at hl 2 rfl) ?_
                refine va_get (D := D) (ci := 3) (v := .ref (ad 6)) (C := RX3) (T := TX3) (N := 23) hx hb yX3 (fun _ h => h) hown hG.1 hP 0 rfl rfl 10 (by decide) f25 (fun _ h => h) rfl dX3_front_125 ?_
                refine lv_iload hx hb dX3_front_128 (lv_at hl 0 rfl) ?_
                refine xald hx hb hG hP 6 rfl (x) rfl (by omega) (by decide) dX3_front_130 ?_
                refine xtop (x' := nI (stT (textA bg (60 * j + u)) x)) (by exact (hrq x (by omega)).2.1) ?_
                refine xastN hx hb hG hP hD hS 2 rfl (x) (stT (textA bg (60 * j + u)) x) rfl rfl (by omega) (by decide) dX3_front_131 (fun H locs hP hD hS => ?_)
                have hP : va_P D vwCl (wM cI ad (faN (cbN sh sla sle j w (nI u) (nI cc)) fa) ((cc - 1) / 5) 0 (updN (tkF x (kiT (textA bg (60 * j + u))) ki) x (kiT (textA bg (60 * j + u)) x)) (updN (tkF x (stT (textA bg (60 * j + u))) st) x (stT (textA bg (60 * j + u)) x)) (tkF x (weT (textA bg (60 * j + u))) we) (tkF x (loT (textA bg (60 * j + u))) lo) ra0_61 ((cc - 1) / 5) q00_61 q10_61 q20_61 q30_61 fk fc rd rc rv sh sle sla bg hd tr) H := hP
                have hD : va_D (AW (adM ad)) (wM cI ad (faN (cbN sh sla sle j w (nI u) (nI cc)) fa) ((cc - 1) / 5) 0 (updN (tkF x (kiT (textA bg (60 * j + u))) ki) x (kiT (textA bg (60 * j + u)) x)) (updN (tkF x (stT (textA bg (60 * j + u))) st) x (stT (textA bg (60 * j + u)) x)) (tkF x (weT (textA bg (60 * j + u))) we) (tkF x (loT (textA bg (60 * j + u))) lo) ra0_61 ((cc - 1) / 5) q00_61 q10_61 q20_61 q30_61 fk fc rd rc rv sh sle sla bg hd tr) := hD
                refine lv_aload_n hx hb dX3_front_132 rfl (lv_at hl 2 rfl) ?_
                refine va_get (D := D) (ci := 3) (v := .ref (ad 3)) (C := RX3) (T := TX3) (N := 23) hx hb yX3 (fun _ h => h) hown hG.1 hP 0 rfl rfl 5 (by decide) f16 (fun _ h => h) rfl dX3_front_133 ?_
                refine lv_iload hx hb dX3_front_136 (lv_at hl 0 rfl) ?_
                refine lv_aload_n hx hb dX3_front_138 rfl (lv_at hl 2 rfl) ?_
                refine va_get (D := D) (ci := 3) (v := .ref (ad 7)) (C := RX3) (T := TX3) (N := 23) hx hb yX3 (fun _ h => h) hown hG.1 hP 0 rfl rfl 11 (by decide) f28 (fun _ h => h) rfl dX3_front_139 ?_
                refine lv_iload hx hb dX3_front_142 (lv_at hl 0 rfl) ?_
                refine xald hx hb hG hP 7 rfl (x) rfl (by omega) (by decide) dX3_front_144 ?_
                refine xtop (x' := nI (weT (textA bg (60 * j + u)) x)) (by exact (hrq x (by omega)).2.2.1) ?_
                refine xastN hx hb hG hP hD hS 3 rfl (x) (weT (textA bg (60 * j + u)) x) rfl rfl (by omega) (by decide) dX3_front_145 (fun H locs hP hD hS => ?_)
                have hP : va_P D vwCl (wM cI ad (faN (cbN sh sla sle j w (nI u) (nI cc)) fa) ((cc - 1) / 5) 0 (updN (tkF x (kiT (textA bg (60 * j + u))) ki) x (kiT (textA bg (60 * j + u)) x)) (updN (tkF x (stT (textA bg (60 * j + u))) st) x (stT (textA bg (60 * j + u)) x)) (updN (tkF x (weT (textA bg (60 * j + u))) we) x (weT (textA bg (60 * j + u)) x)) (tkF x (loT (textA bg (60 * j + u))) lo) ra0_61 ((cc - 1) / 5) q00_61 q10_61 q20_61 q30_61 fk fc rd rc rv sh sle sla bg hd tr) H := hP
                have hD : va_D (AW (adM ad)) (wM cI ad (faN (cbN sh sla sle j w (nI u) (nI cc)) fa) ((cc - 1) / 5) 0 (updN (tkF x (kiT (textA bg (60 * j + u))) ki) x (kiT (textA bg (60 * j + u)) x)) (updN (tkF x (stT (textA bg (60 * j + u))) st) x (stT (textA bg (60 * j + u)) x)) (updN (tkF x (weT (textA bg (60 * j + u))) we) x (weT (textA bg (60 * j + u)) x)) (tkF x (loT (textA bg (60 * j + u))) lo) ra0_61 ((cc - 1) / 5) q00_61 q10_61 q20_61 q30_61 fk fc rd rc rv sh sle sla bg hd tr) := hD
                refine lv_aload_n hx hb dX3_front_146 rfl (lv_at hl 2 rfl) ?_
                refine va_get (D := D) (ci := 3) (v := .ref (ad 4)) (C := RX3) (T := TX3) (N := 23) hx hb yX3 (fun _ h => h) hown hG.1 hP 0 rfl rfl 6 (by decide) f19 (fun _ h => h) rfl dX3_front_147 ?_
                refine lv_iload hx hb dX3_front_150 (lv_at hl 0 rfl) ?_
                refine lv_aload_n hx hb dX3_front_152 rfl (lv_at hl 2 rfl) ?_
                refine va_get (D := D) (ci := 3) (v := .ref (ad 8)) (C := RX3) (T := TX3) (N := 23) hx hb yX3 (fun _ h => h) hown hG.1 hP 0 rfl rfl 12 (by decide) f31 (fun _ h => h) rfl dX3_front_153 ?_
                refine lv_iload hx hb dX3_front_156 (lv_at hl 0 rfl) ?_
                refine xald hx hb hG hP 8 rfl (x) rfl (by omega) (by decide) dX3_front_158 ?_
                refine xtop (x' := nI (loT (textA bg (60 * j + u)) x)) (by exact (hrq x (by omega)).2.2.2) ?_
                refine xastN hx hb hG hP hD hS 4 rfl (x) (loT (textA bg (60 * j + u)) x) rfl rfl (by omega) (by decide) dX3_front_159 (fun H locs hP hD hS => ?_)
                have hP : va_P D vwCl (wM cI ad (faN (cbN sh sla sle j w (nI u) (nI cc)) fa) ((cc - 1) / 5) 0 (updN (tkF x (kiT (textA bg (60 * j + u))) ki) x (kiT (textA bg (60 * j + u)) x)) (updN (tkF x (stT (textA bg (60 * j + u))) st) x (stT (textA bg (60 * j + u)) x)) (updN (tkF x (weT (textA bg (60 * j + u))) we) x (weT (textA bg (60 * j + u)) x)) (updN (tkF x (loT (textA bg (60 * j + u))) lo) x (loT (textA bg (60 * j + u)) x)) ra0_61 ((cc - 1) / 5) q00_61 q10_61 q20_61 q30_61 fk fc rd rc rv sh sle sla bg hd tr) H := hP
                have hD : va_D (AW (adM ad)) (wM cI ad (faN (cbN sh sla sle j w (nI u) (nI cc)) fa) ((cc - 1) / 5) 0 (updN (tkF x (kiT (textA bg (60 * j + u))) ki) x (kiT (textA bg (60 * j + u)) x)) (updN (tkF x (stT (textA bg (60 * j + u))) st) x (stT (textA bg (60 * j + u)) x)) (updN (tkF x (weT (textA bg (60 * j + u))) we) x (weT (textA bg (60 * j + u)) x)) (updN (tkF x (loT (textA bg (60 * j + u))) lo) x (loT (textA bg (60 * j + u)) x)) ra0_61 ((cc - 1) / 5) q00_61 q10_61 q20_61 q30_61 fk fc rd rc rv sh sle sla bg hd tr) := hD
                refine lv_iinc (v := nI (x + 1)) (lv' := [(6, .int (nI (x + 1))), (5, .int (cbR (cbN sh sla sle j w (nI u) (nI cc)))), (0, .ref (ad 0)), (1, .int (nI j)), (2, .int (nI w)), (3, .int (nI u)), (4, .int (nI cc))]) hx hb dX3_front_160 hl (k := 0) rfl xinc1 (by decide) rfl (fun ls hl => ?_)
                refine lv_goto (tgt := 95) hx hb dX3_front_163 (by decide) ?_
                exact ih (x + 1) (updN (tkF x (kiT (textA bg (60 * j + u))) ki) x (kiT (textA bg (60 * j + u)) x)) (updN (tkF x (stT (textA bg (60 * j + u))) st) x (stT (textA bg (60 * j + u)) x)) (updN (tkF x (weT (textA bg (60 * j + u))) we) x (weT (textA bg (60 * j + u)) x)) (updN (tkF x (loT (textA bg (60 * j + u))) lo) x (loT (textA bg (60 * j + u)) x)) (by exact tkF_s rfl) (by exact tkF_s rfl) (by exact tkF_s rfl) (by exact tkF_s rfl) (by omega) (by omega) _ _ hP hD hS ls (lv_sub hl [0, 1, 2, 3, 4, 5, 6] rfl)
          exact K95 _ 0 ki st we lo (by first | exact tkF_0.symm | omega) (by first | exact tkF_0.symm | omega) (by first | exact tkF_0.symm | omega) (by first | exact tkF_0.symm | omega) (by first | exact tkF_0.symm | omega) (Nat.lt_succ_self _) _ _ hP hD hS ls (lv_sub hl [0, 1, 2, 3, 4, 5, 6] rfl)
        ·
          replace c_64 := bI_0.mp c_64
          have hpl := rf_pn q_61 c_64
          refine lv_aload_n hx hb dX3_front_67 rfl (lv_at hl 1 rfl) ?_
          refine lv_bipush (v := (-100)) hx hb dX3_front_68 (by decide) ?_
          refine lv_aload_n hx hb dX3_front_70 rfl (lv_at hl 1 rfl) ?_
          refine va_get (D := D) (ci := 3) (v := .int (nI ra0_61)) (C := RX3) (T := TX3) (N := 23) hx hb yX3 (fun _ h => h) hown hG.1 hP 0 rfl rfl 7 (by decide) f72 (fun _ h => h) rfl dX3_front_71 ?_
          refine lv_isub hx hb dX3_front_74 ?_
          refine xmuW (va_runV (As := [.int ((-100) - (nI ra0_61))]) (rest := []) hF (c_X3_refused l D cI cS ad (faN (cbN sh sla sle j w (nI u) (nI cc)) fa) n fo ki st we lo ra0_61 rch0_61 q00_61 q10_61 q20_61 q30_61 fk fc rd rc rv sh sle sla bg hd tr ((-100) - (nI ra0_61)) hnd) (cwV 1 hts gX3_front_X3_refused rfl rfl rfl hV_X3_refused ⟨Nat.le_of_ble_eq_true rfl, Nat.le_of_ble_eq_true rfl⟩) (PR.preV hG hP (ci := 3) rfl rfl) rfl rfl hl.1 rfl (lv_room (Nat.le_of_ble_eq_true rfl)) dX3_front_75 ⟨Nat.le_refl _, Nat.le_refl _⟩) hD hS rfl (fun _ => rfl) (fun r_75 u_75 H locs q_75 hP hD hS => ?_)
          try dsimp only at q_75 hP hD
          have e_75 := q_75
          subst e_75
          have hP : va_P D vwCl (wM cI ad 0 n fo ki st we lo ra0_61 rch0_61 q00_61 q10_61 q20_61 q30_61 fk fc rd rc rv sh sle sla bg hd tr) H := hP
          have hD : va_D (AW (adM ad)) (wM cI ad 0 n fo ki st we lo ra0_61 rch0_61 q00_61 q10_61 q20_61 q30_61 fk fc rd rc rv sh sle sla bg hd tr) := hD
          exact xretM hx hb hr hlk dX3_front_78 hS ⟨ra0_61, rch0_61, q00_61, q10_61, q20_61, q30_61⟩ (by rw [fr_A c_4 c_22 hclj hclw, if_pos hcb, hclu, hclc, tx_big, c_64, hpl]; rfl) (fun t ht => by rw [ht]; rw [show ifO (okFront sh sla sle (bigF bg) (nI j) (nI w) (nI u) (nI cc)) (numT (nI cc)) n = n from by simp [fr_ok c_4 c_22 hclj hclw, tx_big, ifO, numT, c_4, hclj, c_22, hclw, hcb, hclu, hclc, c_64]]; rw [show ifO (okFront sh sla sle (bigF bg) (nI j) (nI w) (nI u) (nI cc)) 0 fo = fo from by simp [fr_ok c_4 c_22 hclj hclw, tx_big, ifO, numT, c_4, hclj, c_22, hclw, hcb, hclu, hclc, c_64]]; rw [show ifO (okFront sh sla sle (bigF bg) (nI j) (nI w) (nI u) (nI cc)) (tkF (numT (nI cc)) (kiT (textA (bigF bg (nI j).toNatClampNeg) (nI u).toNatClampNeg)) ki) ki = ki from by simp [fr_ok c_4 c_22 hclj hclw, tx_big, ifO, numT, c_4, hclj, c_22, hclw, hcb, hclu, hclc, c_64]]; rw [show ifO (okFront sh sla sle (bigF bg) (nI j) (nI w) (nI u) (nI cc)) (tkF (numT (nI cc)) (stT (textA (bigF bg (nI j).toNatClampNeg) (nI u).toNatClampNeg)) st) st = st from by simp [fr_ok c_4 c_22 hclj hclw, tx_big, ifO, numT, c_4, hclj, c_22, hclw, hcb, hclu, hclc, c_64]]; rw [show ifO (okFront sh sla sle (bigF bg) (nI j) (nI w) (nI u) (nI cc)) (tkF (numT (nI cc)) (weT (textA (bigF bg (nI j).toNatClampNeg) (nI u).toNatClampNeg)) we) we = we from by simp [fr_ok c_4 c_22 hclj hclw, tx_big, ifO, numT, c_4, hclj, c_22, hclw, hcb, hclu, hclc, c_64]]; rw [show ifO (okFront sh sla sle (bigF bg) (nI j) (nI w) (nI u) (nI cc)) (tkF (numT (nI cc)) (loT (textA (bigF bg (nI j).toNatClampNeg) (nI u).toNatClampNeg)) lo) lo = lo from by simp [fr_ok c_4 c_22 hclj hclw, tx_big, ifO, numT, c_4, hclj, c_22, hclw, hcb, hclu, hclc, c_64]]; rw [show ifO (okFront sh sla sle (bigF bg) (nI j) (nI w) (nI u) (nI cc)) 0 rd = rd from by simp [fr_ok c_4 c_22 hclj hclw, tx_big, ifO, numT, c_4, hclj, c_22, hclw, hcb, hclu, hclc, c_64]]; rw [show S_front sh sla sle (nI j) (nI w) (nI u) (nI cc) = 0 from by rw [fr_S c_4 c_22 hclj hclw, hcb]]; exact hP)
      ·
        replace c_46 : ¬ 0 ≤ (cbR (cbN sh sla sle j w i ct)).toInt := (not_congr (i32_gec (b := 0) (by omega))).mp c_46
        have hcb := cbR_lt c_46
        refine lv_iload hx hb dX3_front_49 (lv_at hl 0 rfl) ?_
        exact xretM hx hb hr hlk dX3_front_51 hS ⟨ra, rch, q0, q1, q2, q3⟩ (by rw [fr_A c_4 c_22 hclj hclw, if_neg hcb]; unfold cbR; rw [if_neg hcb]) (fun t ht => by rw [ht]; rw [show ifO (okFront sh sla sle (bigF bg) (nI j) (nI w) i ct) (numT ct) n = n from by simp [fr_ok c_4 c_22 hclj hclw, tx_big, ifO, numT, c_4, hclj, c_22, hclw, hcb]]; rw [show ifO (okFront sh sla sle (bigF bg) (nI j) (nI w) i ct) 0 fo = fo from by simp [fr_ok c_4 c_22 hclj hclw, tx_big, ifO, numT, c_4, hclj, c_22, hclw, hcb]]; rw [show ifO (okFront sh sla sle (bigF bg) (nI j) (nI w) i ct) (tkF (numT ct) (kiT (textA (bigF bg (nI j).toNatClampNeg) i.toNatClampNeg)) ki) ki = ki from by simp [fr_ok c_4 c_22 hclj hclw, tx_big, ifO, numT, c_4, hclj, c_22, hclw, hcb]]; rw [show ifO (okFront sh sla sle (bigF bg) (nI j) (nI w) i ct) (tkF (numT ct) (stT (textA (bigF bg (nI j).toNatClampNeg) i.toNatClampNeg)) st) st = st from by simp [fr_ok c_4 c_22 hclj hclw, tx_big, ifO, numT, c_4, hclj, c_22, hclw, hcb]]; rw [show ifO (okFront sh sla sle (bigF bg) (nI j) (nI w) i ct) (tkF (numT ct) (weT (textA (bigF bg (nI j).toNatClampNeg) i.toNatClampNeg)) we) we = we from by simp [fr_ok c_4 c_22 hclj hclw, tx_big, ifO, numT, c_4, hclj, c_22, hclw, hcb]]; rw [show ifO (okFront sh sla sle (bigF bg) (nI j) (nI w) i ct) (tkF (numT ct) (loT (textA (bigF bg (nI j).toNatClampNeg) i.toNatClampNeg)) lo) lo = lo from by simp [fr_ok c_4 c_22 hclj hclw, tx_big, ifO, numT, c_4, hclj, c_22, hclw, hcb]]; rw [show ifO (okFront sh sla sle (bigF bg) (nI j) (nI w) i ct) 0 rd = rd from by simp [fr_ok c_4 c_22 hclj hclw, tx_big, ifO, numT, c_4, hclj, c_22, hclw, hcb]]; rw [show S_front sh sla sle (nI j) (nI w) i ct = (faN (cbN sh sla sle j w i ct) fa) from by rw [fr_S c_4 c_22 hclj hclw]; unfold faN; rw [if_neg hcb]]; exact hP)
    ·
      replace c_22 := bI_0.mp c_22
      refine lv_aload_n hx hb dX3_front_25 rfl (lv_at hl 0 rfl) ?_
      refine lv_bipush (v := (-2)) hx hb dX3_front_26 (by decide) ?_
      refine xmuW (va_runV (As := [.int (-2)]) (rest := []) hF (c_X3_refused l D cI cS ad fa n fo ki st we lo ra rch q0 q1 q2 q3 fk fc rd rc rv sh sle sla bg hd tr (-2) hnd) (cwV 1 hts gX3_front_X3_refused rfl rfl rfl hV_X3_refused ⟨Nat.le_of_ble_eq_true rfl, Nat.le_of_ble_eq_true rfl⟩) (PR.preV hG hP (ci := 3) rfl rfl) rfl rfl hl.1 rfl (lv_room (Nat.le_of_ble_eq_true rfl)) dX3_front_28 ⟨Nat.le_refl _, Nat.le_refl _⟩) hD hS rfl (fun _ => rfl) (fun r_28 u_28 H locs q_28 hP hD hS => ?_)
      try dsimp only at q_28 hP hD
      have e_28 := q_28
      subst e_28
      have hP : va_P D vwCl (wM cI ad 0 n fo ki st we lo ra rch q0 q1 q2 q3 fk fc rd rc rv sh sle sla bg hd tr) H := hP
      have hD : va_D (AW (adM ad)) (wM cI ad 0 n fo ki st we lo ra rch q0 q1 q2 q3 fk fc rd rc rv sh sle sla bg hd tr) := hD
      exact xretM hx hb hr hlk dX3_front_31 hS ⟨ra, rch, q0, q1, q2, q3⟩ (by simp [A_front, c_4, hclj, c_22]) (fun t ht => by rw [ht]; rw [show ifO (okFront sh sla sle (bigF bg) (nI j) la i ct) (numT ct) n = n from by simp [okFront, ifO, c_4, hclj, c_22]]; rw [show ifO (okFront sh sla sle (bigF bg) (nI j) la i ct) 0 fo = fo from by simp [okFront, ifO, c_4, hclj, c_22]]; rw [show ifO (okFront sh sla sle (bigF bg) (nI j) la i ct) (tkF (numT ct) (kiT (textA (bigF bg (nI j).toNatClampNeg) i.toNatClampNeg)) ki) ki = ki from by simp [okFront, ifO, c_4, hclj, c_22]]; rw [show ifO (okFront sh sla sle (bigF bg) (nI j) la i ct) (tkF (numT ct) (stT (textA (bigF bg (nI j).toNatClampNeg) i.toNatClampNeg)) st) st = st from by simp [okFront, ifO, c_4, hclj, c_22]]; rw [show ifO (okFront sh sla sle (bigF bg) (nI j) la i ct) (tkF (numT ct) (weT (textA (bigF bg (nI j).toNatClampNeg) i.toNatClampNeg)) we) we = we from by simp [okFront, ifO, c_4, hclj, c_22]]; rw [show ifO (okFront sh sla sle (bigF bg) (nI j) la i ct) (tkF (numT ct) (loT (textA (bigF bg (nI j).toNatClampNeg) i.toNatClampNeg)) lo) lo = lo from by simp [okFront, ifO, c_4, hclj, c_22]]; rw [show ifO (okFront sh sla sle (bigF bg) (nI j) la i ct) 0 rd = rd from by simp [okFront, ifO, c_4, hclj, c_22]]; rw [show S_front sh sla sle (nI j) la i ct = 0 from by simp [S_front, c_4, hclj, c_22]]; exact hP)
  ·
    replace c_4 := bI_n0.mp c_4
    replace c_4 := (by simpa using c_4 : (rgB 0 3 k) = false)
    refine lv_aload_n hx hb dX3_front_7 rfl (lv_at hl 0 rfl) ?_
    refine lv_iconst (v := (-1)) hx hb dX3_front_8 (by decide) ?_
    refine xmuW (va_runV (As := [.int (-1)]) (rest := []) hF (c_X3_refused l D cI cS ad fa n fo ki st we lo ra rch q0 q1 q2 q3 fk fc rd rc rv sh sle sla bg hd tr (-1) hnd) (cwV 1 hts gX3_front_X3_refused rfl rfl rfl hV_X3_refused ⟨Nat.le_of_ble_eq_true rfl, Nat.le_of_ble_eq_true rfl⟩) (PR.preV hG hP (ci := 3) rfl rfl) rfl rfl hl.1 rfl (lv_room (Nat.le_of_ble_eq_true rfl)) dX3_front_9 ⟨Nat.le_refl _, Nat.le_refl _⟩) hD hS rfl (fun _ => rfl) (fun r_9 u_9 H locs q_9 hP hD hS => ?_)
    try dsimp only at q_9 hP hD
    have e_9 := q_9
    subst e_9
    have hP : va_P D vwCl (wM cI ad 0 n fo ki st we lo ra rch q0 q1 q2 q3 fk fc rd rc rv sh sle sla bg hd tr) H := hP
    have hD : va_D (AW (adM ad)) (wM cI ad 0 n fo ki st we lo ra rch q0 q1 q2 q3 fk fc rd rc rv sh sle sla bg hd tr) := hD
    exact xretM hx hb hr hlk dX3_front_12 hS ⟨ra, rch, q0, q1, q2, q3⟩ (by simp [A_front, c_4]) (fun t ht => by rw [ht]; rw [show ifO (okFront sh sla sle (bigF bg) k la i ct) (numT ct) n = n from by simp [okFront, ifO, c_4]]; rw [show ifO (okFront sh sla sle (bigF bg) k la i ct) 0 fo = fo from by simp [okFront, ifO, c_4]]; rw [show ifO (okFront sh sla sle (bigF bg) k la i ct) (tkF (numT ct) (kiT (textA (bigF bg k.toNatClampNeg) i.toNatClampNeg)) ki) ki = ki from by simp [okFront, ifO, c_4]]; rw [show ifO (okFront sh sla sle (bigF bg) k la i ct) (tkF (numT ct) (stT (textA (bigF bg k.toNatClampNeg) i.toNatClampNeg)) st) st = st from by simp [okFront, ifO, c_4]]; rw [show ifO (okFront sh sla sle (bigF bg) k la i ct) (tkF (numT ct) (weT (textA (bigF bg k.toNatClampNeg) i.toNatClampNeg)) we) we = we from by simp [okFront, ifO, c_4]]; rw [show ifO (okFront sh sla sle (bigF bg) k la i ct) (tkF (numT ct) (loT (textA (bigF bg k.toNatClampNeg) i.toNatClampNeg)) lo) lo = lo from by simp [okFront, ifO, c_4]]; rw [show ifO (okFront sh sla sle (bigF bg) k la i ct) 0 rd = rd from by simp [okFront, ifO, c_4]]; rw [show S_front sh sla sle k la i ct = 0 from by simp [S_front, c_4]]; exact hP)

set_option maxHeartbeats 4000000 in
set_option maxRecDepth 100000 in
theorem c_X3_pairsBarred (l : Launch) (D : va_G) (cI cS : ClassId) (ad : Nat → Nat) (fa : Nat) (n : Nat) (fo : Nat) (ki : Nat → Nat) (st : Nat → Nat) (we : Nat → Nat) (lo : Nat → Nat) (ra : Nat) (rch : Nat) (q0 : Nat → Int32) (q1 : Nat → Int32) (q2 : Nat → Int32) (q3 : Nat → Int32) (fk : Nat) (fc : Nat → Nat) (rd : Nat) (rc : Nat → Nat) (rv : Nat → Nat) (sh : Nat → Bool) (sle : Nat → Nat) (sla : Nat → Nat) (bg : Nat → Int32) (hd : Nat → Int32) (tr : Int32) (u : Nat) (ct : Nat) (hn : n ≤ 8) (hct : ct ≤ 20) (hu : u + 2 * ct ≤ 240) : Met l yX3_pairsBarred wsX3_pairsBarred ({ frames := 2, cells := 0, slots := 0, locals := 46 }) (PR D cI cS [.ref (ad 0), .int (nI u), .int (nI ct)] (wM cI ad fa n fo ki st we lo ra rch q0 q1 q2 q3 fk fc rd rc rv sh sle sla bg hd tr)) (vp_Si (fun r => r = firstR (refD n bg u) ct)) 0 0 (fun _ => False) := by
  refine startR (by decide) rfl (Nat.le_of_ble_eq_true rfl) ?_
  intro p e s m below meth c hx hb hr hts hown hlk hml hG hP ls hl
  have hl : lv_has ls 7 [(0, .ref (ad 0)), (1, .int (nI u)), (2, .int (nI ct))] := hl
  have f49 := hts (.fieldLink RX3 49 "ChairBallotModel" "sheet" "[I") (by decide +kernel)
  have yX3 : ∀ w ∈ u_ws RX3 TX3 23, w.before _ s = true := fun w h => hts w ((by decide +kernel : ∀ w ∈ wsX30, w ∈ wsX3_pairsBarred) w h)
  have hF : CallFix p m c cX3_pairsBarred 7 s _ wsX3_pairsBarred RX3 := ⟨hx, hb, hml, hown, hts⟩
  refine lv_iconst (v := nI 0) hx hb dX3_pairsBarred_0 (by decide) ?_
  refine lv_istore_n (lv' := [(3, .int (nI 0)), (0, .ref (ad 0)), (1, .int (nI u)), (2, .int (nI ct))]) hx hb dX3_pairsBarred_1 rfl hl (by decide) rfl (fun ls hl => ?_)
  have K2 : ∀ (fuel : Nat) (i : Nat), (i ≤ ct) → (∀ r, r < i → refD n bg u r = nI 0) → (ct - i) < fuel → ∀ ls : Array Slot, lv_has ls 7 [(3, .int (nI i)), (0, .ref (ad 0)), (1, .int (nI u)), (2, .int (nI ct))] → W p l e ({ frames := 2, cells := 0, slots := 0, locals := 46 }) s m (([.ref (ad 0), .int (nI u), .int (nI ct)] : List Value).toArray) below meth c s.heap [] 0 0 (MQ below (vp_Si (fun r => r = firstR (refD n bg u) ct)) (([.ref (ad 0), .int (nI u), .int (nI ct)] : List Value).toArray) s 0 0 (fun _ => False)) (F0 m 2 ls []) := by
    intro fuel
    induction fuel with
    | zero => intro i hi hno hmu; exact absurd hmu (Nat.not_lt_zero _)
    | succ fuel ih =>
      intro i hi hno hmu ls hl
      refine lv_iload_n hx hb dX3_pairsBarred_2 rfl (lv_at hl 0 rfl) ?_
      refine lv_iload_n hx hb dX3_pairsBarred_3 rfl (lv_at hl 3 rfl) ?_
      refine lv_icmp_ge (tgt := 131) hx hb dX3_pairsBarred_4 (by decide) (fun c_4 => ?_) (fun c_4 => ?_)
      ·
        replace c_4 := (nI_leI (a := ct) (b := i) (by omega) (by omega)).mp c_4
        have hin : ct = i := by omega
        subst hin
        refine lv_iconst (v := nI 0) hx hb dX3_pairsBarred_131 (by decide) ?_
        exact xretR hx hb hr hlk dX3_pairsBarred_132 (by exact (fr_zero hno).symm)
      ·
        replace c_4 := (not_congr (nI_leI (a := ct) (b := i) (by omega) (by omega))).mp c_4
        refine lv_aload_n hx hb dX3_pairsBarred_7 rfl (lv_at hl 1 rfl) ?_
        refine va_get (D := D) (ci := 3) (v := .ref (ad 14)) (C := RX3) (T := TX3) (N := 23) hx hb yX3 (fun _ h => h) hown hG.1 hP 0 rfl rfl 20 (by decide) f49 (fun _ h => h) rfl dX3_pairsBarred_8 ?_
        refine lv_iload_n hx hb dX3_pairsBarred_11 rfl (lv_at hl 2 rfl) ?_
        refine lv_iconst (v := nI 2) hx hb dX3_pairsBarred_12 (by decide) ?_
        refine lv_iload_n hx hb dX3_pairsBarred_13 rfl (lv_at hl 0 rfl) ?_
        refine xmulN hx hb dX3_pairsBarred_14 ?_
        refine xaddN hx hb dX3_pairsBarred_15 ?_
        refine xald hx hb hG hP 14 rfl (u + (2 * i)) rfl (by omega) (by decide) dX3_pairsBarred_16 ?_
        refine lv_istore (lv' := [(4, .int (bg (u + (2 * i)))), (3, .int (nI i)), (0, .ref (ad 0)), (1, .int (nI u)), (2, .int (nI ct))]) hx hb dX3_pairsBarred_17 hl (by decide) rfl (fun ls hl => ?_)
        refine lv_aload_n hx hb dX3_pairsBarred_19 rfl (lv_at hl 2 rfl) ?_
        refine va_get (D := D) (ci := 3) (v := .ref (ad 14)) (C := RX3) (T := TX3) (N := 23) hx hb yX3 (fun _ h => h) hown hG.1 hP 0 rfl rfl 20 (by decide) f49 (fun _ h => h) rfl dX3_pairsBarred_20 ?_
        refine lv_iload_n hx hb dX3_pairsBarred_23 rfl (lv_at hl 3 rfl) ?_
        refine lv_iconst (v := nI 2) hx hb dX3_pairsBarred_24 (by decide) ?_
        refine lv_iload_n hx hb dX3_pairsBarred_25 rfl (lv_at hl 1 rfl) ?_
        refine xmulN hx hb dX3_pairsBarred_26 ?_
        refine xaddN hx hb dX3_pairsBarred_27 ?_
        refine lv_iconst (v := nI 1) hx hb dX3_pairsBarred_28 (by decide) ?_
        refine xaddN hx hb dX3_pairsBarred_29 ?_
        refine xald hx hb hG hP 14 rfl (u + (2 * i) + 1) rfl (by omega) (by decide) dX3_pairsBarred_30 ?_
        refine lv_istore (lv' := [(5, .int (bg (u + (2 * i) + 1))), (4, .int (bg (u + (2 * i)))), (3, .int (nI i)), (0, .ref (ad 0)), (1, .int (nI u)), (2, .int (nI ct))]) hx hb dX3_pairsBarred_31 hl (by decide) rfl (fun ls hl => ?_)
        refine lv_iload hx hb dX3_pairsBarred_33 (lv_at hl 0 rfl) ?_
        refine lv_i2l (v := (bg (u + (2 * i) + 1)).toInt64) hx hb dX3_pairsBarred_35 rfl ?_
        refine lv_ldc2 (v := 4) hx hb hown (hts (.constantLong RX3 167 (4)) (by decide +kernel)) dX3_pairsBarred_36 ?_
        refine xtopl (x' := lN 4) rfl ?_
        refine lv_ldc2 (v := 7) hx hb hown (hts (.constantLong RX3 169 (7)) (by decide +kernel)) dX3_pairsBarred_39 ?_
        refine xtopl (x' := lN 7) rfl ?_
        refine xrd (va_runS (As := [.long ((bg (u + (2 * i) + 1)).toInt64), .long (lN 4), .long (lN 7)]) (rest := []) hF (c_X3_in l D cI cS (bg (u + (2 * i) + 1)) 4 7 (by first | assumption | omega) (by first | assumption | omega)) (va_cwS 3 hts gX3_pairsBarred_X3_in rfl rfl rfl hD_X3_in ⟨Nat.le_of_ble_eq_true rfl, Nat.le_of_ble_eq_true rfl⟩) (PR.pre hG (hP.sub (ws' := []) [] rfl)) rfl rfl hl.1 rfl (lv_room (Nat.le_of_ble_eq_true rfl)) dX3_pairsBarred_42 ⟨Nat.le_refl _, Nat.le_refl _⟩) ?_
        refine xtop (x' := bI (rgB 4 7 (bg (u + (2 * i) + 1)))) rfl ?_
        refine lv_if_eq (tgt := 65) hx hb dX3_pairsBarred_45 (by decide) (fun c_45 => ?_) (fun c_45 => ?_)
        ·
          replace c_45 := bI_0.mp c_45
          refine lv_iconst (v := nI 0) hx hb dX3_pairsBarred_65 (by decide) ?_
          refine lv_istore (lv' := [(6, .int (nI 0)), (5, .int (bg (u + (2 * i) + 1))), (4, .int (bg (u + (2 * i)))), (3, .int (nI i)), (0, .ref (ad 0)), (1, .int (nI u)), (2, .int (nI ct))]) hx hb dX3_pairsBarred_66 hl (by decide) rfl (fun ls hl => ?_)
          refine lv_iload hx hb dX3_pairsBarred_68 (lv_at hl 1 rfl) ?_
          refine lv_i2l (v := (bg (u + (2 * i) + 1)).toInt64) hx hb dX3_pairsBarred_70 rfl ?_
          refine lv_lconst (v := lN 0) hx hb dX3_pairsBarred_71 rfl ?_
          refine lv_ldc2 (v := 9) hx hb hown (hts (.constantLong RX3 140 (9)) (by decide +kernel)) dX3_pairsBarred_72 ?_
          refine xtopl (x' := lN 9) rfl ?_
          refine xrd (va_runS (As := [.long ((bg (u + (2 * i) + 1)).toInt64), .long (lN 0), .long (lN 9)]) (rest := []) hF (c_X3_in l D cI cS (bg (u + (2 * i) + 1)) 0 9 (by first | assumption | omega) (by first | assumption | omega)) (va_cwS 3 hts gX3_pairsBarred_X3_in rfl rfl rfl hD_X3_in ⟨Nat.le_of_ble_eq_true rfl, Nat.le_of_ble_eq_true rfl⟩) (PR.pre hG (hP.sub (ws' := []) [] rfl)) rfl rfl hl.1 rfl (lv_room (Nat.le_of_ble_eq_true rfl)) dX3_pairsBarred_75 ⟨Nat.le_refl _, Nat.le_refl _⟩) ?_
          refine xtop (x' := bI (rgB 0 9 (bg (u + (2 * i) + 1)))) rfl ?_
          refine lv_if_eq (tgt := 98) hx hb dX3_pairsBarred_78 (by decide) (fun c_78 => ?_) (fun c_78 => ?_)
          ·
            replace c_78 := bI_0.mp c_78
            refine lv_bipush (v := (-2)) hx hb dX3_pairsBarred_98 (by decide) ?_
            exact xretR hx hb hr hlk dX3_pairsBarred_100 (by have e9 : refD n bg u i = -2 := (by simp [refD, refP, nI0, c_4, c_45, c_78]); rw [fr_stop hno (by rw [e9]; decide) (by omega), e9])
          ·
            replace c_78 := bI_n0.mp c_78
            refine lv_iload hx hb dX3_pairsBarred_81 (lv_at hl 0 rfl) ?_
            refine lv_if_ne (tgt := 98) hx hb dX3_pairsBarred_83 (by decide) (fun c_83 => ?_) (fun c_83 => ?_)
            · exact absurd (by decide) c_83
            ·
              refine lv_iload hx hb dX3_pairsBarred_86 (lv_at hl 1 rfl) ?_
              refine lv_bipush (v := nI 8) hx hb dX3_pairsBarred_88 (by decide) ?_
              refine lv_icmp_ne (tgt := 101) hx hb dX3_pairsBarred_90 (by decide) (fun c_90 => ?_) (fun c_90 => ?_)
              ·
                refine lv_iload hx hb dX3_pairsBarred_101 (lv_at hl 1 rfl) ?_
                refine lv_iconst (v := nI 4) hx hb dX3_pairsBarred_103 (by decide) ?_
                refine lv_icmp_lt (tgt := 114) hx hb dX3_pairsBarred_104 (by decide) (fun c_104 => ?_) (fun c_104 => ?_)
                ·
                  replace c_104 : (bg (u + (2 * i) + 1)).toInt < 4 := (i32_ltc (b := 4) (by omega)).mp c_104
                  refine lv_aload_n hx hb dX3_pairsBarred_114 rfl (lv_at hl 4 rfl) ?_
                  refine lv_iload hx hb dX3_pairsBarred_115 (lv_at hl 2 rfl) ?_
                  refine xrd (va_runV (As := [.int (bg (u + (2 * i)))]) (rest := []) hF (c_X3_noChair l D cI cS ad fa n fo ki st we lo ra rch q0 q1 q2 q3 fk fc rd rc rv sh sle sla bg hd tr (bg (u + (2 * i))) (by first | assumption | omega)) (cwV 1 hts gX3_pairsBarred_X3_noChair rfl rfl rfl hV_X3_noChair ⟨Nat.le_of_ble_eq_true rfl, Nat.le_of_ble_eq_true rfl⟩) (PR.preV hG hP (ci := 3) rfl rfl) rfl rfl hl.1 rfl (lv_room (Nat.le_of_ble_eq_true rfl)) dX3_pairsBarred_117 ⟨Nat.le_refl _, Nat.le_refl _⟩) ?_
                  refine lv_if_eq (tgt := 125) hx hb dX3_pairsBarred_120 (by decide) (fun c_120 => ?_) (fun c_120 => ?_)
                  ·
                    replace c_120 := bI_0.mp c_120
                    replace c_120 := (by simpa using c_120 : (hasB n (bg (u + (2 * i)))) = true)
                    refine lv_iinc (v := nI (i + 1)) (lv' := [(3, .int (nI (i + 1))), (6, .int (nI 0)), (5, .int (bg (u + (2 * i) + 1))), (4, .int (bg (u + (2 * i)))), (0, .ref (ad 0)), (1, .int (nI u)), (2, .int (nI ct))]) hx hb dX3_pairsBarred_125 hl (k := 3) rfl xinc1 (by decide) rfl (fun ls hl => ?_)
                    refine lv_goto (tgt := 2) hx hb dX3_pairsBarred_128 (by decide) ?_
                    exact ih (i + 1)  (by omega) (by intro v hv; rcases Nat.lt_succ_iff_lt_or_eq.mp hv with h9 | rfl; exact hno v h9; simp [refD, refP, nI0, c_4, c_45, c_78, c_83, c_90, c_104, c_120]) (by omega) ls (lv_sub hl [0, 4, 5, 6] rfl)
                  ·
                    replace c_120 := bI_n0.mp c_120
                    replace c_120 := (by simpa using c_120 : (hasB n (bg (u + (2 * i)))) = false)
                    refine lv_iconst (v := (-1)) hx hb dX3_pairsBarred_123 (by decide) ?_
                    exact xretR hx hb hr hlk dX3_pairsBarred_124 (by have e9 : refD n bg u i = -1 := (by simp [refD, refP, nI0, c_4, c_45, c_78, c_83, c_90, c_104, c_120]); rw [fr_stop hno (by rw [e9]; decide) (by omega), e9])
                ·
                  replace c_104 : ¬ (bg (u + (2 * i) + 1)).toInt < 4 := (not_congr (i32_ltc (b := 4) (by omega))).mp c_104
                  refine lv_iload hx hb dX3_pairsBarred_107 (lv_at hl 1 rfl) ?_
                  refine lv_bipush (v := nI 9) hx hb dX3_pairsBarred_109 (by decide) ?_
                  refine lv_icmp_ne (tgt := 125) hx hb dX3_pairsBarred_111 (by decide) (fun c_111 => ?_) (fun c_111 => ?_)
                  ·
                    exact absurd (c_45.symm.trans (b47 c_78 c_104 c_90 c_111)) (by decide)
                  ·
                    have r1 : rgB 0 9 (nI 9) = true := by decide
                    have r2 : rgB 4 7 (nI 9) = false := by decide
                    have r3 : ¬ nI 9 = nI 8 := by decide
                    refine lv_aload_n hx hb dX3_pairsBarred_114 rfl (lv_at hl 4 rfl) ?_
                    refine lv_iload hx hb dX3_pairsBarred_115 (lv_at hl 2 rfl) ?_
                    refine xrd (va_runV (As := [.int (bg (u + (2 * i)))]) (rest := []) hF (c_X3_noChair l D cI cS ad fa n fo ki st we lo ra rch q0 q1 q2 q3 fk fc rd rc rv sh sle sla bg hd tr (bg (u + (2 * i))) (by first | assumption | omega)) (cwV 1 hts gX3_pairsBarred_X3_noChair rfl rfl rfl hV_X3_noChair ⟨Nat.le_of_ble_eq_true rfl, Nat.le_of_ble_eq_true rfl⟩) (PR.preV hG hP (ci := 3) rfl rfl) rfl rfl hl.1 rfl (lv_room (Nat.le_of_ble_eq_true rfl)) dX3_pairsBarred_117 ⟨Nat.le_refl _, Nat.le_refl _⟩) ?_
                    refine lv_if_eq (tgt := 125) hx hb dX3_pairsBarred_120 (by decide) (fun c_120 => ?_) (fun c_120 => ?_)
                    ·
                      replace c_120 := bI_0.mp c_120
                      replace c_120 := (by simpa using c_120 : (hasB n (bg (u + (2 * i)))) = true)
                      refine lv_iinc (v := nI (i + 1)) (lv' := [(3, .int (nI (i + 1))), (6, .int (nI 0)), (5, .int (bg (u + (2 * i) + 1))), (4, .int (bg (u + (2 * i)))), (0, .ref (ad 0)), (1, .int (nI u)), (2, .int (nI ct))]) hx hb dX3_pairsBarred_125 hl (k := 3) rfl xinc1 (by decide) rfl (fun ls hl => ?_)
                      refine lv_goto (tgt := 2) hx hb dX3_pairsBarred_128 (by decide) ?_
                      exact ih (i + 1)  (by omega) (by intro v hv; rcases Nat.lt_succ_iff_lt_or_eq.mp hv with h9 | rfl; exact hno v h9; simp [refD, refP, nI0, c_4, c_45, c_78, c_83, c_90, c_104, c_111, r1, r2, r3, c_120]) (by omega) ls (lv_sub hl [0, 4, 5, 6] rfl)
                    ·
                      replace c_120 := bI_n0.mp c_120
                      replace c_120 := (by simpa using c_120 : (hasB n (bg (u + (2 * i)))) = false)
                      refine lv_iconst (v := (-1)) hx hb dX3_pairsBarred_123 (by decide) ?_
                      exact xretR hx hb hr hlk dX3_pairsBarred_124 (by have e9 : refD n bg u i = -1 := (by simp [refD, refP, nI0, c_4, c_45, c_78, c_83, c_90, c_104, c_111, r1, r2, r3, c_120]); rw [fr_stop hno (by rw [e9]; decide) (by omega), e9])
              ·
                have r1 : rgB 0 9 (nI 8) = true := by decide
                refine lv_iload hx hb dX3_pairsBarred_93 (lv_at hl 2 rfl) ?_
                refine lv_if_eq (tgt := 101) hx hb dX3_pairsBarred_95 (by decide) (fun c_95 => ?_) (fun c_95 => ?_)
                ·
                  refine lv_iload hx hb dX3_pairsBarred_101 (lv_at hl 1 rfl) ?_
                  refine lv_iconst (v := nI 4) hx hb dX3_pairsBarred_103 (by decide) ?_
                  refine lv_icmp_lt (tgt := 114) hx hb dX3_pairsBarred_104 (by decide) (fun c_104 => ?_) (fun c_104 => ?_)
                  ·
                    replace c_104 : (bg (u + (2 * i) + 1)).toInt < 4 := (i32_ltc (b := 4) (by omega)).mp c_104
                    rw [c_90] at c_104; exact absurd c_104 (by decide)
                  ·
                    replace c_104 : ¬ (bg (u + (2 * i) + 1)).toInt < 4 := (not_congr (i32_ltc (b := 4) (by omega))).mp c_104
                    refine lv_iload hx hb dX3_pairsBarred_107 (lv_at hl 1 rfl) ?_
                    refine lv_bipush (v := nI 9) hx hb dX3_pairsBarred_109 (by decide) ?_
                    refine lv_icmp_ne (tgt := 125) hx hb dX3_pairsBarred_111 (by decide) (fun c_111 => ?_) (fun c_111 => ?_)
                    ·
                      refine lv_iinc (v := nI (i + 1)) (lv' := [(3, .int (nI (i + 1))), (6, .int (nI 0)), (5, .int (bg (u + (2 * i) + 1))), (4, .int (bg (u + (2 * i)))), (0, .ref (ad 0)), (1, .int (nI u)), (2, .int (nI ct))]) hx hb dX3_pairsBarred_125 hl (k := 3) rfl xinc1 (by decide) rfl (fun ls hl => ?_)
                      refine lv_goto (tgt := 2) hx hb dX3_pairsBarred_128 (by decide) ?_
                      exact ih (i + 1)  (by omega) (by intro v hv; rcases Nat.lt_succ_iff_lt_or_eq.mp hv with h9 | rfl; exact hno v h9; simp [refD, refP, nI0, c_4, c_45, c_78, c_83, c_90, r1, c_95, c_104, c_111]) (by omega) ls (lv_sub hl [0, 4, 5, 6] rfl)
                    ·
                      exact absurd (c_90.symm.trans c_111) (by decide)
                ·
                  refine lv_bipush (v := (-2)) hx hb dX3_pairsBarred_98 (by decide) ?_
                  exact xretR hx hb hr hlk dX3_pairsBarred_100 (by have e9 : refD n bg u i = -2 := (by simp [refD, refP, nI0, c_4, c_45, c_78, c_83, c_90, r1, c_95]); rw [fr_stop hno (by rw [e9]; decide) (by omega), e9])
        ·
          replace c_45 := bI_n0.mp c_45
          have hb8 := not8 c_45
          refine lv_iload hx hb dX3_pairsBarred_48 (lv_at hl 1 rfl) ?_
          refine lv_i2l (v := (bg (u + (2 * i))).toInt64) hx hb dX3_pairsBarred_50 rfl ?_
          refine lv_lconst (v := lN 0) hx hb dX3_pairsBarred_51 rfl ?_
          refine lv_ldc2 (v := 10) hx hb hown (hts (.constantLong RX3 152 (10)) (by decide +kernel)) dX3_pairsBarred_52 ?_
          refine xtopl (x' := lN 10) rfl ?_
          refine xrd (va_runS (As := [.long ((bg (u + (2 * i))).toInt64), .long (lN 0), .long (lN 10)]) (rest := []) hF (c_X3_in l D cI cS (bg (u + (2 * i))) 0 10 (by first | assumption | omega) (by first | assumption | omega)) (va_cwS 3 hts gX3_pairsBarred_X3_in rfl rfl rfl hD_X3_in ⟨Nat.le_of_ble_eq_true rfl, Nat.le_of_ble_eq_true rfl⟩) (PR.pre hG (hP.sub (ws' := []) [] rfl)) rfl rfl hl.1 rfl (lv_room (Nat.le_of_ble_eq_true rfl)) dX3_pairsBarred_55 ⟨Nat.le_refl _, Nat.le_refl _⟩) ?_
          refine xtop (x' := bI (rgB 0 10 (bg (u + (2 * i))))) rfl ?_
          refine lv_if_ne (tgt := 65) hx hb dX3_pairsBarred_58 (by decide) (fun c_58 => ?_) (fun c_58 => ?_)
          ·
            replace c_58 := bI_n0.mp c_58
            refine lv_iconst (v := nI 0) hx hb dX3_pairsBarred_65 (by decide) ?_
            refine lv_istore (lv' := [(6, .int (nI 0)), (5, .int (bg (u + (2 * i) + 1))), (4, .int (bg (u + (2 * i)))), (3, .int (nI i)), (0, .ref (ad 0)), (1, .int (nI u)), (2, .int (nI ct))]) hx hb dX3_pairsBarred_66 hl (by decide) rfl (fun ls hl => ?_)
            refine lv_iload hx hb dX3_pairsBarred_68 (lv_at hl 1 rfl) ?_
            refine lv_i2l (v := (bg (u + (2 * i) + 1)).toInt64) hx hb dX3_pairsBarred_70 rfl ?_
            refine lv_lconst (v := lN 0) hx hb dX3_pairsBarred_71 rfl ?_
            refine lv_ldc2 (v := 9) hx hb hown (hts (.constantLong RX3 140 (9)) (by decide +kernel)) dX3_pairsBarred_72 ?_
            refine xtopl (x' := lN 9) rfl ?_
            refine xrd (va_runS (As := [.long ((bg (u + (2 * i) + 1)).toInt64), .long (lN 0), .long (lN 9)]) (rest := []) hF (c_X3_in l D cI cS (bg (u + (2 * i) + 1)) 0 9 (by first | assumption | omega) (by first | assumption | omega)) (va_cwS 3 hts gX3_pairsBarred_X3_in rfl rfl rfl hD_X3_in ⟨Nat.le_of_ble_eq_true rfl, Nat.le_of_ble_eq_true rfl⟩) (PR.pre hG (hP.sub (ws' := []) [] rfl)) rfl rfl hl.1 rfl (lv_room (Nat.le_of_ble_eq_true rfl)) dX3_pairsBarred_75 ⟨Nat.le_refl _, Nat.le_refl _⟩) ?_
            refine xtop (x' := bI (rgB 0 9 (bg (u + (2 * i) + 1)))) rfl ?_
            refine lv_if_eq (tgt := 98) hx hb dX3_pairsBarred_78 (by decide) (fun c_78 => ?_) (fun c_78 => ?_)
            ·
              replace c_78 := bI_0.mp c_78
              refine lv_bipush (v := (-2)) hx hb dX3_pairsBarred_98 (by decide) ?_
              exact xretR hx hb hr hlk dX3_pairsBarred_100 (by have e9 : refD n bg u i = -2 := (by simp [refD, refP, nI0, c_4, c_45, hb8, c_58, c_78]); rw [fr_stop hno (by rw [e9]; decide) (by omega), e9])
            ·
              replace c_78 := bI_n0.mp c_78
              refine lv_iload hx hb dX3_pairsBarred_81 (lv_at hl 0 rfl) ?_
              refine lv_if_ne (tgt := 98) hx hb dX3_pairsBarred_83 (by decide) (fun c_83 => ?_) (fun c_83 => ?_)
              · exact absurd (by decide) c_83
              ·
                refine lv_iload hx hb dX3_pairsBarred_86 (lv_at hl 1 rfl) ?_
                refine lv_bipush (v := nI 8) hx hb dX3_pairsBarred_88 (by decide) ?_
                refine lv_icmp_ne (tgt := 101) hx hb dX3_pairsBarred_90 (by decide) (fun c_90 => ?_) (fun c_90 => ?_)
                ·
                  refine lv_iload hx hb dX3_pairsBarred_101 (lv_at hl 1 rfl) ?_
                  refine lv_iconst (v := nI 4) hx hb dX3_pairsBarred_103 (by decide) ?_
                  refine lv_icmp_lt (tgt := 114) hx hb dX3_pairsBarred_104 (by decide) (fun c_104 => ?_) (fun c_104 => ?_)
                  ·
                    replace c_104 : (bg (u + (2 * i) + 1)).toInt < 4 := (i32_ltc (b := 4) (by omega)).mp c_104
                    exact absurd (c_45.symm.trans (rgB_n1 (by omega))) (by decide)
                  ·
                    replace c_104 : ¬ (bg (u + (2 * i) + 1)).toInt < 4 := (not_congr (i32_ltc (b := 4) (by omega))).mp c_104
                    refine lv_iload hx hb dX3_pairsBarred_107 (lv_at hl 1 rfl) ?_
                    refine lv_bipush (v := nI 9) hx hb dX3_pairsBarred_109 (by decide) ?_
                    refine lv_icmp_ne (tgt := 125) hx hb dX3_pairsBarred_111 (by decide) (fun c_111 => ?_) (fun c_111 => ?_)
                    ·
                      refine lv_iinc (v := nI (i + 1)) (lv' := [(3, .int (nI (i + 1))), (6, .int (nI 0)), (5, .int (bg (u + (2 * i) + 1))), (4, .int (bg (u + (2 * i)))), (0, .ref (ad 0)), (1, .int (nI u)), (2, .int (nI ct))]) hx hb dX3_pairsBarred_125 hl (k := 3) rfl xinc1 (by decide) rfl (fun ls hl => ?_)
                      refine lv_goto (tgt := 2) hx hb dX3_pairsBarred_128 (by decide) ?_
                      exact ih (i + 1)  (by omega) (by intro v hv; rcases Nat.lt_succ_iff_lt_or_eq.mp hv with h9 | rfl; exact hno v h9; simp [refD, refP, nI0, c_4, c_45, hb8, c_58, c_78, c_83, c_90, c_104, c_111]) (by omega) ls (lv_sub hl [0, 4, 5, 6] rfl)
                    ·
                      rw [c_111] at c_45; exact absurd c_45 (by decide)
                ·
                  exact absurd c_90 hb8
          ·
            replace c_58 := bI_0.mp c_58
            refine lv_iconst (v := nI 1) hx hb dX3_pairsBarred_61 (by decide) ?_
            refine lv_goto (tgt := 66) hx hb dX3_pairsBarred_62 (by decide) ?_
            refine lv_istore (lv' := [(6, .int (nI 1)), (5, .int (bg (u + (2 * i) + 1))), (4, .int (bg (u + (2 * i)))), (3, .int (nI i)), (0, .ref (ad 0)), (1, .int (nI u)), (2, .int (nI ct))]) hx hb dX3_pairsBarred_66 hl (by decide) rfl (fun ls hl => ?_)
            refine lv_iload hx hb dX3_pairsBarred_68 (lv_at hl 1 rfl) ?_
            refine lv_i2l (v := (bg (u + (2 * i) + 1)).toInt64) hx hb dX3_pairsBarred_70 rfl ?_
            refine lv_lconst (v := lN 0) hx hb dX3_pairsBarred_71 rfl ?_
            refine lv_ldc2 (v := 9) hx hb hown (hts (.constantLong RX3 140 (9)) (by decide +kernel)) dX3_pairsBarred_72 ?_
            refine xtopl (x' := lN 9) rfl ?_
            refine xrd (va_runS (As := [.long ((bg (u + (2 * i) + 1)).toInt64), .long (lN 0), .long (lN 9)]) (rest := []) hF (c_X3_in l D cI cS (bg (u + (2 * i) + 1)) 0 9 (by first | assumption | omega) (by first | assumption | omega)) (va_cwS 3 hts gX3_pairsBarred_X3_in rfl rfl rfl hD_X3_in ⟨Nat.le_of_ble_eq_true rfl, Nat.le_of_ble_eq_true rfl⟩) (PR.pre hG (hP.sub (ws' := []) [] rfl)) rfl rfl hl.1 rfl (lv_room (Nat.le_of_ble_eq_true rfl)) dX3_pairsBarred_75 ⟨Nat.le_refl _, Nat.le_refl _⟩) ?_
            refine xtop (x' := bI (rgB 0 9 (bg (u + (2 * i) + 1)))) rfl ?_
            refine lv_if_eq (tgt := 98) hx hb dX3_pairsBarred_78 (by decide) (fun c_78 => ?_) (fun c_78 => ?_)
            ·
              replace c_78 := bI_0.mp c_78
              refine lv_bipush (v := (-2)) hx hb dX3_pairsBarred_98 (by decide) ?_
              exact xretR hx hb hr hlk dX3_pairsBarred_100 (by have e9 : refD n bg u i = -2 := (by simp [refD, refP, nI0, c_4, c_45, hb8, c_58, c_78]); rw [fr_stop hno (by rw [e9]; decide) (by omega), e9])
            ·
              replace c_78 := bI_n0.mp c_78
              refine lv_iload hx hb dX3_pairsBarred_81 (lv_at hl 0 rfl) ?_
              refine lv_if_ne (tgt := 98) hx hb dX3_pairsBarred_83 (by decide) (fun c_83 => ?_) (fun c_83 => ?_)
              ·
                refine lv_bipush (v := (-2)) hx hb dX3_pairsBarred_98 (by decide) ?_
                exact xretR hx hb hr hlk dX3_pairsBarred_100 (by have e9 : refD n bg u i = -2 := (by simp [refD, refP, nI0, c_4, c_45, hb8, c_58, c_78, c_83]); rw [fr_stop hno (by rw [e9]; decide) (by omega), e9])
              · exact absurd c_83 (by decide)
  exact K2 _ 0  (by first | omega | (intro v hv; omega)) (by first | omega | (intro v hv; omega)) (Nat.lt_succ_self _) ls (lv_sub hl [0, 1, 2, 3] rfl)

set_option maxHeartbeats 4000000 in
set_option maxRecDepth 100000 in
theorem c_X3_didPair (l : Launch) (D : va_G) (cI cS : ClassId) (ad : Nat → Nat) (fa : Nat) (n : Nat) (fo : Nat) (ki : Nat → Nat) (st : Nat → Nat) (we : Nat → Nat) (lo : Nat → Nat) (ra : Nat) (rch : Nat) (q0 : Nat → Int32) (q1 : Nat → Int32) (q2 : Nat → Int32) (q3 : Nat → Int32) (fk : Nat) (fc : Nat → Nat) (rd : Nat) (rc : Nat → Nat) (rv : Nat → Nat) (sh : Nat → Bool) (sle : Nat → Nat) (sla : Nat → Nat) (bg : Nat → Int32) (hd : Nat → Int32) (tr : Int32) (a : Nat) (b : Nat) (hnd : nd (adM ad)) (hn : n ≤ 8) (hfo : fo < 256) (hlo : ∀ j, lo j ≤ 3) (hwe : ∀ j, we j ≤ 9) (hb9 : b ≤ 9) (hab : actOk n a b) : Met l yX3_didPair wsX3_didPair ({ frames := 3, cells := 0, slots := 0, locals := 69 }) (PR D cI cS [.ref (ad 0), .int (nI a), .int (nI b)] (wM cI ad fa n fo ki st we lo ra rch q0 q1 q2 q3 fk fc rd rc rv sh sle sla bg hd tr)) (va_Qi (fun r (zz : Unit) => r = bI (actB fo a b)) (fun (zz : Unit) t => va_P D vwCl (wM cI ad fa n (actF n fo a b) ki st we (actL n fo we lo a b) ra rch q0 q1 q2 q3 fk fc rd rc rv sh sle sla bg hd tr) t.heap) (AW (adM ad))) 0 0 (AW (adM ad)) := by
  refine startM (by decide) rfl (Nat.le_of_ble_eq_true rfl) hnd rfl ?_
  intro p e s m below meth c hx hb hr hts hown hlk hml hG hP hD hS ls hl
  have hl : lv_has ls 3 [(0, .ref (ad 0)), (1, .int (nI a)), (2, .int (nI b))] := hl
  have f114 := hts (.fieldLink RX3 114 "ChairBallotModel" "folded" "I") (by decide +kernel)
  have yX3 : ∀ w ∈ u_ws RX3 TX3 23, w.before _ s = true := fun w h => hts w ((by decide +kernel : ∀ w ∈ wsX30, w ∈ wsX3_didPair) w h)
  have hF : CallFix p m c cX3_didPair 3 s _ wsX3_didPair RX3 := ⟨hx, hb, hml, hown, hts⟩
  obtain ⟨hab1, hab2⟩ := hab
  refine lv_iload_n hx hb dX3_didPair_0 rfl (lv_at hl 2 rfl) ?_
  refine lv_iconst (v := nI 4) hx hb dX3_didPair_1 (by decide) ?_
  refine lv_icmp_ge (tgt := 20) hx hb dX3_didPair_2 (by decide) (fun c_2 => ?_) (fun c_2 => ?_)
  ·
    replace c_2 := (nI_leI (a := 4) (b := b) (by omega) (by omega)).mp c_2
    have hb4 : ¬ b < 4 := by omega
    refine lv_iload_n hx hb dX3_didPair_20 rfl (lv_at hl 2 rfl) ?_
    refine lv_bipush (v := nI 9) hx hb dX3_didPair_21 (by decide) ?_
    refine lv_icmp_ne (tgt := 40) hx hb dX3_didPair_23 (by decide) (fun c_23 => ?_) (fun c_23 => ?_)
    ·
      replace c_23 := (not_congr (nI_eq (a := b) (b := 9) (by omega) (by omega))).mp c_23
      refine lv_iload_n hx hb dX3_didPair_40 rfl (lv_at hl 2 rfl) ?_
      refine lv_bipush (v := nI 8) hx hb dX3_didPair_41 (by decide) ?_
      refine lv_icmp_ne (tgt := 57) hx hb dX3_didPair_43 (by decide) (fun c_43 => ?_) (fun c_43 => ?_)
      ·
        replace c_43 := (not_congr (nI_eq (a := b) (b := 8) (by omega) (by omega))).mp c_43
        refine lv_aload_n hx hb dX3_didPair_57 rfl (lv_at hl 0 rfl) ?_
        refine lv_iload_n hx hb dX3_didPair_58 rfl (lv_at hl 2 rfl) ?_
        refine lv_iconst (v := nI 4) hx hb dX3_didPair_59 (by decide) ?_
        refine xsubN (x := b) (y := 4) hx hb (by omega) dX3_didPair_60 ?_
        refine lv_iload_n hx hb dX3_didPair_61 rfl (lv_at hl 1 rfl) ?_
        refine xmuW (va_runV (As := [.int (nI (b - 4)), .int (nI a)]) (rest := []) hF (c_X3_blown l D cI cS ad fa n fo ki st we lo ra rch q0 q1 q2 q3 fk fc rd rc rv sh sle sla bg hd tr (b - 4) a hnd (by first | assumption | omega) (by first | assumption | omega) (by first | assumption | omega) (by first | assumption | omega) (by first | assumption | omega) (by exact hab2 (by omega) (by omega))) (cwV 2 hts gX3_didPair_X3_blown rfl rfl rfl hV_X3_blown ⟨Nat.le_of_ble_eq_true rfl, Nat.le_of_ble_eq_true rfl⟩) (PR.preV hG hP (ci := 3) rfl rfl) rfl rfl hl.1 rfl (lv_room (Nat.le_of_ble_eq_true rfl)) dX3_didPair_62 ⟨Nat.le_refl _, Nat.le_refl _⟩) hD hS rfl (fun _ => rfl) (fun r_62 u_62 H locs q_62 hP hD hS => ?_)
        try dsimp only at q_62 hP hD
        have e_62 := q_62
        subst e_62
        have hP : va_P D vwCl (wM cI ad fa n fo ki st we (blwL n fo we lo (b - 4) a) ra rch q0 q1 q2 q3 fk fc rd rc rv sh sle sla bg hd tr) H := hP
        have hD : va_D (AW (adM ad)) (wM cI ad fa n fo ki st we (blwL n fo we lo (b - 4) a) ra rch q0 q1 q2 q3 fk fc rd rc rv sh sle sla bg hd tr) := hD
        refine lv_pop hx hb dX3_didPair_65 rfl ?_
        refine lv_iconst (v := nI 1) hx hb dX3_didPair_66 (by decide) ?_
        exact xretMz hx hb hr hlk dX3_didPair_67 hS (true) rfl () (by simp [actB, bI_true, bI_false, c_2, hb4, c_23, c_43]) (fun t ht => by rw [ht]; rw [show actF n fo a b = fo from by simp [actF, c_2, hb4, c_23, c_43]]; rw [show actL n fo we lo a b = (blwL n fo we lo (b - 4) a) from by simp [actL, c_2, hb4, c_23, c_43]]; exact hP)
      ·
        replace c_43 := (nI_eq (a := b) (b := 8) (by omega) (by omega)).mp c_43
        refine lv_aload_n hx hb dX3_didPair_46 rfl (lv_at hl 0 rfl) ?_
        refine lv_aload_n hx hb dX3_didPair_47 rfl (lv_at hl 0 rfl) ?_
        refine xrd (va_runV (As := []) (rest := [.ref (ad 0)]) hF (c_X3_everyChair l D cI cS ad fa n fo ki st we lo ra rch q0 q1 q2 q3 fk fc rd rc rv sh sle sla bg hd tr (by first | assumption | omega)) (cwV 0 hts gX3_didPair_X3_everyChair rfl rfl rfl hV_X3_everyChair ⟨Nat.le_of_ble_eq_true rfl, Nat.le_of_ble_eq_true rfl⟩) (PR.preV hG hP (ci := 3) rfl rfl) rfl rfl hl.1 rfl (lv_room (Nat.le_of_ble_eq_true rfl)) dX3_didPair_48 ⟨Nat.le_refl _, Nat.le_refl _⟩) ?_
        refine va_put (D := D) (ci := 3) (v := .int (nI (2 ^ n - 1))) (ty := .int) (C := RX3) (T := TX3) (N := 23) hx hb yX3 (fun _ h => h) tyX3 tyX3_ok nmX3 hown hG.1 hP hD hS 0 rfl rfl 2 (by decide) f114 (fun _ h => h) rfl (by decide +kernel) rfl rfl (Nat.le_of_ble_eq_true rfl) dX3_didPair_51 (fun H locs hP hD hS => ?_)
        have hP : va_P D vwCl (wM cI ad fa n (2 ^ n - 1) ki st we lo ra rch q0 q1 q2 q3 fk fc rd rc rv sh sle sla bg hd tr) H := hP
        have hD : va_D (AW (adM ad)) (wM cI ad fa n (2 ^ n - 1) ki st we lo ra rch q0 q1 q2 q3 fk fc rd rc rv sh sle sla bg hd tr) := hD
        refine lv_goto (tgt := 66) hx hb dX3_didPair_54 (by decide) ?_
        refine lv_iconst (v := nI 1) hx hb dX3_didPair_66 (by decide) ?_
        exact xretMz hx hb hr hlk dX3_didPair_67 hS (true) rfl () (by simp [actB, bI_true, bI_false, c_2, hb4, c_23, c_43]) (fun t ht => by rw [ht]; rw [show actF n fo a b = (2 ^ n - 1) from by simp [actF, c_2, hb4, c_23, c_43]]; rw [show actL n fo we lo a b = lo from by simp [actL, c_2, hb4, c_23, c_43]]; exact hP)
    ·
      replace c_23 := (nI_eq (a := b) (b := 9) (by omega) (by omega)).mp c_23
      refine lv_aload_n hx hb dX3_didPair_26 rfl (lv_at hl 0 rfl) ?_
      refine lv_iload_n hx hb dX3_didPair_27 rfl (lv_at hl 1 rfl) ?_
      refine xmuW (va_runV (As := [.int (nI a)]) (rest := []) hF (c_X3_open l D cI cS ad fa n fo ki st we lo ra rch q0 q1 q2 q3 fk fc rd rc rv sh sle sla bg hd tr (nI a) hnd (by first | assumption | omega) (by first | assumption | omega)) (cwV 1 hts gX3_didPair_X3_open rfl rfl rfl hV_X3_open ⟨Nat.le_of_ble_eq_true rfl, Nat.le_of_ble_eq_true rfl⟩) (PR.preV hG hP (ci := 3) rfl rfl) rfl rfl hl.1 rfl (lv_room (Nat.le_of_ble_eq_true rfl)) dX3_didPair_28 ⟨Nat.le_refl _, Nat.le_refl _⟩) hD hS rfl (fun _ => rfl) (fun r_28 u_28 H locs q_28 hP hD hS => ?_)
      try dsimp only at q_28 hP hD
      have e_28 := q_28
      subst e_28
      have hP : va_P D vwCl (wM cI ad fa n (S_open n fo (nI a)) ki st we lo ra rch q0 q1 q2 q3 fk fc rd rc rv sh sle sla bg hd tr) H := hP
      have hD : va_D (AW (adM ad)) (wM cI ad fa n (S_open n fo (nI a)) ki st we lo ra rch q0 q1 q2 q3 fk fc rd rc rv sh sle sla bg hd tr) := hD
      refine lv_if_lt (tgt := 38) hx hb dX3_didPair_31 (by decide) (fun c_31 => ?_) (fun c_31 => ?_)
      ·
        replace c_31 : (A_open n fo (nI a)).toInt < 0 := (i32_ltc (b := 0) (by omega)).mp c_31
        have htb : fo.testBit a = false := Bool.eq_false_iff.mpr ((op_lt hn (hab1 (Or.inr c_23))).mp c_31)
        refine lv_iconst (v := nI 0) hx hb dX3_didPair_38 (by decide) ?_
        exact xretMz hx hb hr hlk dX3_didPair_39 hS (false) rfl () (by simp [actB, bI_true, bI_false, c_2, hb4, c_23, htb]) (fun t ht => by rw [ht]; rw [show actF n fo a b = (S_open n fo (nI a)) from by rw [op_S hn (hab1 (Or.inr c_23))]; simp [actF, c_2, hb4, c_23, htb]]; rw [show actL n fo we lo a b = lo from by simp [actL, c_2, hb4, c_23, htb]]; exact hP)
      ·
        replace c_31 : ¬ (A_open n fo (nI a)).toInt < 0 := (not_congr (i32_ltc (b := 0) (by omega))).mp c_31
        have htb : fo.testBit a = true := Decidable.not_not.mp (fun h9 => c_31 ((op_lt hn (hab1 (Or.inr c_23))).mpr h9))
        refine lv_iconst (v := nI 1) hx hb dX3_didPair_34 (by decide) ?_
        refine lv_goto (tgt := 39) hx hb dX3_didPair_35 (by decide) ?_
        exact xretMz hx hb hr hlk dX3_didPair_39 hS (true) rfl () (by simp [actB, bI_true, bI_false, c_2, hb4, c_23, htb]) (fun t ht => by rw [ht]; rw [show actF n fo a b = (S_open n fo (nI a)) from by rw [op_S hn (hab1 (Or.inr c_23))]; simp [actF, c_2, hb4, c_23, htb]]; rw [show actL n fo we lo a b = lo from by simp [actL, c_2, hb4, c_23, htb]]; exact hP)
  ·
    replace c_2 := (not_congr (nI_leI (a := 4) (b := b) (by omega) (by omega))).mp c_2
    have hb4 : b < 4 := by omega
    have hb8 : ¬ b = 8 := by omega
    have hbn : ¬ b = 9 := by omega
    refine lv_aload_n hx hb dX3_didPair_5 rfl (lv_at hl 0 rfl) ?_
    refine lv_iload_n hx hb dX3_didPair_6 rfl (lv_at hl 1 rfl) ?_
    refine lv_iload_n hx hb dX3_didPair_7 rfl (lv_at hl 2 rfl) ?_
    refine xmuW (va_runV (As := [.int (nI a), .int (nI b)]) (rest := []) hF (c_X3_turn l D cI cS ad fa n fo ki st we lo ra rch q0 q1 q2 q3 fk fc rd rc rv sh sle sla bg hd tr (nI a) (nI b) hnd (by first | assumption | omega) (by first | assumption | omega) (by first | assumption | omega)) (cwV 2 hts gX3_didPair_X3_turn rfl rfl rfl hV_X3_turn ⟨Nat.le_of_ble_eq_true rfl, Nat.le_of_ble_eq_true rfl⟩) (PR.preV hG hP (ci := 3) rfl rfl) rfl rfl hl.1 rfl (lv_room (Nat.le_of_ble_eq_true rfl)) dX3_didPair_8 ⟨Nat.le_refl _, Nat.le_refl _⟩) hD hS rfl (fun _ => rfl) (fun r_8 u_8 H locs q_8 hP hD hS => ?_)
    try dsimp only at q_8 hP hD
    have e_8 := q_8
    subst e_8
    have hP : va_P D vwCl (wM cI ad fa n fo ki st we (S_turn n fo lo (nI a) (nI b)) ra rch q0 q1 q2 q3 fk fc rd rc rv sh sle sla bg hd tr) H := hP
    have hD : va_D (AW (adM ad)) (wM cI ad fa n fo ki st we (S_turn n fo lo (nI a) (nI b)) ra rch q0 q1 q2 q3 fk fc rd rc rv sh sle sla bg hd tr) := hD
    refine lv_if_lt (tgt := 18) hx hb dX3_didPair_11 (by decide) (fun c_11 => ?_) (fun c_11 => ?_)
    ·
      replace c_11 : (A_turn n fo lo (nI a) (nI b)).toInt < 0 := (i32_ltc (b := 0) (by omega)).mp c_11
      have htb : fo.testBit a = true := (tn_lt hn hlo (hab1 (Or.inl hb4)) hb4).mp c_11
      refine lv_iconst (v := nI 0) hx hb dX3_didPair_18 (by decide) ?_
      exact xretMz hx hb hr hlk dX3_didPair_19 hS (false) rfl () (by simp [actB, bI_true, bI_false, c_2, hb4, hb8, hbn, htb]) (fun t ht => by rw [ht]; rw [show actF n fo a b = fo from by simp [actF, c_2, hb4, hb8, hbn, htb]]; rw [show actL n fo we lo a b = (S_turn n fo lo (nI a) (nI b)) from by rw [tn_S hn (hab1 (Or.inl hb4)) hb4]; simp [actL, c_2, hb4, hb8, hbn, htb]]; exact hP)
    ·
      replace c_11 : ¬ (A_turn n fo lo (nI a) (nI b)).toInt < 0 := (not_congr (i32_ltc (b := 0) (by omega))).mp c_11
      have htb : fo.testBit a = false := Bool.eq_false_iff.mpr (fun h9 => c_11 ((tn_lt hn hlo (hab1 (Or.inl hb4)) hb4).mpr h9))
      refine lv_iconst (v := nI 1) hx hb dX3_didPair_14 (by decide) ?_
      refine lv_goto (tgt := 19) hx hb dX3_didPair_15 (by decide) ?_
      exact xretMz hx hb hr hlk dX3_didPair_19 hS (true) rfl () (by simp [actB, bI_true, bI_false, c_2, hb4, hb8, hbn, htb]) (fun t ht => by rw [ht]; rw [show actF n fo a b = fo from by simp [actF, c_2, hb4, hb8, hbn, htb]]; rw [show actL n fo we lo a b = (S_turn n fo lo (nI a) (nI b)) from by rw [tn_S hn (hab1 (Or.inl hb4)) hb4]; simp [actL, c_2, hb4, hb8, hbn, htb]]; exact hP)

set_option maxHeartbeats 4000000 in
set_option maxRecDepth 100000 in
theorem c_X3_dayBy (l : Launch) (D : va_G) (cI cS : ClassId) (ad : Nat → Nat) (fa : Nat) (n : Nat) (fo : Nat) (ki : Nat → Nat) (st : Nat → Nat) (we : Nat → Nat) (lo : Nat → Nat) (ra : Nat) (rch : Nat) (q0 : Nat → Int32) (q1 : Nat → Int32) (q2 : Nat → Int32) (q3 : Nat → Int32) (fk : Nat) (fc : Nat → Nat) (rd : Nat) (rc : Nat → Nat) (rv : Nat → Nat) (sh : Nat → Bool) (sle : Nat → Nat) (sla : Nat → Nat) (bg : Nat → Int32) (hd : Nat → Int32) (tr : Int32) (u : Nat) (ct : Nat) (what : Int32) (hnd : nd (adM ad)) (hn : n ≤ 8) (hfo : fo < 256) (hki : ∀ j, ki j ≤ 2) (hwe : ∀ j, we j ≤ 9) (hst : ∀ j, st j ≤ 3) (hlo : ∀ j, lo j ≤ 3) (hct : ct ≤ 20) (hu : u + 2 * ct ≤ 240) (hok : ∀ p, p < ct → bg (u + 2 * p) = nI (dA bg u p) ∧ bg (u + 2 * p + 1) = nI (dB bg u p) ∧ dB bg u p ≤ 9 ∧ actOk n (dA bg u p) (dB bg u p)) (hwh : (rgB 0 4 what || rgB 10 17 what) = true) : Met l yX3_dayBy wsX3_dayBy ({ frames := 5, cells := 0, slots := 0, locals := 108 }) (PR D cI cS [.ref (ad 0), .int (nI u), .int (nI ct), .int what] (wM cI ad fa n fo ki st we lo ra rch q0 q1 q2 q3 fk fc rd rc rv sh sle sla bg hd tr)) (va_Qi (fun r (zz : Nat × (Nat → Nat)) => r = ansD n fo ki st we lo bg u ct what ∧ ∀ j, n ≤ j → zz.2 j = lo j) (fun (zz : Nat × (Nat → Nat)) t => va_P D vwCl (wM cI ad fa n zz.1 ki st we zz.2 ra rch q0 q1 q2 q3 fk fc rd rc rv sh sle sla bg hd tr) t.heap) (AW (adM ad))) 0 0 (AW (adM ad)) := by
  refine startM (by decide) rfl (Nat.le_of_ble_eq_true rfl) hnd rfl ?_
  intro p e s m below meth c hx hb hr hts hown hlk hml hG hP hD hS ls hl
  have hl : lv_has ls 7 [(0, .ref (ad 0)), (1, .int (nI u)), (2, .int (nI ct)), (3, .int what)] := hl
  have f49 := hts (.fieldLink RX3 49 "ChairBallotModel" "sheet" "[I") (by decide +kernel)
  have f19 := hts (.fieldLink RX3 19 "ChairBallotModel" "facesOf" "[I") (by decide +kernel)
  have f114 := hts (.fieldLink RX3 114 "ChairBallotModel" "folded" "I") (by decide +kernel)
  have yX3 : ∀ w ∈ u_ws RX3 TX3 23, w.before _ s = true := fun w h => hts w ((by decide +kernel : ∀ w ∈ wsX30, w ∈ wsX3_dayBy) w h)
  have hF : CallFix p m c cX3_dayBy 7 s _ wsX3_dayBy RX3 := ⟨hx, hb, hml, hown, hts⟩
  refine lv_bipush (v := (-9)) hx hb dX3_dayBy_0 (by decide) ?_
  refine lv_istore (lv' := [(4, .int (-9)), (0, .ref (ad 0)), (1, .int (nI u)), (2, .int (nI ct)), (3, .int what)]) hx hb dX3_dayBy_2 hl (by decide) rfl (fun ls hl => ?_)
  refine lv_iconst (v := nI 0) hx hb dX3_dayBy_4 (by decide) ?_
  refine lv_istore (lv' := [(5, .int (nI 0)), (4, .int (-9)), (0, .ref (ad 0)), (1, .int (nI u)), (2, .int (nI ct)), (3, .int what)]) hx hb dX3_dayBy_5 hl (by decide) rfl (fun ls hl => ?_)
  refine lv_iconst (v := nI 0) hx hb dX3_dayBy_7 (by decide) ?_
  refine lv_istore (lv' := [(6, .int (nI 0)), (5, .int (nI 0)), (4, .int (-9)), (0, .ref (ad 0)), (1, .int (nI u)), (2, .int (nI ct)), (3, .int what)]) hx hb dX3_dayBy_8 hl (by decide) rfl (fun ls hl => ?_)
  have K10 : ∀ (fuel : Nat) (i : Nat) (x5 : Int32) (x4 : Int32) (g1 : Nat) (g2 : Nat → Nat), x5 = nI (cntN (dyC n fo ki st we lo bg u) i) → x4 = optI (firstV (dyX n fo we lo bg u) i) → g1 = (dyS n fo we lo bg u i).1 → g2 = (dyS n fo we lo bg u i).2 → (i ≤ ct) → (ct - i) < fuel → ∀ (H : Heap) (locs : List Loc), va_P D vwCl (wM cI ad fa n g1 ki st we g2 ra rch q0 q1 q2 q3 fk fc rd rc rv sh sle sla bg hd tr) H → va_D (AW (adM ad)) (wM cI ad fa n g1 ki st we g2 ra rch q0 q1 q2 q3 fk fc rd rc rv sh sle sla bg hd tr) → va_S (AW (adM ad)) s.heap H locs → ∀ ls : Array Slot, lv_has ls 7 [(6, .int (nI i)), (5, .int x5), (4, .int x4), (0, .ref (ad 0)), (1, .int (nI u)), (2, .int (nI ct)), (3, .int what)] → W p l e ({ frames := 5, cells := 0, slots := 0, locals := 108 }) s m (([.ref (ad 0), .int (nI u), .int (nI ct), .int what] : List Value).toArray) below meth c H locs 0 0 (MQ below (va_Qi (fun r (zz : Nat × (Nat → Nat)) => r = ansD n fo ki st we lo bg u ct what ∧ ∀ j, n ≤ j → zz.2 j = lo j) (fun (zz : Nat × (Nat → Nat)) t => va_P D vwCl (wM cI ad fa n zz.1 ki st we zz.2 ra rch q0 q1 q2 q3 fk fc rd rc rv sh sle sla bg hd tr) t.heap) (AW (adM ad))) (([.ref (ad 0), .int (nI u), .int (nI ct), .int what] : List Value).toArray) s 0 0 (AW (adM ad))) (F0 m 10 ls []) := by
    intro fuel
    induction fuel with
    | zero => intro i x5 x4 g1 g2 e_x5 e_x4 e_g1 e_g2 hi hmu; exact absurd hmu (Nat.not_lt_zero _)
    | succ fuel ih =>
      intro i x5 x4 g1 g2 e_x5 e_x4 e_g1 e_g2 hi hmu H locs hP hD hS ls hl
      subst e_x5
      subst e_x4
      subst e_g1
      subst e_g2
      obtain ⟨hg1, hg2⟩ := dy_inv (we := we) hn hfo hlo hok i hi
      refine lv_iload hx hb dX3_dayBy_10 (lv_at hl 0 rfl) ?_
      refine lv_iload_n hx hb dX3_dayBy_12 rfl (lv_at hl 5 rfl) ?_
      refine lv_icmp_ge (tgt := 84) hx hb dX3_dayBy_13 (by decide) (fun c_13 => ?_) (fun c_13 => ?_)
      ·
        replace c_13 := (nI_leI (a := ct) (b := i) (by omega) (by omega)).mp c_13
        have hin : ct = i := by omega
        subst hin
        refine lv_iload_n hx hb dX3_dayBy_84 rfl (lv_at hl 6 rfl) ?_
        refine lv_iconst (v := nI 1) hx hb dX3_dayBy_85 (by decide) ?_
        refine lv_icmp_ne (tgt := 92) hx hb dX3_dayBy_86 (by decide) (fun c_86 => ?_) (fun c_86 => ?_)
        ·
          refine lv_iload hx hb dX3_dayBy_92 (lv_at hl 2 rfl) ?_
          refine lv_if_lt (tgt := 103) hx hb dX3_dayBy_94 (by decide) (fun c_94 => ?_) (fun c_94 => ?_)
          ·
            replace c_94 : (optI (firstV (dyX n fo we lo bg u) ct)).toInt < 0 := (i32_ltc (b := 0) (by omega)).mp c_94
            have hfn2 := optI_lt (fun b9 hb9 => by have := firstV_lt hb9; omega) c_94
            refine lv_iload_n hx hb dX3_dayBy_103 rfl (lv_at hl 6 rfl) ?_
            refine lv_bipush (v := nI 10) hx hb dX3_dayBy_104 (by decide) ?_
            refine lv_icmp_lt (tgt := 135) hx hb dX3_dayBy_106 (by decide) (fun c_106 => ?_) (fun c_106 => ?_)
            ·
              replace c_106 : what.toInt < 10 := (i32_ltc (b := 10) (by omega)).mp c_106
              refine lv_iload_n hx hb dX3_dayBy_135 rfl (lv_at hl 6 rfl) ?_
              refine lv_if_ne (tgt := 151) hx hb dX3_dayBy_136 (by decide) (fun c_136 => ?_) (fun c_136 => ?_)
              ·
                replace c_136 : ¬ what = nI 0 := c_136
                refine lv_iload_n hx hb dX3_dayBy_151 rfl (lv_at hl 6 rfl) ?_
                refine lv_iconst (v := nI 2) hx hb dX3_dayBy_152 (by decide) ?_
                refine lv_icmp_ne (tgt := 168) hx hb dX3_dayBy_153 (by decide) (fun c_153 => ?_) (fun c_153 => ?_)
                ·
                  refine lv_iload_n hx hb dX3_dayBy_168 rfl (lv_at hl 6 rfl) ?_
                  refine lv_iconst (v := nI 3) hx hb dX3_dayBy_169 (by decide) ?_
                  refine lv_icmp_ne (tgt := 180) hx hb dX3_dayBy_170 (by decide) (fun c_170 => ?_) (fun c_170 => ?_)
                  ·
                    refine lv_iload hx hb dX3_dayBy_180 (lv_at hl 1 rfl) ?_
                    exact xretM hx hb hr hlk dX3_dayBy_182 hS ⟨(dyS n fo we lo bg u ct).1, (dyS n fo we lo bg u ct).2⟩ (by have e4 := what4 hwh c_106 c_136 c_86 c_153 c_170; exact ⟨by simp [ansD, e4, hfn2, nIeq], (fun j9 hj9 => dy_out (fun p9 hp9 => ⟨(hok p9 hp9).2.2.1, (hok p9 hp9).2.2.2⟩) _ (by omega) j9 hj9)⟩) (fun t ht => by rw [ht]; exact hP)
                  ·
                    refine lv_aload_n hx hb dX3_dayBy_173 rfl (lv_at hl 3 rfl) ?_
                    refine va_get (D := D) (ci := 3) (v := .int (nI ((dyS n fo we lo bg u ct).1))) (C := RX3) (T := TX3) (N := 23) hx hb yX3 (fun _ h => h) hown hG.1 hP 0 rfl rfl 2 (by decide) f114 (fun _ h => h) rfl dX3_dayBy_174 ?_
                    refine lv_goto (tgt := 182) hx hb dX3_dayBy_177 (by decide) ?_
                    exact xretM hx hb hr hlk dX3_dayBy_182 hS ⟨(dyS n fo we lo bg u ct).1, (dyS n fo we lo bg u ct).2⟩ (by exact ⟨by simp [ansD, hfn2, nIeq, c_13, c_86, c_94, c_106, c_136, c_153, c_170], (fun j9 hj9 => dy_out (fun p9 hp9 => ⟨(hok p9 hp9).2.2.1, (hok p9 hp9).2.2.2⟩) _ (by omega) j9 hj9)⟩) (fun t ht => by rw [ht]; exact hP)
                ·
                  refine lv_aload_n hx hb dX3_dayBy_156 rfl (lv_at hl 3 rfl) ?_
                  refine lv_aload_n hx hb dX3_dayBy_157 rfl (lv_at hl 3 rfl) ?_
                  refine lv_iconst (v := nI 2) hx hb dX3_dayBy_158 (by decide) ?_
                  refine xrd (va_runV (As := [.int (nI 2)]) (rest := [.ref (ad 0)]) hF (c_X3_whoIs l D cI cS ad fa n ((dyS n fo we lo bg u ct).1) ki st we ((dyS n fo we lo bg u ct).2) ra rch q0 q1 q2 q3 fk fc rd rc rv sh sle sla bg hd tr 2 (by first | assumption | omega) (by first | assumption | exact actF_lt hn hg1 (hok i (by omega)).2.2.1 (hok i (by omega)).2.2.2) (by first | assumption | omega) (by first | assumption | exact actL_le (hok i (by omega)).2.2.1 hg2) (by omega)) (cwV 1 hts gX3_dayBy_X3_whoIs rfl rfl rfl hV_X3_whoIs ⟨Nat.le_of_ble_eq_true rfl, Nat.le_of_ble_eq_true rfl⟩) (PR.preV hG hP (ci := 3) rfl rfl) rfl rfl hl.1 rfl (lv_room (Nat.le_of_ble_eq_true rfl)) dX3_dayBy_159 ⟨Nat.le_refl _, Nat.le_refl _⟩) ?_
                  refine xrd (va_runV (As := [.int (nI (forS n ((dyS n fo we lo bg u ct).1) st ((dyS n fo we lo bg u ct).2) 2))]) (rest := []) hF (c_X3_votesIn l D cI cS ad fa n ((dyS n fo we lo bg u ct).1) ki st we ((dyS n fo we lo bg u ct).2) ra rch q0 q1 q2 q3 fk fc rd rc rv sh sle sla bg hd tr (forS n ((dyS n fo we lo bg u ct).1) st ((dyS n fo we lo bg u ct).2) 2) (by first | assumption | omega) (by first | assumption | exact actF_lt hn hg1 (hok i (by omega)).2.2.1 (hok i (by omega)).2.2.2) (by first | assumption | omega) (by first | assumption | omega) (by exact setN_256 hn)) (cwV 1 hts gX3_dayBy_X3_votesIn rfl rfl rfl hV_X3_votesIn ⟨Nat.le_of_ble_eq_true rfl, Nat.le_of_ble_eq_true rfl⟩) (PR.preV hG hP (ci := 3) rfl rfl) rfl rfl hl.1 rfl (lv_room (Nat.le_of_ble_eq_true rfl)) dX3_dayBy_162 ⟨Nat.le_refl _, Nat.le_refl _⟩) ?_
                  refine xtop (x' := nI (vfN n ((dyS n fo we lo bg u ct).1) ki st we ((dyS n fo we lo bg u ct).2) 2)) (by exact congrArg nI vf_eq) ?_
                  refine lv_goto (tgt := 182) hx hb dX3_dayBy_165 (by decide) ?_
                  exact xretM hx hb hr hlk dX3_dayBy_182 hS ⟨(dyS n fo we lo bg u ct).1, (dyS n fo we lo bg u ct).2⟩ (by exact ⟨by simp [ansD, hfn2, nIeq, c_13, c_86, c_94, c_106, c_136, c_153], (fun j9 hj9 => dy_out (fun p9 hp9 => ⟨(hok p9 hp9).2.2.1, (hok p9 hp9).2.2.2⟩) _ (by omega) j9 hj9)⟩) (fun t ht => by rw [ht]; exact hP)
              ·
                replace c_136 : what = nI 0 := c_136
                refine lv_aload_n hx hb dX3_dayBy_139 rfl (lv_at hl 3 rfl) ?_
                refine lv_aload_n hx hb dX3_dayBy_140 rfl (lv_at hl 3 rfl) ?_
                refine lv_iconst (v := nI 1) hx hb dX3_dayBy_141 (by decide) ?_
                refine xrd (va_runV (As := [.int (nI 1)]) (rest := [.ref (ad 0)]) hF (c_X3_whoIs l D cI cS ad fa n ((dyS n fo we lo bg u ct).1) ki st we ((dyS n fo we lo bg u ct).2) ra rch q0 q1 q2 q3 fk fc rd rc rv sh sle sla bg hd tr 1 (by first | assumption | omega) (by first | assumption | exact actF_lt hn hg1 (hok i (by omega)).2.2.1 (hok i (by omega)).2.2.2) (by first | assumption | omega) (by first | assumption | exact actL_le (hok i (by omega)).2.2.1 hg2) (by omega)) (cwV 1 hts gX3_dayBy_X3_whoIs rfl rfl rfl hV_X3_whoIs ⟨Nat.le_of_ble_eq_true rfl, Nat.le_of_ble_eq_true rfl⟩) (PR.preV hG hP (ci := 3) rfl rfl) rfl rfl hl.1 rfl (lv_room (Nat.le_of_ble_eq_true rfl)) dX3_dayBy_142 ⟨Nat.le_refl _, Nat.le_refl _⟩) ?_
                refine xrd (va_runV (As := [.int (nI (forS n ((dyS n fo we lo bg u ct).1) st ((dyS n fo we lo bg u ct).2) 1))]) (rest := []) hF (c_X3_votesIn l D cI cS ad fa n ((dyS n fo we lo bg u ct).1) ki st we ((dyS n fo we lo bg u ct).2) ra rch q0 q1 q2 q3 fk fc rd rc rv sh sle sla bg hd tr (forS n ((dyS n fo we lo bg u ct).1) st ((dyS n fo we lo bg u ct).2) 1) (by first | assumption | omega) (by first | assumption | exact actF_lt hn hg1 (hok i (by omega)).2.2.1 (hok i (by omega)).2.2.2) (by first | assumption | omega) (by first | assumption | omega) (by exact setN_256 hn)) (cwV 1 hts gX3_dayBy_X3_votesIn rfl rfl rfl hV_X3_votesIn ⟨Nat.le_of_ble_eq_true rfl, Nat.le_of_ble_eq_true rfl⟩) (PR.preV hG hP (ci := 3) rfl rfl) rfl rfl hl.1 rfl (lv_room (Nat.le_of_ble_eq_true rfl)) dX3_dayBy_145 ⟨Nat.le_refl _, Nat.le_refl _⟩) ?_
                refine xtop (x' := nI (vfN n ((dyS n fo we lo bg u ct).1) ki st we ((dyS n fo we lo bg u ct).2) 1)) (by exact congrArg nI vf_eq) ?_
                refine lv_goto (tgt := 182) hx hb dX3_dayBy_148 (by decide) ?_
                exact xretM hx hb hr hlk dX3_dayBy_182 hS ⟨(dyS n fo we lo bg u ct).1, (dyS n fo we lo bg u ct).2⟩ (by exact ⟨by simp [ansD, hfn2, nIeq, c_13, c_86, c_94, c_106, c_136], (fun j9 hj9 => dy_out (fun p9 hp9 => ⟨(hok p9 hp9).2.2.1, (hok p9 hp9).2.2.2⟩) _ (by omega) j9 hj9)⟩) (fun t ht => by rw [ht]; exact hP)
            ·
              replace c_106 : ¬ what.toInt < 10 := (not_congr (i32_ltc (b := 10) (by omega))).mp c_106
              have w0 := what10 c_106 (k := 0) (by decide)
              have w1 := what10 c_106 (k := 1) (by decide)
              have w2 := what10 c_106 (k := 2) (by decide)
              have w3 := what10 c_106 (k := 3) (by decide)
              have w4 := what10 c_106 (k := 4) (by decide)
              refine lv_aload_n hx hb dX3_dayBy_109 rfl (lv_at hl 3 rfl) ?_
              refine lv_iload_n hx hb dX3_dayBy_110 rfl (lv_at hl 6 rfl) ?_
              refine lv_bipush (v := nI 10) hx hb dX3_dayBy_111 (by decide) ?_
              refine lv_isub hx hb dX3_dayBy_113 ?_
              refine xrd (va_runV (As := [.int (what - (nI 10))]) (rest := []) hF (c_X3_noChair l D cI cS ad fa n ((dyS n fo we lo bg u ct).1) ki st we ((dyS n fo we lo bg u ct).2) ra rch q0 q1 q2 q3 fk fc rd rc rv sh sle sla bg hd tr (what - (nI 10)) (by first | assumption | omega)) (cwV 1 hts gX3_dayBy_X3_noChair rfl rfl rfl hV_X3_noChair ⟨Nat.le_of_ble_eq_true rfl, Nat.le_of_ble_eq_true rfl⟩) (PR.preV hG hP (ci := 3) rfl rfl) rfl rfl hl.1 rfl (lv_room (Nat.le_of_ble_eq_true rfl)) dX3_dayBy_114 ⟨Nat.le_refl _, Nat.le_refl _⟩) ?_
              refine lv_if_eq (tgt := 125) hx hb dX3_dayBy_117 (by decide) (fun c_117 => ?_) (fun c_117 => ?_)
              ·
                replace c_117 := bI_0.mp c_117
                replace c_117 := (by simpa using c_117 : (hasB n (what - (nI 10))) = true)
                obtain ⟨jj, hjj, e10⟩ := hasB_t c_117
                have hcl10 : (what - nI 10).toNatClampNeg = jj := by rw [e10]; exact cl8 (by omega)
                refine lv_aload_n hx hb dX3_dayBy_125 rfl (lv_at hl 3 rfl) ?_
                refine va_get (D := D) (ci := 3) (v := .ref (ad 4)) (C := RX3) (T := TX3) (N := 23) hx hb yX3 (fun _ h => h) hown hG.1 hP 0 rfl rfl 6 (by decide) f19 (fun _ h => h) rfl dX3_dayBy_126 ?_
                refine lv_iload_n hx hb dX3_dayBy_129 rfl (lv_at hl 6 rfl) ?_
                refine lv_bipush (v := nI 10) hx hb dX3_dayBy_130 (by decide) ?_
                refine lv_isub hx hb dX3_dayBy_132 ?_
                refine xtop (x' := nI jj) (by exact e10) ?_
                refine xaldN hx hb hG hP 4 rfl (jj) rfl (by omega) (by decide) dX3_dayBy_133 ?_
                exact xretM hx hb hr hlk dX3_dayBy_134 hS ⟨(dyS n fo we lo bg u ct).1, (dyS n fo we lo bg u ct).2⟩ (by exact ⟨by simp [ansD, hfn2, nIeq, c_13, c_86, c_94, c_106, w0, w1, w2, w3, w4, c_117, hcl10], (fun j9 hj9 => dy_out (fun p9 hp9 => ⟨(hok p9 hp9).2.2.1, (hok p9 hp9).2.2.2⟩) _ (by omega) j9 hj9)⟩) (fun t ht => by rw [ht]; exact hP)
              ·
                replace c_117 := bI_n0.mp c_117
                replace c_117 := (by simpa using c_117 : (hasB n (what - (nI 10))) = false)
                refine lv_bipush (v := (-9)) hx hb dX3_dayBy_120 (by decide) ?_
                refine lv_goto (tgt := 134) hx hb dX3_dayBy_122 (by decide) ?_
                exact xretM hx hb hr hlk dX3_dayBy_134 hS ⟨(dyS n fo we lo bg u ct).1, (dyS n fo we lo bg u ct).2⟩ (by exact ⟨by simp [ansD, hfn2, nIeq, c_13, c_86, c_94, c_106, w0, w1, w2, w3, w4, c_117], (fun j9 hj9 => dy_out (fun p9 hp9 => ⟨(hok p9 hp9).2.2.1, (hok p9 hp9).2.2.2⟩) _ (by omega) j9 hj9)⟩) (fun t ht => by rw [ht]; exact hP)
          ·
            replace c_94 : ¬ (optI (firstV (dyX n fo we lo bg u) ct)).toInt < 0 := (not_congr (i32_ltc (b := 0) (by omega))).mp c_94
            obtain ⟨p9, hp9⟩ := optI_ge c_94
            have hfc := hp9
            refine lv_bipush (v := (-100)) hx hb dX3_dayBy_97 (by decide) ?_
            refine lv_iload hx hb dX3_dayBy_99 (lv_at hl 2 rfl) ?_
            refine xtop (x' := nI p9) (by rw [hp9]; rfl) ?_
            refine lv_isub hx hb dX3_dayBy_101 ?_
            exact xretM hx hb hr hlk dX3_dayBy_102 hS ⟨(dyS n fo we lo bg u ct).1, (dyS n fo we lo bg u ct).2⟩ (by exact ⟨(an_f hfc c_86).symm, (fun j9 hj9 => dy_out (fun p9 hp9 => ⟨(hok p9 hp9).2.2.1, (hok p9 hp9).2.2.2⟩) _ (by omega) j9 hj9)⟩) (fun t ht => by rw [ht]; exact hP)
        ·
          refine lv_iload hx hb dX3_dayBy_89 (lv_at hl 2 rfl) ?_
          exact xretM hx hb hr hlk dX3_dayBy_91 hS ⟨(dyS n fo we lo bg u ct).1, (dyS n fo we lo bg u ct).2⟩ (by exact ⟨(an_1 c_86).symm, (fun j9 hj9 => dy_out (fun p9 hp9 => ⟨(hok p9 hp9).2.2.1, (hok p9 hp9).2.2.2⟩) _ (by omega) j9 hj9)⟩) (fun t ht => by rw [ht]; exact hP)
      ·
        replace c_13 := (not_congr (nI_leI (a := ct) (b := i) (by omega) (by omega))).mp c_13
        refine lv_iload hx hb dX3_dayBy_16 (lv_at hl 2 rfl) ?_
        refine lv_if_ge (tgt := 84) hx hb dX3_dayBy_18 (by decide) (fun c_18 => ?_) (fun c_18 => ?_)
        ·
          replace c_18 : 0 ≤ (optI (firstV (dyX n fo we lo bg u) i)).toInt := (i32_gec (b := 0) (by omega)).mp c_18
          obtain ⟨p9, hp9⟩ := optI_ge (show ¬ (optI (firstV (dyX n fo we lo bg u) i)).toInt < 0 by omega)
          have hp9l := firstV_lt hp9
          have hfc := fv_mono hp9 hi
          refine lv_iload_n hx hb dX3_dayBy_84 rfl (lv_at hl 6 rfl) ?_
          refine lv_iconst (v := nI 1) hx hb dX3_dayBy_85 (by decide) ?_
          refine lv_icmp_ne (tgt := 92) hx hb dX3_dayBy_86 (by decide) (fun c_86 => ?_) (fun c_86 => ?_)
          ·
            refine lv_iload hx hb dX3_dayBy_92 (lv_at hl 2 rfl) ?_
            refine xtop (x' := nI p9) (by rw [hp9]; rfl) ?_
            refine lv_if_lt (tgt := 103) hx hb dX3_dayBy_94 (by decide) (fun c_94 => ?_) (fun c_94 => ?_)
            · exact absurd c_94 (nI_nn (by omega))
            ·
              refine lv_bipush (v := (-100)) hx hb dX3_dayBy_97 (by decide) ?_
              refine lv_iload hx hb dX3_dayBy_99 (lv_at hl 2 rfl) ?_
              refine xtop (x' := nI p9) (by rw [hp9]; rfl) ?_
              refine lv_isub hx hb dX3_dayBy_101 ?_
              exact xretM hx hb hr hlk dX3_dayBy_102 hS ⟨(dyS n fo we lo bg u i).1, (dyS n fo we lo bg u i).2⟩ (by exact ⟨(an_f hfc c_86).symm, (fun j9 hj9 => dy_out (fun p9 hp9 => ⟨(hok p9 hp9).2.2.1, (hok p9 hp9).2.2.2⟩) _ (by omega) j9 hj9)⟩) (fun t ht => by rw [ht]; exact hP)
          ·
            refine lv_iload hx hb dX3_dayBy_89 (lv_at hl 2 rfl) ?_
            refine xtop (x' := optI (firstV (dyX n fo we lo bg u) ct)) (by rw [hp9, hfc]) ?_
            exact xretM hx hb hr hlk dX3_dayBy_91 hS ⟨(dyS n fo we lo bg u i).1, (dyS n fo we lo bg u i).2⟩ (by exact ⟨(an_1 c_86).symm, (fun j9 hj9 => dy_out (fun p9 hp9 => ⟨(hok p9 hp9).2.2.1, (hok p9 hp9).2.2.2⟩) _ (by omega) j9 hj9)⟩) (fun t ht => by rw [ht]; exact hP)
        ·
          replace c_18 : ¬ 0 ≤ (optI (firstV (dyX n fo we lo bg u) i)).toInt := (not_congr (i32_gec (b := 0) (by omega))).mp c_18
          have hfn := optI_lt (fun b9 hb9 => by have := firstV_lt hb9; omega) (show (optI (firstV (dyX n fo we lo bg u) i)).toInt < 0 by omega)
          refine lv_aload_n hx hb dX3_dayBy_21 rfl (lv_at hl 3 rfl) ?_
          refine lv_aload_n hx hb dX3_dayBy_22 rfl (lv_at hl 3 rfl) ?_
          refine va_get (D := D) (ci := 3) (v := .ref (ad 14)) (C := RX3) (T := TX3) (N := 23) hx hb yX3 (fun _ h => h) hown hG.1 hP 0 rfl rfl 20 (by decide) f49 (fun _ h => h) rfl dX3_dayBy_23 ?_
          refine lv_iload_n hx hb dX3_dayBy_26 rfl (lv_at hl 4 rfl) ?_
          refine lv_iconst (v := nI 2) hx hb dX3_dayBy_27 (by decide) ?_
          refine lv_iload hx hb dX3_dayBy_28 (lv_at hl 0 rfl) ?_
          refine xmulN hx hb dX3_dayBy_30 ?_
          refine xaddN hx hb dX3_dayBy_31 ?_
          refine xald hx hb hG hP 14 rfl (u + (2 * i)) rfl (by omega) (by decide) dX3_dayBy_32 ?_
          refine xtop (x' := nI (dA bg u i)) (by exact (hok i (by omega)).1) ?_
          refine lv_aload_n hx hb dX3_dayBy_33 rfl (lv_at hl 3 rfl) ?_
          refine va_get (D := D) (ci := 3) (v := .ref (ad 14)) (C := RX3) (T := TX3) (N := 23) hx hb yX3 (fun _ h => h) hown hG.1 hP 0 rfl rfl 20 (by decide) f49 (fun _ h => h) rfl dX3_dayBy_34 ?_
          refine lv_iload_n hx hb dX3_dayBy_37 rfl (lv_at hl 4 rfl) ?_
          refine lv_iconst (v := nI 2) hx hb dX3_dayBy_38 (by decide) ?_
          refine lv_iload hx hb dX3_dayBy_39 (lv_at hl 0 rfl) ?_
          refine xmulN hx hb dX3_dayBy_41 ?_
          refine xaddN hx hb dX3_dayBy_42 ?_
          refine lv_iconst (v := nI 1) hx hb dX3_dayBy_43 (by decide) ?_
          refine xaddN hx hb dX3_dayBy_44 ?_
          refine xald hx hb hG hP 14 rfl (u + (2 * i) + 1) rfl (by omega) (by decide) dX3_dayBy_45 ?_
          refine xtop (x' := nI (dB bg u i)) (by exact (hok i (by omega)).2.1) ?_
          refine xmuW (va_runV (As := [.int (nI (dA bg u i)), .int (nI (dB bg u i))]) (rest := []) hF (c_X3_didPair l D cI cS ad fa n ((dyS n fo we lo bg u i).1) ki st we ((dyS n fo we lo bg u i).2) ra rch q0 q1 q2 q3 fk fc rd rc rv sh sle sla bg hd tr (dA bg u i) (dB bg u i) hnd (by first | assumption | omega) (by first | assumption | exact actF_lt hn hg1 (hok i (by omega)).2.2.1 (hok i (by omega)).2.2.2) (by first | assumption | exact actL_le (hok i (by omega)).2.2.1 hg2) (by first | assumption | omega) (by exact (hok i (by omega)).2.2.1) (by exact (hok i (by omega)).2.2.2)) (cwV 2 hts gX3_dayBy_X3_didPair rfl rfl rfl hV_X3_didPair ⟨Nat.le_of_ble_eq_true rfl, Nat.le_of_ble_eq_true rfl⟩) (PR.preV hG hP (ci := 3) rfl rfl) rfl rfl hl.1 rfl (lv_room (Nat.le_of_ble_eq_true rfl)) dX3_dayBy_46 ⟨Nat.le_refl _, Nat.le_refl _⟩) hD hS rfl (fun _ => rfl) (fun r_46 u_46 H locs q_46 hP hD hS => ?_)
          try dsimp only at q_46 hP hD
          have e_46 := q_46
          subst e_46
          have hP : va_P D vwCl (wM cI ad fa n (actF n ((dyS n fo we lo bg u i).1) (dA bg u i) (dB bg u i)) ki st we (actL n ((dyS n fo we lo bg u i).1) we ((dyS n fo we lo bg u i).2) (dA bg u i) (dB bg u i)) ra rch q0 q1 q2 q3 fk fc rd rc rv sh sle sla bg hd tr) H := hP
          have hD : va_D (AW (adM ad)) (wM cI ad fa n (actF n ((dyS n fo we lo bg u i).1) (dA bg u i) (dB bg u i)) ki st we (actL n ((dyS n fo we lo bg u i).1) we ((dyS n fo we lo bg u i).2) (dA bg u i) (dB bg u i)) ra rch q0 q1 q2 q3 fk fc rd rc rv sh sle sla bg hd tr) := hD
          refine lv_if_eq (tgt := 57) hx hb dX3_dayBy_49 (by decide) (fun c_49 => ?_) (fun c_49 => ?_)
          ·
            replace c_49 := bI_0.mp c_49
            refine lv_iload hx hb dX3_dayBy_57 (lv_at hl 0 rfl) ?_
            refine lv_istore (lv' := [(4, .int (nI i)), (6, .int (nI i)), (5, .int (nI (cntN (dyC n fo ki st we lo bg u) i))), (0, .ref (ad 0)), (1, .int (nI u)), (2, .int (nI ct)), (3, .int what)]) hx hb dX3_dayBy_59 hl (by decide) rfl (fun ls hl => ?_)
            refine lv_iload hx hb dX3_dayBy_61 (lv_at hl 2 rfl) ?_
            refine lv_aload_n hx hb dX3_dayBy_63 rfl (lv_at hl 3 rfl) ?_
            refine xrd (va_runV (As := []) (rest := [.int (nI (cntN (dyC n fo ki st we lo bg u) i))]) hF (c_X3_isCarried l D cI cS ad fa n (actF n ((dyS n fo we lo bg u i).1) (dA bg u i) (dB bg u i)) ki st we (actL n ((dyS n fo we lo bg u i).1) we ((dyS n fo we lo bg u i).2) (dA bg u i) (dB bg u i)) ra rch q0 q1 q2 q3 fk fc rd rc rv sh sle sla bg hd tr (by first | assumption | omega) (by first | assumption | exact actF_lt hn hg1 (hok i (by omega)).2.2.1 (hok i (by omega)).2.2.2) (by first | assumption | omega) (by first | assumption | omega) (by first | assumption | omega) (by first | assumption | exact actL_le (hok i (by omega)).2.2.1 hg2)) (cwV 0 hts gX3_dayBy_X3_isCarried rfl rfl rfl hV_X3_isCarried ⟨Nat.le_of_ble_eq_true rfl, Nat.le_of_ble_eq_true rfl⟩) (PR.preV hG hP (ci := 3) rfl rfl) rfl rfl hl.1 rfl (lv_room (Nat.le_of_ble_eq_true rfl)) dX3_dayBy_64 ⟨Nat.le_refl _, Nat.le_refl _⟩) ?_
            refine lv_if_eq (tgt := 74) hx hb dX3_dayBy_67 (by decide) (fun c_67 => ?_) (fun c_67 => ?_)
            ·
              replace c_67 := bI_0.mp c_67
              refine lv_iconst (v := nI 0) hx hb dX3_dayBy_74 (by decide) ?_
              refine xaddN hx hb dX3_dayBy_75 ?_
              refine lv_istore (lv' := [(5, .int (nI (cntN (dyC n fo ki st we lo bg u) i + 0))), (4, .int (nI i)), (6, .int (nI i)), (0, .ref (ad 0)), (1, .int (nI u)), (2, .int (nI ct)), (3, .int what)]) hx hb dX3_dayBy_76 hl (by decide) rfl (fun ls hl => ?_)
              refine lv_iinc (v := nI (i + 1)) (lv' := [(6, .int (nI (i + 1))), (5, .int (nI (cntN (dyC n fo ki st we lo bg u) i + 0))), (4, .int (nI i)), (0, .ref (ad 0)), (1, .int (nI u)), (2, .int (nI ct)), (3, .int what)]) hx hb dX3_dayBy_78 hl (k := 2) rfl xinc1 (by decide) rfl (fun ls hl => ?_)
              refine lv_goto (tgt := 10) hx hb dX3_dayBy_81 (by decide) ?_
              exact ih (i + 1) (nI (cntN (dyC n fo ki st we lo bg u) i + 0)) (nI i) (actF n ((dyS n fo we lo bg u i).1) (dA bg u i) (dB bg u i)) (actL n ((dyS n fo we lo bg u i).1) we ((dyS n fo we lo bg u i).2) (dA bg u i) (dB bg u i)) (by rw [cnt_n (show dyC n fo ki st we lo bg u i = false from c_67), Nat.add_zero]) (by rw [fv_y hfn (show dyX n fo we lo bg u i = true from (by unfold dyX; rw [c_49]; rfl))]; rfl) (by rfl) (by rfl) (by omega) (by omega) _ _ hP hD hS ls (lv_sub hl [0, 1, 2, 3, 4, 5, 6] rfl)
            ·
              replace c_67 := bI_n0.mp c_67
              refine lv_iconst (v := nI 1) hx hb dX3_dayBy_70 (by decide) ?_
              refine lv_goto (tgt := 75) hx hb dX3_dayBy_71 (by decide) ?_
              refine xaddN hx hb dX3_dayBy_75 ?_
              refine lv_istore (lv' := [(5, .int (nI (cntN (dyC n fo ki st we lo bg u) i + 1))), (4, .int (nI i)), (6, .int (nI i)), (0, .ref (ad 0)), (1, .int (nI u)), (2, .int (nI ct)), (3, .int what)]) hx hb dX3_dayBy_76 hl (by decide) rfl (fun ls hl => ?_)
              refine lv_iinc (v := nI (i + 1)) (lv' := [(6, .int (nI (i + 1))), (5, .int (nI (cntN (dyC n fo ki st we lo bg u) i + 1))), (4, .int (nI i)), (0, .ref (ad 0)), (1, .int (nI u)), (2, .int (nI ct)), (3, .int what)]) hx hb dX3_dayBy_78 hl (k := 2) rfl xinc1 (by decide) rfl (fun ls hl => ?_)
              refine lv_goto (tgt := 10) hx hb dX3_dayBy_81 (by decide) ?_
              exact ih (i + 1) (nI (cntN (dyC n fo ki st we lo bg u) i + 1)) (nI i) (actF n ((dyS n fo we lo bg u i).1) (dA bg u i) (dB bg u i)) (actL n ((dyS n fo we lo bg u i).1) we ((dyS n fo we lo bg u i).2) (dA bg u i) (dB bg u i)) (by rw [cnt_y (show dyC n fo ki st we lo bg u i = true from c_67)]) (by rw [fv_y hfn (show dyX n fo we lo bg u i = true from (by unfold dyX; rw [c_49]; rfl))]; rfl) (by rfl) (by rfl) (by omega) (by omega) _ _ hP hD hS ls (lv_sub hl [0, 1, 2, 3, 4, 5, 6] rfl)
          ·
            replace c_49 := bI_n0.mp c_49
            refine lv_bipush (v := (-9)) hx hb dX3_dayBy_52 (by decide) ?_
            refine lv_goto (tgt := 59) hx hb dX3_dayBy_54 (by decide) ?_
            refine lv_istore (lv' := [(4, .int (-9)), (6, .int (nI i)), (5, .int (nI (cntN (dyC n fo ki st we lo bg u) i))), (0, .ref (ad 0)), (1, .int (nI u)), (2, .int (nI ct)), (3, .int what)]) hx hb dX3_dayBy_59 hl (by decide) rfl (fun ls hl => ?_)
            refine lv_iload hx hb dX3_dayBy_61 (lv_at hl 2 rfl) ?_
            refine lv_aload_n hx hb dX3_dayBy_63 rfl (lv_at hl 3 rfl) ?_
            refine xrd (va_runV (As := []) (rest := [.int (nI (cntN (dyC n fo ki st we lo bg u) i))]) hF (c_X3_isCarried l D cI cS ad fa n (actF n ((dyS n fo we lo bg u i).1) (dA bg u i) (dB bg u i)) ki st we (actL n ((dyS n fo we lo bg u i).1) we ((dyS n fo we lo bg u i).2) (dA bg u i) (dB bg u i)) ra rch q0 q1 q2 q3 fk fc rd rc rv sh sle sla bg hd tr (by first | assumption | omega) (by first | assumption | exact actF_lt hn hg1 (hok i (by omega)).2.2.1 (hok i (by omega)).2.2.2) (by first | assumption | omega) (by first | assumption | omega) (by first | assumption | omega) (by first | assumption | exact actL_le (hok i (by omega)).2.2.1 hg2)) (cwV 0 hts gX3_dayBy_X3_isCarried rfl rfl rfl hV_X3_isCarried ⟨Nat.le_of_ble_eq_true rfl, Nat.le_of_ble_eq_true rfl⟩) (PR.preV hG hP (ci := 3) rfl rfl) rfl rfl hl.1 rfl (lv_room (Nat.le_of_ble_eq_true rfl)) dX3_dayBy_64 ⟨Nat.le_refl _, Nat.le_refl _⟩) ?_
            refine lv_if_eq (tgt := 74) hx hb dX3_dayBy_67 (by decide) (fun c_67 => ?_) (fun c_67 => ?_)
            ·
              replace c_67 := bI_0.mp c_67
              refine lv_iconst (v := nI 0) hx hb dX3_dayBy_74 (by decide) ?_
              refine xaddN hx hb dX3_dayBy_75 ?_
              refine lv_istore (lv' := [(5, .int (nI (cntN (dyC n fo ki st we lo bg u) i + 0))), (4, .int (-9)), (6, .int (nI i)), (0, .ref (ad 0)), (1, .int (nI u)), (2, .int (nI ct)), (3, .int what)]) hx hb dX3_dayBy_76 hl (by decide) rfl (fun ls hl => ?_)
              refine lv_iinc (v := nI (i + 1)) (lv' := [(6, .int (nI (i + 1))), (5, .int (nI (cntN (dyC n fo ki st we lo bg u) i + 0))), (4, .int (-9)), (0, .ref (ad 0)), (1, .int (nI u)), (2, .int (nI ct)), (3, .int what)]) hx hb dX3_dayBy_78 hl (k := 2) rfl xinc1 (by decide) rfl (fun ls hl => ?_)
              refine lv_goto (tgt := 10) hx hb dX3_dayBy_81 (by decide) ?_
              exact ih (i + 1) (nI (cntN (dyC n fo ki st we lo bg u) i + 0)) (-9) (actF n ((dyS n fo we lo bg u i).1) (dA bg u i) (dB bg u i)) (actL n ((dyS n fo we lo bg u i).1) we ((dyS n fo we lo bg u i).2) (dA bg u i) (dB bg u i)) (by rw [cnt_n (show dyC n fo ki st we lo bg u i = false from c_67), Nat.add_zero]) (by rw [fv_n hfn (show dyX n fo we lo bg u i = false from (by unfold dyX; rw [c_49]; rfl))]; rfl) (by rfl) (by rfl) (by omega) (by omega) _ _ hP hD hS ls (lv_sub hl [0, 1, 2, 3, 4, 5, 6] rfl)
            ·
              replace c_67 := bI_n0.mp c_67
              refine lv_iconst (v := nI 1) hx hb dX3_dayBy_70 (by decide) ?_
              refine lv_goto (tgt := 75) hx hb dX3_dayBy_71 (by decide) ?_
              refine xaddN hx hb dX3_dayBy_75 ?_
              refine lv_istore (lv' := [(5, .int (nI (cntN (dyC n fo ki st we lo bg u) i + 1))), (4, .int (-9)), (6, .int (nI i)), (0, .ref (ad 0)), (1, .int (nI u)), (2, .int (nI ct)), (3, .int what)]) hx hb dX3_dayBy_76 hl (by decide) rfl (fun ls hl => ?_)
              refine lv_iinc (v := nI (i + 1)) (lv' := [(6, .int (nI (i + 1))), (5, .int (nI (cntN (dyC n fo ki st we lo bg u) i + 1))), (4, .int (-9)), (0, .ref (ad 0)), (1, .int (nI u)), (2, .int (nI ct)), (3, .int what)]) hx hb dX3_dayBy_78 hl (k := 2) rfl xinc1 (by decide) rfl (fun ls hl => ?_)
              refine lv_goto (tgt := 10) hx hb dX3_dayBy_81 (by decide) ?_
              exact ih (i + 1) (nI (cntN (dyC n fo ki st we lo bg u) i + 1)) (-9) (actF n ((dyS n fo we lo bg u i).1) (dA bg u i) (dB bg u i)) (actL n ((dyS n fo we lo bg u i).1) we ((dyS n fo we lo bg u i).2) (dA bg u i) (dB bg u i)) (by rw [cnt_y (show dyC n fo ki st we lo bg u i = true from c_67)]) (by rw [fv_n hfn (show dyX n fo we lo bg u i = false from (by unfold dyX; rw [c_49]; rfl))]; rfl) (by rfl) (by rfl) (by omega) (by omega) _ _ hP hD hS ls (lv_sub hl [0, 1, 2, 3, 4, 5, 6] rfl)
  exact K10 _ 0 (nI 0) (-9) fo lo (by first | rfl | omega) (by first | rfl | omega) (by first | rfl | omega) (by first | rfl | omega) (by first | rfl | omega) (Nat.lt_succ_self _) _ _ hP hD hS ls (lv_sub hl [0, 1, 2, 3, 4, 5, 6] rfl)

set_option maxHeartbeats 4000000 in
set_option maxRecDepth 100000 in
theorem c_X3_day (l : Launch) (D : va_G) (cI cS : ClassId) (ad : Nat → Nat) (fa : Nat) (n : Nat) (fo : Nat) (ki : Nat → Nat) (st : Nat → Nat) (we : Nat → Nat) (lo : Nat → Nat) (ra : Nat) (rch : Nat) (q0 : Nat → Int32) (q1 : Nat → Int32) (q2 : Nat → Int32) (q3 : Nat → Int32) (fk : Nat) (fc : Nat → Nat) (rd : Nat) (rc : Nat → Nat) (rv : Nat → Nat) (sh : Nat → Bool) (sle : Nat → Nat) (sla : Nat → Nat) (bg : Nat → Int32) (hd : Nat → Int32) (tr : Int32) (k : Int32) (la : Int32) (i : Int32) (ct : Int32) (what : Int32) (hnd : nd (adM ad)) (hn : n ≤ 8) (hfo : fo < 256) (hki : ∀ j, ki j ≤ 2) (hwe : ∀ j, we j ≤ 9) (hst : ∀ j, st j ≤ 3) (hlo : ∀ j, lo j ≤ 3) (hsla : ∀ j, sla j ≤ 2) (hsle : ∀ j, sle j ≤ 60) : Met l yX3_day wsX3_day ({ frames := 6, cells := 0, slots := 0, locals := 134 }) (PR D cI cS [.ref (ad 0), .int k, .int la, .int i, .int ct, .int what] (wM cI ad fa n fo ki st we lo ra rch q0 q1 q2 q3 fk fc rd rc rv sh sle sla bg hd tr)) (va_Qi (fun r (zz : Nat × (Nat → Nat)) => r = A_day sh sla sle (bigF bg) n fo ki st we lo k la i ct what) (fun (zz : Nat × (Nat → Nat)) t => va_P D vwCl (wM cI ad (S_day sh sla sle n k la i ct what) n fo ki st we lo ra rch q0 q1 q2 q3 zz.1 zz.2 rd rc rv sh sle sla bg hd tr) t.heap) (AW (adM ad))) 0 0 (AW (adM ad)) := by
  refine startM (by decide) rfl (Nat.le_of_ble_eq_true rfl) hnd rfl ?_
  intro p e s m below meth c hx hb hr hts hown hlk hml hG hP hD hS ls hl
  have hl : lv_has ls 8 [(0, .ref (ad 0)), (1, .int k), (2, .int la), (3, .int i), (4, .int ct), (5, .int what)] := hl
  have f65 := hts (.fieldLink RX3 65 "ChairBallotModel" "chairs" "I") (by decide +kernel)
  have yX3 : ∀ w ∈ u_ws RX3 TX3 23, w.before _ s = true := fun w h => hts w ((by decide +kernel : ∀ w ∈ wsX30, w ∈ wsX3_day) w h)
  have hF : CallFix p m c cX3_day 8 s _ wsX3_day RX3 := ⟨hx, hb, hml, hown, hts⟩
  refine lv_iload_n hx hb dX3_day_0 rfl (lv_at hl 1 rfl) ?_
  refine xrd (va_runS (As := [.int k]) (rest := []) hF (c_X3_noSheet l D cI cS k ) (va_cwS 1 hts gX3_day_X3_noSheet rfl rfl rfl hD_X3_noSheet ⟨Nat.le_of_ble_eq_true rfl, Nat.le_of_ble_eq_true rfl⟩) (PR.pre hG (hP.sub (ws' := []) [] rfl)) rfl rfl hl.1 rfl (lv_room (Nat.le_of_ble_eq_true rfl)) dX3_day_1 ⟨Nat.le_refl _, Nat.le_refl _⟩) ?_
  refine lv_if_eq (tgt := 13) hx hb dX3_day_4 (by decide) (fun c_4 => ?_) (fun c_4 => ?_)
  ·
    replace c_4 := bI_0.mp c_4
    replace c_4 := (by simpa using c_4 : (rgB 0 3 k) = true)
    obtain ⟨j, hj0, hj1, rfl⟩ := rgB_nat (by decide) c_4
    have hclj := cl8 (j := j) (by omega)
    have hsj := hsle j
    have hsaj := hsla j
    refine lv_iload_n hx hb dX3_day_13 rfl (lv_at hl 2 rfl) ?_
    refine lv_i2l (v := la.toInt64) hx hb dX3_day_14 rfl ?_
    refine lv_lconst (v := lN 0) hx hb dX3_day_15 rfl ?_
    refine lv_ldc2 (v := 2) hx hb hown (hts (.constantLong RX3 105 (2)) (by decide +kernel)) dX3_day_16 ?_
    refine xtopl (x' := lN 2) rfl ?_
    refine xrd (va_runS (As := [.long la.toInt64, .long (lN 0), .long (lN 2)]) (rest := []) hF (c_X3_in l D cI cS la 0 2 (by first | assumption | omega) (by first | assumption | omega)) (va_cwS 3 hts gX3_day_X3_in rfl rfl rfl hD_X3_in ⟨Nat.le_of_ble_eq_true rfl, Nat.le_of_ble_eq_true rfl⟩) (PR.pre hG (hP.sub (ws' := []) [] rfl)) rfl rfl hl.1 rfl (lv_room (Nat.le_of_ble_eq_true rfl)) dX3_day_19 ⟨Nat.le_refl _, Nat.le_refl _⟩) ?_
    refine xtop (x' := bI (rgB 0 2 la)) rfl ?_
    refine lv_if_eq (tgt := 66) hx hb dX3_day_22 (by decide) (fun c_22 => ?_) (fun c_22 => ?_)
    ·
      replace c_22 := bI_0.mp c_22
      refine lv_aload_n hx hb dX3_day_66 rfl (lv_at hl 0 rfl) ?_
      refine lv_bipush (v := (-2)) hx hb dX3_day_67 (by decide) ?_
      refine xmuW (va_runV (As := [.int (-2)]) (rest := []) hF (c_X3_refused l D cI cS ad fa n fo ki st we lo ra rch q0 q1 q2 q3 fk fc rd rc rv sh sle sla bg hd tr (-2) hnd) (cwV 1 hts gX3_day_X3_refused rfl rfl rfl hV_X3_refused ⟨Nat.le_of_ble_eq_true rfl, Nat.le_of_ble_eq_true rfl⟩) (PR.preV hG hP (ci := 3) rfl rfl) rfl rfl hl.1 rfl (lv_room (Nat.le_of_ble_eq_true rfl)) dX3_day_69 ⟨Nat.le_refl _, Nat.le_refl _⟩) hD hS rfl (fun _ => rfl) (fun r_69 u_69 H locs q_69 hP hD hS => ?_)
      try dsimp only at q_69 hP hD
      have e_69 := q_69
      subst e_69
      have hP : va_P D vwCl (wM cI ad 0 n fo ki st we lo ra rch q0 q1 q2 q3 fk fc rd rc rv sh sle sla bg hd tr) H := hP
      have hD : va_D (AW (adM ad)) (wM cI ad 0 n fo ki st we lo ra rch q0 q1 q2 q3 fk fc rd rc rv sh sle sla bg hd tr) := hD
      exact xretM hx hb hr hlk dX3_day_72 hS ⟨fk, fc⟩ (by simp [A_day, c_4, hclj, c_22]) (fun t ht => by rw [ht]; rw [show S_day sh sla sle n (nI j) la i ct what = 0 from by simp [S_day, c_4, hclj, c_22]]; exact hP)
    ·
      replace c_22 := bI_n0.mp c_22
      obtain ⟨w, hw0, hw1, rfl⟩ := rgB_nat (by decide) c_22
      have hclw := cl8 (j := w) (by omega)
      refine lv_iload hx hb dX3_day_25 (lv_at hl 4 rfl) ?_
      refine lv_i2l (v := ct.toInt64) hx hb dX3_day_27 rfl ?_
      refine lv_lconst (v := lN 0) hx hb dX3_day_28 rfl ?_
      refine lv_ldc2 (v := 20) hx hb hown (hts (.constantLong RX3 180 (20)) (by decide +kernel)) dX3_day_29 ?_
      refine xtopl (x' := lN 20) rfl ?_
      refine xrd (va_runS (As := [.long ct.toInt64, .long (lN 0), .long (lN 20)]) (rest := []) hF (c_X3_in l D cI cS ct 0 20 (by first | assumption | omega) (by first | assumption | omega)) (va_cwS 3 hts gX3_day_X3_in rfl rfl rfl hD_X3_in ⟨Nat.le_of_ble_eq_true rfl, Nat.le_of_ble_eq_true rfl⟩) (PR.pre hG (hP.sub (ws' := []) [] rfl)) rfl rfl hl.1 rfl (lv_room (Nat.le_of_ble_eq_true rfl)) dX3_day_32 ⟨Nat.le_refl _, Nat.le_refl _⟩) ?_
      refine xtop (x' := bI (rgB 0 20 ct)) rfl ?_
      refine lv_if_eq (tgt := 66) hx hb dX3_day_35 (by decide) (fun c_35 => ?_) (fun c_35 => ?_)
      ·
        replace c_35 := bI_0.mp c_35
        refine lv_aload_n hx hb dX3_day_66 rfl (lv_at hl 0 rfl) ?_
        refine lv_bipush (v := (-2)) hx hb dX3_day_67 (by decide) ?_
        refine xmuW (va_runV (As := [.int (-2)]) (rest := []) hF (c_X3_refused l D cI cS ad fa n fo ki st we lo ra rch q0 q1 q2 q3 fk fc rd rc rv sh sle sla bg hd tr (-2) hnd) (cwV 1 hts gX3_day_X3_refused rfl rfl rfl hV_X3_refused ⟨Nat.le_of_ble_eq_true rfl, Nat.le_of_ble_eq_true rfl⟩) (PR.preV hG hP (ci := 3) rfl rfl) rfl rfl hl.1 rfl (lv_room (Nat.le_of_ble_eq_true rfl)) dX3_day_69 ⟨Nat.le_refl _, Nat.le_refl _⟩) hD hS rfl (fun _ => rfl) (fun r_69 u_69 H locs q_69 hP hD hS => ?_)
        try dsimp only at q_69 hP hD
        have e_69 := q_69
        subst e_69
        have hP : va_P D vwCl (wM cI ad 0 n fo ki st we lo ra rch q0 q1 q2 q3 fk fc rd rc rv sh sle sla bg hd tr) H := hP
        have hD : va_D (AW (adM ad)) (wM cI ad 0 n fo ki st we lo ra rch q0 q1 q2 q3 fk fc rd rc rv sh sle sla bg hd tr) := hD
        exact xretM hx hb hr hlk dX3_day_72 hS ⟨fk, fc⟩ (by simp [A_day, c_4, hclj, c_22, hclw, c_35]) (fun t ht => by rw [ht]; rw [show S_day sh sla sle n (nI j) (nI w) i ct what = 0 from by simp [S_day, c_4, hclj, c_22, hclw, c_35]]; exact hP)
      ·
        replace c_35 := bI_n0.mp c_35
        obtain ⟨cc, hcc0, hcc1, rfl⟩ := rgB_nat (by decide) c_35
        have hclcc := cl8 (j := cc) (by omega)
        refine lv_iload hx hb dX3_day_38 (lv_at hl 5 rfl) ?_
        refine lv_i2l (v := what.toInt64) hx hb dX3_day_40 rfl ?_
        refine lv_lconst (v := lN 0) hx hb dX3_day_41 rfl ?_
        refine lv_ldc2 (v := 4) hx hb hown (hts (.constantLong RX3 167 (4)) (by decide +kernel)) dX3_day_42 ?_
        refine xtopl (x' := lN 4) rfl ?_
        refine xrd (va_runS (As := [.long what.toInt64, .long (lN 0), .long (lN 4)]) (rest := []) hF (c_X3_in l D cI cS what 0 4 (by first | assumption | omega) (by first | assumption | omega)) (va_cwS 3 hts gX3_day_X3_in rfl rfl rfl hD_X3_in ⟨Nat.le_of_ble_eq_true rfl, Nat.le_of_ble_eq_true rfl⟩) (PR.pre hG (hP.sub (ws' := []) [] rfl)) rfl rfl hl.1 rfl (lv_room (Nat.le_of_ble_eq_true rfl)) dX3_day_45 ⟨Nat.le_refl _, Nat.le_refl _⟩) ?_
        refine xtop (x' := bI (rgB 0 4 what)) rfl ?_
        refine lv_if_ne (tgt := 73) hx hb dX3_day_48 (by decide) (fun c_48 => ?_) (fun c_48 => ?_)
        ·
          replace c_48 := bI_n0.mp c_48
          have hwh : (rgB 0 4 what || rgB 10 17 what) = true := by rw [c_48]; rfl
          refine lv_aload_n hx hb dX3_day_73 rfl (lv_at hl 0 rfl) ?_
          refine va_get (D := D) (ci := 3) (v := .int (nI n)) (C := RX3) (T := TX3) (N := 23) hx hb yX3 (fun _ h => h) hown hG.1 hP 0 rfl rfl 1 (by decide) f65 (fun _ h => h) rfl dX3_day_74 ?_
          refine lv_if_ne (tgt := 87) hx hb dX3_day_77 (by decide) (fun c_77 => ?_) (fun c_77 => ?_)
          ·
            replace c_77 := (not_congr (nI_eq (a := n) (b := 0) (by omega) (by omega))).mp c_77
            have hn0 : ¬ n = 0 := by omega
            refine lv_aload_n hx hb dX3_day_87 rfl (lv_at hl 0 rfl) ?_
            refine lv_iload_n hx hb dX3_day_88 rfl (lv_at hl 1 rfl) ?_
            refine lv_iload_n hx hb dX3_day_89 rfl (lv_at hl 2 rfl) ?_
            refine lv_iload_n hx hb dX3_day_90 rfl (lv_at hl 3 rfl) ?_
            refine lv_ldc2 (v := 2) hx hb hown (hts (.constantLong RX3 105 (2)) (by decide +kernel)) dX3_day_91 ?_
            refine xtopl (x' := lN 2) rfl ?_
            refine lv_iload hx hb dX3_day_94 (lv_at hl 4 rfl) ?_
            refine lv_i2l (v := lN cc) hx hb dX3_day_96 (nI_l (by omega)) ?_
            refine xlmulN hx hb dX3_day_97 ?_
            refine xmuW (va_runV (As := [.int (nI j), .int (nI w), .int i, .long (lN (2 * cc))]) (rest := []) hF (c_X3_cellsBarredN l D cI cS ad fa n fo ki st we lo ra rch q0 q1 q2 q3 fk fc rd rc rv sh sle sla bg hd tr j w i (2 * cc) hnd (by first | assumption | omega) (by first | assumption | omega) (by first | assumption | omega) (by first | assumption | omega) (by first | assumption | omega)) (cwV 4 hts gX3_day_X3_cellsBarred rfl rfl rfl hV_X3_cellsBarred ⟨Nat.le_of_ble_eq_true rfl, Nat.le_of_ble_eq_true rfl⟩) (PR.preV hG hP (ci := 3) rfl rfl) rfl rfl hl.1 rfl (lv_room (Nat.le_of_ble_eq_true rfl)) dX3_day_98 ⟨Nat.le_refl _, Nat.le_refl _⟩) hD hS rfl (fun _ => rfl) (fun r_98 u_98 H locs q_98 hP hD hS => ?_)
            try dsimp only at q_98 hP hD
            have e_98 := q_98
            subst e_98
            have hP : va_P D vwCl (wM cI ad (faN (cbN sh sla sle j w i (nI (2 * cc))) fa) n fo ki st we lo ra rch q0 q1 q2 q3 fk fc rd rc rv sh sle sla bg hd tr) H := hP
            have hD : va_D (AW (adM ad)) (wM cI ad (faN (cbN sh sla sle j w i (nI (2 * cc))) fa) n fo ki st we lo ra rch q0 q1 q2 q3 fk fc rd rc rv sh sle sla bg hd tr) := hD
            refine lv_istore (lv' := [(6, .int (cbR (cbN sh sla sle j w i (nI (2 * cc))))), (0, .ref (ad 0)), (1, .int (nI j)), (2, .int (nI w)), (3, .int i), (4, .int (nI cc)), (5, .int what)]) hx hb dX3_day_101 hl (by decide) rfl (fun ls hl => ?_)
            refine lv_iload hx hb dX3_day_103 (lv_at hl 0 rfl) ?_
            refine lv_if_ge (tgt := 111) hx hb dX3_day_105 (by decide) (fun c_105 => ?_) (fun c_105 => ?_)
            ·
              replace c_105 : 0 ≤ (cbR (cbN sh sla sle j w i (nI (2 * cc)))).toInt := (i32_gec (b := 0) (by omega)).mp c_105
              have hcb := cbR_ge cbN_le c_105
              obtain ⟨hcf, hc0, hch⟩ := cb_0 hcb
              obtain ⟨u, hu, rfl⟩ := hldB_nat2 (by omega) hch
              have hclu := cl8 (j := u) (by omega)
              refine lv_aload_n hx hb dX3_day_111 rfl (lv_at hl 1 rfl) ?_
              refine lv_bipush (v := nI 60) hx hb dX3_day_112 (by decide) ?_
              refine lv_iload_n hx hb dX3_day_114 rfl (lv_at hl 2 rfl) ?_
              refine xmulN hx hb dX3_day_115 ?_
              refine lv_iload_n hx hb dX3_day_116 rfl (lv_at hl 4 rfl) ?_
              refine xaddN hx hb dX3_day_117 ?_
              refine lv_iload hx hb dX3_day_118 (lv_at hl 5 rfl) ?_
              refine xrd (va_runV (As := [.int (nI (60 * j + u)), .int (nI cc)]) (rest := []) hF (c_X3_pairsBarred l D cI cS ad (faN (cbN sh sla sle j w (nI u) (nI (2 * cc))) fa) n fo ki st we lo ra rch q0 q1 q2 q3 fk fc rd rc rv sh sle sla bg hd tr (60 * j + u) cc (by first | assumption | omega) (by first | assumption | omega) (by first | assumption | omega)) (cwV 2 hts gX3_day_X3_pairsBarred rfl rfl rfl hV_X3_pairsBarred ⟨Nat.le_of_ble_eq_true rfl, Nat.le_of_ble_eq_true rfl⟩) (PR.preV hG hP (ci := 3) rfl rfl) rfl rfl hl.1 rfl (lv_room (Nat.le_of_ble_eq_true rfl)) dX3_day_120 ⟨Nat.le_refl _, Nat.le_refl _⟩) ?_
              refine lv_istore (lv' := [(6, .int (firstR (refD n bg (60 * j + u)) cc)), (0, .ref (ad 0)), (1, .int (nI j)), (2, .int (nI w)), (3, .int (nI u)), (4, .int (nI cc)), (5, .int what)]) hx hb dX3_day_123 hl (by decide) rfl (fun ls hl => ?_)
              refine lv_iload hx hb dX3_day_125 (lv_at hl 0 rfl) ?_
              refine lv_if_ge (tgt := 137) hx hb dX3_day_127 (by decide) (fun c_127 => ?_) (fun c_127 => ?_)
              ·
                replace c_127 : 0 ≤ (firstR (refD n bg (60 * j + u)) cc).toInt := (i32_gec (b := 0) (by omega)).mp c_127
                have hf0 := fr_ge c_127
                refine lv_aload_n hx hb dX3_day_137 rfl (lv_at hl 1 rfl) ?_
                refine xmuWv (va_runV (As := []) (rest := []) hF (c_X3_keepAll l D cI cS ad (faN (cbN sh sla sle j w (nI u) (nI (2 * cc))) fa) n fo ki st we lo ra rch q0 q1 q2 q3 fk fc rd rc rv sh sle sla bg hd tr hnd (by first | assumption | omega)) (cwV 0 hts gX3_day_X3_keepAll rfl rfl rfl hV_X3_keepAll ⟨Nat.le_of_ble_eq_true rfl, Nat.le_of_ble_eq_true rfl⟩) (PR.preV hG hP (ci := 3) rfl rfl) rfl rfl hl.1 rfl (lv_room (Nat.le_of_ble_eq_true rfl)) dX3_day_138 ⟨Nat.le_refl _, Nat.le_refl _⟩) hD hS rfl (fun _ => rfl) (fun u_138 H locs q_138 hP hD hS => ?_)
                try dsimp only at q_138 hP hD
                have hP : va_P D vwCl (wM cI ad (faN (cbN sh sla sle j w (nI u) (nI (2 * cc))) fa) n fo ki st we lo ra rch q0 q1 q2 q3 fo (kpF n lo fc) rd rc rv sh sle sla bg hd tr) H := hP
                have hD : va_D (AW (adM ad)) (wM cI ad (faN (cbN sh sla sle j w (nI u) (nI (2 * cc))) fa) n fo ki st we lo ra rch q0 q1 q2 q3 fo (kpF n lo fc) rd rc rv sh sle sla bg hd tr) := hD
                refine lv_aload_n hx hb dX3_day_141 rfl (lv_at hl 1 rfl) ?_
                refine lv_bipush (v := nI 60) hx hb dX3_day_142 (by decide) ?_
                refine lv_iload_n hx hb dX3_day_144 rfl (lv_at hl 2 rfl) ?_
                refine xmulN hx hb dX3_day_145 ?_
                refine lv_iload_n hx hb dX3_day_146 rfl (lv_at hl 4 rfl) ?_
                refine xaddN hx hb dX3_day_147 ?_
                refine lv_iload hx hb dX3_day_148 (lv_at hl 5 rfl) ?_
                refine lv_iload hx hb dX3_day_150 (lv_at hl 6 rfl) ?_
                refine xmuW (va_runV (As := [.int (nI (60 * j + u)), .int (nI cc), .int what]) (rest := []) hF (c_X3_dayBy l D cI cS ad (faN (cbN sh sla sle j w (nI u) (nI (2 * cc))) fa) n fo ki st we lo ra rch q0 q1 q2 q3 fo (kpF n lo fc) rd rc rv sh sle sla bg hd tr (60 * j + u) cc what hnd (by first | assumption | omega) (by first | assumption | omega) (by first | assumption | omega) (by first | assumption | omega) (by first | assumption | omega) (by first | assumption | omega) (by first | assumption | omega) (by first | assumption | omega) (by exact day_ok hn hf0) (by first | assumption | omega)) (cwV 3 hts gX3_day_X3_dayBy rfl rfl rfl hV_X3_dayBy ⟨Nat.le_of_ble_eq_true rfl, Nat.le_of_ble_eq_true rfl⟩) (PR.preV hG hP (ci := 3) rfl rfl) rfl rfl hl.1 rfl (lv_room (Nat.le_of_ble_eq_true rfl)) dX3_day_152 ⟨Nat.le_refl _, Nat.le_refl _⟩) hD hS rfl (fun _ => rfl) (fun r_152 u_152 H locs q_152 hP hD hS => ?_)
                obtain ⟨fo0_152, lo0_152⟩ := u_152
                try dsimp only at q_152 hP hD
                obtain ⟨e_152, q_152⟩ := q_152
                subst e_152
                have hP : va_P D vwCl (wM cI ad (faN (cbN sh sla sle j w (nI u) (nI (2 * cc))) fa) n fo0_152 ki st we lo0_152 ra rch q0 q1 q2 q3 fo (kpF n lo fc) rd rc rv sh sle sla bg hd tr) H := hP
                have hD : va_D (AW (adM ad)) (wM cI ad (faN (cbN sh sla sle j w (nI u) (nI (2 * cc))) fa) n fo0_152 ki st we lo0_152 ra rch q0 q1 q2 q3 fo (kpF n lo fc) rd rc rv sh sle sla bg hd tr) := hD
                refine lv_istore (lv' := [(7, .int (ansD n fo ki st we lo bg (60 * j + u) cc what)), (6, .int (firstR (refD n bg (60 * j + u)) cc)), (0, .ref (ad 0)), (1, .int (nI j)), (2, .int (nI w)), (3, .int (nI u)), (4, .int (nI cc)), (5, .int what)]) hx hb dX3_day_155 hl (by decide) rfl (fun ls hl => ?_)
                refine lv_aload_n hx hb dX3_day_157 rfl (lv_at hl 2 rfl) ?_
                refine xmuWv (va_runV (As := []) (rest := []) hF (c_X3_bringBack l D cI cS ad (faN (cbN sh sla sle j w (nI u) (nI (2 * cc))) fa) n fo0_152 ki st we lo0_152 ra rch q0 q1 q2 q3 fo (kpF n lo fc) rd rc rv sh sle sla bg hd tr hnd (by first | assumption | omega)) (cwV 0 hts gX3_day_X3_bringBack rfl rfl rfl hV_X3_bringBack ⟨Nat.le_of_ble_eq_true rfl, Nat.le_of_ble_eq_true rfl⟩) (PR.preV hG hP (ci := 3) rfl rfl) rfl rfl hl.1 rfl (lv_room (Nat.le_of_ble_eq_true rfl)) dX3_day_158 ⟨Nat.le_refl _, Nat.le_refl _⟩) hD hS rfl (fun _ => rfl) (fun u_158 H locs q_158 hP hD hS => ?_)
                try dsimp only at q_158 hP hD
                have hP : va_P D vwCl (wM cI ad (faN (cbN sh sla sle j w (nI u) (nI (2 * cc))) fa) n fo ki st we (kpF n (kpF n lo fc) lo0_152) ra rch q0 q1 q2 q3 fo (kpF n lo fc) rd rc rv sh sle sla bg hd tr) H := hP
                have hD : va_D (AW (adM ad)) (wM cI ad (faN (cbN sh sla sle j w (nI u) (nI (2 * cc))) fa) n fo ki st we (kpF n (kpF n lo fc) lo0_152) ra rch q0 q1 q2 q3 fo (kpF n lo fc) rd rc rv sh sle sla bg hd tr) := hD
                rw [kp_back q_152] at hP hD
                have hP : va_P D vwCl (wM cI ad (faN (cbN sh sla sle j w (nI u) (nI (2 * cc))) fa) n fo ki st we lo ra rch q0 q1 q2 q3 fo (kpF n lo fc) rd rc rv sh sle sla bg hd tr) H := hP
                have hD : va_D (AW (adM ad)) (wM cI ad (faN (cbN sh sla sle j w (nI u) (nI (2 * cc))) fa) n fo ki st we lo ra rch q0 q1 q2 q3 fo (kpF n lo fc) rd rc rv sh sle sla bg hd tr) := hD
                refine lv_aload_n hx hb dX3_day_161 rfl (lv_at hl 2 rfl) ?_
                refine lv_iload hx hb dX3_day_162 (lv_at hl 0 rfl) ?_
                refine xmuW (va_runV (As := [.int (ansD n fo ki st we lo bg (60 * j + u) cc what)]) (rest := []) hF (c_X3_refused l D cI cS ad (faN (cbN sh sla sle j w (nI u) (nI (2 * cc))) fa) n fo ki st we lo ra rch q0 q1 q2 q3 fo (kpF n lo fc) rd rc rv sh sle sla bg hd tr (ansD n fo ki st we lo bg (60 * j + u) cc what) hnd) (cwV 1 hts gX3_day_X3_refused rfl rfl rfl hV_X3_refused ⟨Nat.le_of_ble_eq_true rfl, Nat.le_of_ble_eq_true rfl⟩) (PR.preV hG hP (ci := 3) rfl rfl) rfl rfl hl.1 rfl (lv_room (Nat.le_of_ble_eq_true rfl)) dX3_day_164 ⟨Nat.le_refl _, Nat.le_refl _⟩) hD hS rfl (fun _ => rfl) (fun r_164 u_164 H locs q_164 hP hD hS => ?_)
                try dsimp only at q_164 hP hD
                have e_164 := q_164
                subst e_164
                have hP : va_P D vwCl (wM cI ad 0 n fo ki st we lo ra rch q0 q1 q2 q3 fo (kpF n lo fc) rd rc rv sh sle sla bg hd tr) H := hP
                have hD : va_D (AW (adM ad)) (wM cI ad 0 n fo ki st we lo ra rch q0 q1 q2 q3 fo (kpF n lo fc) rd rc rv sh sle sla bg hd tr) := hD
                exact xretM hx hb hr hlk dX3_day_167 hS ⟨fo, kpF n lo fc⟩ (by rw [dy_A (by omega) c_4 c_22 c_35 hwh hn0 hclj hclw hclcc, if_pos hcb, hclu, rd_big, if_pos hf0, an_big]) (fun t ht => by rw [ht]; rw [show S_day sh sla sle n (nI j) (nI w) (nI u) (nI cc) what = 0 from by rw [dy_S (by omega) c_4 c_22 c_35 hwh hn0 hclj hclw hclcc, hcb]]; exact hP)
              ·
                replace c_127 : ¬ 0 ≤ (firstR (refD n bg (60 * j + u)) cc).toInt := (not_congr (i32_gec (b := 0) (by omega))).mp c_127
                have hf0 := fr_lt c_127
                refine lv_aload_n hx hb dX3_day_130 rfl (lv_at hl 1 rfl) ?_
                refine lv_iload hx hb dX3_day_131 (lv_at hl 0 rfl) ?_
                refine xmuW (va_runV (As := [.int (firstR (refD n bg (60 * j + u)) cc)]) (rest := []) hF (c_X3_refused l D cI cS ad (faN (cbN sh sla sle j w (nI u) (nI (2 * cc))) fa) n fo ki st we lo ra rch q0 q1 q2 q3 fk fc rd rc rv sh sle sla bg hd tr (firstR (refD n bg (60 * j + u)) cc) hnd) (cwV 1 hts gX3_day_X3_refused rfl rfl rfl hV_X3_refused ⟨Nat.le_of_ble_eq_true rfl, Nat.le_of_ble_eq_true rfl⟩) (PR.preV hG hP (ci := 3) rfl rfl) rfl rfl hl.1 rfl (lv_room (Nat.le_of_ble_eq_true rfl)) dX3_day_133 ⟨Nat.le_refl _, Nat.le_refl _⟩) hD hS rfl (fun _ => rfl) (fun r_133 u_133 H locs q_133 hP hD hS => ?_)
                try dsimp only at q_133 hP hD
                have e_133 := q_133
                subst e_133
                have hP : va_P D vwCl (wM cI ad 0 n fo ki st we lo ra rch q0 q1 q2 q3 fk fc rd rc rv sh sle sla bg hd tr) H := hP
                have hD : va_D (AW (adM ad)) (wM cI ad 0 n fo ki st we lo ra rch q0 q1 q2 q3 fk fc rd rc rv sh sle sla bg hd tr) := hD
                exact xretM hx hb hr hlk dX3_day_136 hS ⟨fk, fc⟩ (by rw [dy_A (by omega) c_4 c_22 c_35 hwh hn0 hclj hclw hclcc, if_pos hcb, hclu, rd_big, if_neg hf0]) (fun t ht => by rw [ht]; rw [show S_day sh sla sle n (nI j) (nI w) (nI u) (nI cc) what = 0 from by rw [dy_S (by omega) c_4 c_22 c_35 hwh hn0 hclj hclw hclcc, hcb]]; exact hP)
            ·
              replace c_105 : ¬ 0 ≤ (cbR (cbN sh sla sle j w i (nI (2 * cc)))).toInt := (not_congr (i32_gec (b := 0) (by omega))).mp c_105
              have hcb := cbR_lt c_105
              refine lv_iload hx hb dX3_day_108 (lv_at hl 0 rfl) ?_
              exact xretM hx hb hr hlk dX3_day_110 hS ⟨fk, fc⟩ (by rw [dy_A (by omega) c_4 c_22 c_35 hwh hn0 hclj hclw hclcc, if_neg hcb]; unfold cbR; rw [if_neg hcb]) (fun t ht => by rw [ht]; rw [show S_day sh sla sle n (nI j) (nI w) i (nI cc) what = (faN (cbN sh sla sle j w i (nI (2 * cc))) fa) from by rw [dy_S (by omega) c_4 c_22 c_35 hwh hn0 hclj hclw hclcc]; unfold faN; rw [if_neg hcb]]; exact hP)
          ·
            replace c_77 := (nI_eq (a := n) (b := 0) (by omega) (by omega)).mp c_77
            have hn0 : n = 0 := by omega
            refine lv_aload_n hx hb dX3_day_80 rfl (lv_at hl 0 rfl) ?_
            refine lv_bipush (v := (-3)) hx hb dX3_day_81 (by decide) ?_
            refine xmuW (va_runV (As := [.int (-3)]) (rest := []) hF (c_X3_refused l D cI cS ad fa n fo ki st we lo ra rch q0 q1 q2 q3 fk fc rd rc rv sh sle sla bg hd tr (-3) hnd) (cwV 1 hts gX3_day_X3_refused rfl rfl rfl hV_X3_refused ⟨Nat.le_of_ble_eq_true rfl, Nat.le_of_ble_eq_true rfl⟩) (PR.preV hG hP (ci := 3) rfl rfl) rfl rfl hl.1 rfl (lv_room (Nat.le_of_ble_eq_true rfl)) dX3_day_83 ⟨Nat.le_refl _, Nat.le_refl _⟩) hD hS rfl (fun _ => rfl) (fun r_83 u_83 H locs q_83 hP hD hS => ?_)
            try dsimp only at q_83 hP hD
            have e_83 := q_83
            subst e_83
            have hP : va_P D vwCl (wM cI ad 0 n fo ki st we lo ra rch q0 q1 q2 q3 fk fc rd rc rv sh sle sla bg hd tr) H := hP
            have hD : va_D (AW (adM ad)) (wM cI ad 0 n fo ki st we lo ra rch q0 q1 q2 q3 fk fc rd rc rv sh sle sla bg hd tr) := hD
            exact xretM hx hb hr hlk dX3_day_86 hS ⟨fk, fc⟩ (by simp [A_day, c_4, hclj, c_22, hclw, c_35, hclcc, c_48, hwh, c_77, hn0]) (fun t ht => by rw [ht]; rw [show S_day sh sla sle n (nI j) (nI w) i (nI cc) what = 0 from by simp [S_day, c_4, hclj, c_22, hclw, c_35, hclcc, c_48, hwh, c_77, hn0]]; exact hP)
        ·
          replace c_48 := bI_0.mp c_48
          refine lv_iload hx hb dX3_day_51 (lv_at hl 5 rfl) ?_
          refine lv_i2l (v := what.toInt64) hx hb dX3_day_53 rfl ?_
          refine lv_ldc2 (v := 10) hx hb hown (hts (.constantLong RX3 152 (10)) (by decide +kernel)) dX3_day_54 ?_
          refine xtopl (x' := lN 10) rfl ?_
          refine lv_ldc2 (v := 17) hx hb hown (hts (.constantLong RX3 182 (17)) (by decide +kernel)) dX3_day_57 ?_
          refine xtopl (x' := lN 17) rfl ?_
          refine xrd (va_runS (As := [.long what.toInt64, .long (lN 10), .long (lN 17)]) (rest := []) hF (c_X3_in l D cI cS what 10 17 (by first | assumption | omega) (by first | assumption | omega)) (va_cwS 3 hts gX3_day_X3_in rfl rfl rfl hD_X3_in ⟨Nat.le_of_ble_eq_true rfl, Nat.le_of_ble_eq_true rfl⟩) (PR.pre hG (hP.sub (ws' := []) [] rfl)) rfl rfl hl.1 rfl (lv_room (Nat.le_of_ble_eq_true rfl)) dX3_day_60 ⟨Nat.le_refl _, Nat.le_refl _⟩) ?_
          refine xtop (x' := bI (rgB 10 17 what)) rfl ?_
          refine lv_if_ne (tgt := 73) hx hb dX3_day_63 (by decide) (fun c_63 => ?_) (fun c_63 => ?_)
          ·
            replace c_63 := bI_n0.mp c_63
            have hwh : (rgB 0 4 what || rgB 10 17 what) = true := by rw [c_63, Bool.or_true]
            refine lv_aload_n hx hb dX3_day_73 rfl (lv_at hl 0 rfl) ?_
            refine va_get (D := D) (ci := 3) (v := .int (nI n)) (C := RX3) (T := TX3) (N := 23) hx hb yX3 (fun _ h => h) hown hG.1 hP 0 rfl rfl 1 (by decide) f65 (fun _ h => h) rfl dX3_day_74 ?_
            refine lv_if_ne (tgt := 87) hx hb dX3_day_77 (by decide) (fun c_77 => ?_) (fun c_77 => ?_)
            ·
              replace c_77 := (not_congr (nI_eq (a := n) (b := 0) (by omega) (by omega))).mp c_77
              have hn0 : ¬ n = 0 := by omega
              refine lv_aload_n hx hb dX3_day_87 rfl (lv_at hl 0 rfl) ?_
              refine lv_iload_n hx hb dX3_day_88 rfl (lv_at hl 1 rfl) ?_
              refine lv_iload_n hx hb dX3_day_89 rfl (lv_at hl 2 rfl) ?_
              refine lv_iload_n hx hb dX3_day_90 rfl (lv_at hl 3 rfl) ?_
              refine lv_ldc2 (v := 2) hx hb hown (hts (.constantLong RX3 105 (2)) (by decide +kernel)) dX3_day_91 ?_
              refine xtopl (x' := lN 2) rfl ?_
              refine lv_iload hx hb dX3_day_94 (lv_at hl 4 rfl) ?_
              refine lv_i2l (v := lN cc) hx hb dX3_day_96 (nI_l (by omega)) ?_
              refine xlmulN hx hb dX3_day_97 ?_
              refine xmuW (va_runV (As := [.int (nI j), .int (nI w), .int i, .long (lN (2 * cc))]) (rest := []) hF (c_X3_cellsBarredN l D cI cS ad fa n fo ki st we lo ra rch q0 q1 q2 q3 fk fc rd rc rv sh sle sla bg hd tr j w i (2 * cc) hnd (by first | assumption | omega) (by first | assumption | omega) (by first | assumption | omega) (by first | assumption | omega) (by first | assumption | omega)) (cwV 4 hts gX3_day_X3_cellsBarred rfl rfl rfl hV_X3_cellsBarred ⟨Nat.le_of_ble_eq_true rfl, Nat.le_of_ble_eq_true rfl⟩) (PR.preV hG hP (ci := 3) rfl rfl) rfl rfl hl.1 rfl (lv_room (Nat.le_of_ble_eq_true rfl)) dX3_day_98 ⟨Nat.le_refl _, Nat.le_refl _⟩) hD hS rfl (fun _ => rfl) (fun r_98 u_98 H locs q_98 hP hD hS => ?_)
              try dsimp only at q_98 hP hD
              have e_98 := q_98
              subst e_98
              have hP : va_P D vwCl (wM cI ad (faN (cbN sh sla sle j w i (nI (2 * cc))) fa) n fo ki st we lo ra rch q0 q1 q2 q3 fk fc rd rc rv sh sle sla bg hd tr) H := hP
              have hD : va_D (AW (adM ad)) (wM cI ad (faN (cbN sh sla sle j w i (nI (2 * cc))) fa) n fo ki st we lo ra rch q0 q1 q2 q3 fk fc rd rc rv sh sle sla bg hd tr) := hD
              refine lv_istore (lv' := [(6, .int (cbR (cbN sh sla sle j w i (nI (2 * cc))))), (0, .ref (ad 0)), (1, .int (nI j)), (2, .int (nI w)), (3, .int i), (4, .int (nI cc)), (5, .int what)]) hx hb dX3_day_101 hl (by decide) rfl (fun ls hl => ?_)
              refine lv_iload hx hb dX3_day_103 (lv_at hl 0 rfl) ?_
              refine lv_if_ge (tgt := 111) hx hb dX3_day_105 (by decide) (fun c_105 => ?_) (fun c_105 => ?_)
              ·
                replace c_105 : 0 ≤ (cbR (cbN sh sla sle j w i (nI (2 * cc)))).toInt := (i32_gec (b := 0) (by omega)).mp c_105
                have hcb := cbR_ge cbN_le c_105
                obtain ⟨hcf, hc0, hch⟩ := cb_0 hcb
                obtain ⟨u, hu, rfl⟩ := hldB_nat2 (by omega) hch
                have hclu := cl8 (j := u) (by omega)
                refine lv_aload_n hx hb dX3_day_111 rfl (lv_at hl 1 rfl) ?_
                refine lv_bipush (v := nI 60) hx hb dX3_day_112 (by decide) ?_
                refine lv_iload_n hx hb dX3_day_114 rfl (lv_at hl 2 rfl) ?_
                refine xmulN hx hb dX3_day_115 ?_
                refine lv_iload_n hx hb dX3_day_116 rfl (lv_at hl 4 rfl) ?_
                refine xaddN hx hb dX3_day_117 ?_
                refine lv_iload hx hb dX3_day_118 (lv_at hl 5 rfl) ?_
                refine xrd (va_runV (As := [.int (nI (60 * j + u)), .int (nI cc)]) (rest := []) hF (c_X3_pairsBarred l D cI cS ad (faN (cbN sh sla sle j w (nI u) (nI (2 * cc))) fa) n fo ki st we lo ra rch q0 q1 q2 q3 fk fc rd rc rv sh sle sla bg hd tr (60 * j + u) cc (by first | assumption | omega) (by first | assumption | omega) (by first | assumption | omega)) (cwV 2 hts gX3_day_X3_pairsBarred rfl rfl rfl hV_X3_pairsBarred ⟨Nat.le_of_ble_eq_true rfl, Nat.le_of_ble_eq_true rfl⟩) (PR.preV hG hP (ci := 3) rfl rfl) rfl rfl hl.1 rfl (lv_room (Nat.le_of_ble_eq_true rfl)) dX3_day_120 ⟨Nat.le_refl _, Nat.le_refl _⟩) ?_
                refine lv_istore (lv' := [(6, .int (firstR (refD n bg (60 * j + u)) cc)), (0, .ref (ad 0)), (1, .int (nI j)), (2, .int (nI w)), (3, .int (nI u)), (4, .int (nI cc)), (5, .int what)]) hx hb dX3_day_123 hl (by decide) rfl (fun ls hl => ?_)
                refine lv_iload hx hb dX3_day_125 (lv_at hl 0 rfl) ?_
                refine lv_if_ge (tgt := 137) hx hb dX3_day_127 (by decide) (fun c_127 => ?_) (fun c_127 => ?_)
                ·
                  replace c_127 : 0 ≤ (firstR (refD n bg (60 * j + u)) cc).toInt := (i32_gec (b := 0) (by omega)).mp c_127
                  have hf0 := fr_ge c_127
                  refine lv_aload_n hx hb dX3_day_137 rfl (lv_at hl 1 rfl) ?_
                  refine xmuWv (va_runV (As := []) (rest := []) hF (c_X3_keepAll l D cI cS ad (faN (cbN sh sla sle j w (nI u) (nI (2 * cc))) fa) n fo ki st we lo ra rch q0 q1 q2 q3 fk fc rd rc rv sh sle sla bg hd tr hnd (by first | assumption | omega)) (cwV 0 hts gX3_day_X3_keepAll rfl rfl rfl hV_X3_keepAll ⟨Nat.le_of_ble_eq_true rfl, Nat.le_of_ble_eq_true rfl⟩) (PR.preV hG hP (ci := 3) rfl rfl) rfl rfl hl.1 rfl (lv_room (Nat.le_of_ble_eq_true rfl)) dX3_day_138 ⟨Nat.le_refl _, Nat.le_refl _⟩) hD hS rfl (fun _ => rfl) (fun u_138 H locs q_138 hP hD hS => ?_)
                  try dsimp only at q_138 hP hD
                  have hP : va_P D vwCl (wM cI ad (faN (cbN sh sla sle j w (nI u) (nI (2 * cc))) fa) n fo ki st we lo ra rch q0 q1 q2 q3 fo (kpF n lo fc) rd rc rv sh sle sla bg hd tr) H := hP
                  have hD : va_D (AW (adM ad)) (wM cI ad (faN (cbN sh sla sle j w (nI u) (nI (2 * cc))) fa) n fo ki st we lo ra rch q0 q1 q2 q3 fo (kpF n lo fc) rd rc rv sh sle sla bg hd tr) := hD
                  refine lv_aload_n hx hb dX3_day_141 rfl (lv_at hl 1 rfl) ?_
                  refine lv_bipush (v := nI 60) hx hb dX3_day_142 (by decide) ?_
                  refine lv_iload_n hx hb dX3_day_144 rfl (lv_at hl 2 rfl) ?_
                  refine xmulN hx hb dX3_day_145 ?_
                  refine lv_iload_n hx hb dX3_day_146 rfl (lv_at hl 4 rfl) ?_
                  refine xaddN hx hb dX3_day_147 ?_
                  refine lv_iload hx hb dX3_day_148 (lv_at hl 5 rfl) ?_
                  refine lv_iload hx hb dX3_day_150 (lv_at hl 6 rfl) ?_
                  refine xmuW (va_runV (As := [.int (nI (60 * j + u)), .int (nI cc), .int what]) (rest := []) hF (c_X3_dayBy l D cI cS ad (faN (cbN sh sla sle j w (nI u) (nI (2 * cc))) fa) n fo ki st we lo ra rch q0 q1 q2 q3 fo (kpF n lo fc) rd rc rv sh sle sla bg hd tr (60 * j + u) cc what hnd (by first | assumption | omega) (by first | assumption | omega) (by first | assumption | omega) (by first | assumption | omega) (by first | assumption | omega) (by first | assumption | omega) (by first | assumption | omega) (by first | assumption | omega) (by exact day_ok hn hf0) (by first | assumption | omega)) (cwV 3 hts gX3_day_X3_dayBy rfl rfl rfl hV_X3_dayBy ⟨Nat.le_of_ble_eq_true rfl, Nat.le_of_ble_eq_true rfl⟩) (PR.preV hG hP (ci := 3) rfl rfl) rfl rfl hl.1 rfl (lv_room (Nat.le_of_ble_eq_true rfl)) dX3_day_152 ⟨Nat.le_refl _, Nat.le_refl _⟩) hD hS rfl (fun _ => rfl) (fun r_152 u_152 H locs q_152 hP hD hS => ?_)
                  obtain ⟨fo0_152, lo0_152⟩ := u_152
                  try dsimp only at q_152 hP hD
                  obtain ⟨e_152, q_152⟩ := q_152
                  subst e_152
                  have hP : va_P D vwCl (wM cI ad (faN (cbN sh sla sle j w (nI u) (nI (2 * cc))) fa) n fo0_152 ki st we lo0_152 ra rch q0 q1 q2 q3 fo (kpF n lo fc) rd rc rv sh sle sla bg hd tr) H := hP
                  have hD : va_D (AW (adM ad)) (wM cI ad (faN (cbN sh sla sle j w (nI u) (nI (2 * cc))) fa) n fo0_152 ki st we lo0_152 ra rch q0 q1 q2 q3 fo (kpF n lo fc) rd rc rv sh sle sla bg hd tr) := hD
                  refine lv_istore (lv' := [(7, .int (ansD n fo ki st we lo bg (60 * j + u) cc what)), (6, .int (firstR (refD n bg (60 * j + u)) cc)), (0, .ref (ad 0)), (1, .int (nI j)), (2, .int (nI w)), (3, .int (nI u)), (4, .int (nI cc)), (5, .int what)]) hx hb dX3_day_155 hl (by decide) rfl (fun ls hl => ?_)
                  refine lv_aload_n hx hb dX3_day_157 rfl (lv_at hl 2 rfl) ?_
                  refine xmuWv (va_runV (As := []) (rest := []) hF (c_X3_bringBack l D cI cS ad (faN (cbN sh sla sle j w (nI u) (nI (2 * cc))) fa) n fo0_152 ki st we lo0_152 ra rch q0 q1 q2 q3 fo (kpF n lo fc) rd rc rv sh sle sla bg hd tr hnd (by first | assumption | omega)) (cwV 0 hts gX3_day_X3_bringBack rfl rfl rfl hV_X3_bringBack ⟨Nat.le_of_ble_eq_true rfl, Nat.le_of_ble_eq_true rfl⟩) (PR.preV hG hP (ci := 3) rfl rfl) rfl rfl hl.1 rfl (lv_room (Nat.le_of_ble_eq_true rfl)) dX3_day_158 ⟨Nat.le_refl _, Nat.le_refl _⟩) hD hS rfl (fun _ => rfl) (fun u_158 H locs q_158 hP hD hS => ?_)
                  try dsimp only at q_158 hP hD
                  have hP : va_P D vwCl (wM cI ad (faN (cbN sh sla sle j w (nI u) (nI (2 * cc))) fa) n fo ki st we (kpF n (kpF n lo fc) lo0_152) ra rch q0 q1 q2 q3 fo (kpF n lo fc) rd rc rv sh sle sla bg hd tr) H := hP
                  have hD : va_D (AW (adM ad)) (wM cI ad (faN (cbN sh sla sle j w (nI u) (nI (2 * cc))) fa) n fo ki st we (kpF n (kpF n lo fc) lo0_152) ra rch q0 q1 q2 q3 fo (kpF n lo fc) rd rc rv sh sle sla bg hd tr) := hD
                  rw [kp_back q_152] at hP hD
                  have hP : va_P D vwCl (wM cI ad (faN (cbN sh sla sle j w (nI u) (nI (2 * cc))) fa) n fo ki st we lo ra rch q0 q1 q2 q3 fo (kpF n lo fc) rd rc rv sh sle sla bg hd tr) H := hP
                  have hD : va_D (AW (adM ad)) (wM cI ad (faN (cbN sh sla sle j w (nI u) (nI (2 * cc))) fa) n fo ki st we lo ra rch q0 q1 q2 q3 fo (kpF n lo fc) rd rc rv sh sle sla bg hd tr) := hD
                  refine lv_aload_n hx hb dX3_day_161 rfl (lv_at hl 2 rfl) ?_
                  refine lv_iload hx hb dX3_day_162 (lv_at hl 0 rfl) ?_
                  refine xmuW (va_runV (As := [.int (ansD n fo ki st we lo bg (60 * j + u) cc what)]) (rest := []) hF (c_X3_refused l D cI cS ad (faN (cbN sh sla sle j w (nI u) (nI (2 * cc))) fa) n fo ki st we lo ra rch q0 q1 q2 q3 fo (kpF n lo fc) rd rc rv sh sle sla bg hd tr (ansD n fo ki st we lo bg (60 * j + u) cc what) hnd) (cwV 1 hts gX3_day_X3_refused rfl rfl rfl hV_X3_refused ⟨Nat.le_of_ble_eq_true rfl, Nat.le_of_ble_eq_true rfl⟩) (PR.preV hG hP (ci := 3) rfl rfl) rfl rfl hl.1 rfl (lv_room (Nat.le_of_ble_eq_true rfl)) dX3_day_164 ⟨Nat.le_refl _, Nat.le_refl _⟩) hD hS rfl (fun _ => rfl) (fun r_164 u_164 H locs q_164 hP hD hS => ?_)
                  try dsimp only at q_164 hP hD
                  have e_164 := q_164
                  subst e_164
                  have hP : va_P D vwCl (wM cI ad 0 n fo ki st we lo ra rch q0 q1 q2 q3 fo (kpF n lo fc) rd rc rv sh sle sla bg hd tr) H := hP
                  have hD : va_D (AW (adM ad)) (wM cI ad 0 n fo ki st we lo ra rch q0 q1 q2 q3 fo (kpF n lo fc) rd rc rv sh sle sla bg hd tr) := hD
                  exact xretM hx hb hr hlk dX3_day_167 hS ⟨fo, kpF n lo fc⟩ (by rw [dy_A (by omega) c_4 c_22 c_35 hwh hn0 hclj hclw hclcc, if_pos hcb, hclu, rd_big, if_pos hf0, an_big]) (fun t ht => by rw [ht]; rw [show S_day sh sla sle n (nI j) (nI w) (nI u) (nI cc) what = 0 from by rw [dy_S (by omega) c_4 c_22 c_35 hwh hn0 hclj hclw hclcc, hcb]]; exact hP)
                ·
                  replace c_127 : ¬ 0 ≤ (firstR (refD n bg (60 * j + u)) cc).toInt := (not_congr (i32_gec (b := 0) (by omega))).mp c_127
                  have hf0 := fr_lt c_127
                  refine lv_aload_n hx hb dX3_day_130 rfl (lv_at hl 1 rfl) ?_
                  refine lv_iload hx hb dX3_day_131 (lv_at hl 0 rfl) ?_
                  refine xmuW (va_runV (As := [.int (firstR (refD n bg (60 * j + u)) cc)]) (rest := []) hF (c_X3_refused l D cI cS ad (faN (cbN sh sla sle j w (nI u) (nI (2 * cc))) fa) n fo ki st we lo ra rch q0 q1 q2 q3 fk fc rd rc rv sh sle sla bg hd tr (firstR (refD n bg (60 * j + u)) cc) hnd) (cwV 1 hts gX3_day_X3_refused rfl rfl rfl hV_X3_refused ⟨Nat.le_of_ble_eq_true rfl, Nat.le_of_ble_eq_true rfl⟩) (PR.preV hG hP (ci := 3) rfl rfl) rfl rfl hl.1 rfl (lv_room (Nat.le_of_ble_eq_true rfl)) dX3_day_133 ⟨Nat.le_refl _, Nat.le_refl _⟩) hD hS rfl (fun _ => rfl) (fun r_133 u_133 H locs q_133 hP hD hS => ?_)
                  try dsimp only at q_133 hP hD
                  have e_133 := q_133
                  subst e_133
                  have hP : va_P D vwCl (wM cI ad 0 n fo ki st we lo ra rch q0 q1 q2 q3 fk fc rd rc rv sh sle sla bg hd tr) H := hP
                  have hD : va_D (AW (adM ad)) (wM cI ad 0 n fo ki st we lo ra rch q0 q1 q2 q3 fk fc rd rc rv sh sle sla bg hd tr) := hD
                  exact xretM hx hb hr hlk dX3_day_136 hS ⟨fk, fc⟩ (by rw [dy_A (by omega) c_4 c_22 c_35 hwh hn0 hclj hclw hclcc, if_pos hcb, hclu, rd_big, if_neg hf0]) (fun t ht => by rw [ht]; rw [show S_day sh sla sle n (nI j) (nI w) (nI u) (nI cc) what = 0 from by rw [dy_S (by omega) c_4 c_22 c_35 hwh hn0 hclj hclw hclcc, hcb]]; exact hP)
              ·
                replace c_105 : ¬ 0 ≤ (cbR (cbN sh sla sle j w i (nI (2 * cc)))).toInt := (not_congr (i32_gec (b := 0) (by omega))).mp c_105
                have hcb := cbR_lt c_105
                refine lv_iload hx hb dX3_day_108 (lv_at hl 0 rfl) ?_
                exact xretM hx hb hr hlk dX3_day_110 hS ⟨fk, fc⟩ (by rw [dy_A (by omega) c_4 c_22 c_35 hwh hn0 hclj hclw hclcc, if_neg hcb]; unfold cbR; rw [if_neg hcb]) (fun t ht => by rw [ht]; rw [show S_day sh sla sle n (nI j) (nI w) i (nI cc) what = (faN (cbN sh sla sle j w i (nI (2 * cc))) fa) from by rw [dy_S (by omega) c_4 c_22 c_35 hwh hn0 hclj hclw hclcc]; unfold faN; rw [if_neg hcb]]; exact hP)
            ·
              replace c_77 := (nI_eq (a := n) (b := 0) (by omega) (by omega)).mp c_77
              have hn0 : n = 0 := by omega
              refine lv_aload_n hx hb dX3_day_80 rfl (lv_at hl 0 rfl) ?_
              refine lv_bipush (v := (-3)) hx hb dX3_day_81 (by decide) ?_
              refine xmuW (va_runV (As := [.int (-3)]) (rest := []) hF (c_X3_refused l D cI cS ad fa n fo ki st we lo ra rch q0 q1 q2 q3 fk fc rd rc rv sh sle sla bg hd tr (-3) hnd) (cwV 1 hts gX3_day_X3_refused rfl rfl rfl hV_X3_refused ⟨Nat.le_of_ble_eq_true rfl, Nat.le_of_ble_eq_true rfl⟩) (PR.preV hG hP (ci := 3) rfl rfl) rfl rfl hl.1 rfl (lv_room (Nat.le_of_ble_eq_true rfl)) dX3_day_83 ⟨Nat.le_refl _, Nat.le_refl _⟩) hD hS rfl (fun _ => rfl) (fun r_83 u_83 H locs q_83 hP hD hS => ?_)
              try dsimp only at q_83 hP hD
              have e_83 := q_83
              subst e_83
              have hP : va_P D vwCl (wM cI ad 0 n fo ki st we lo ra rch q0 q1 q2 q3 fk fc rd rc rv sh sle sla bg hd tr) H := hP
              have hD : va_D (AW (adM ad)) (wM cI ad 0 n fo ki st we lo ra rch q0 q1 q2 q3 fk fc rd rc rv sh sle sla bg hd tr) := hD
              exact xretM hx hb hr hlk dX3_day_86 hS ⟨fk, fc⟩ (by simp [A_day, c_4, hclj, c_22, hclw, c_35, hclcc, c_48, c_63, hwh, c_77, hn0]) (fun t ht => by rw [ht]; rw [show S_day sh sla sle n (nI j) (nI w) i (nI cc) what = 0 from by simp [S_day, c_4, hclj, c_22, hclw, c_35, hclcc, c_48, c_63, hwh, c_77, hn0]]; exact hP)
          ·
            replace c_63 := bI_0.mp c_63
            refine lv_aload_n hx hb dX3_day_66 rfl (lv_at hl 0 rfl) ?_
            refine lv_bipush (v := (-2)) hx hb dX3_day_67 (by decide) ?_
            refine xmuW (va_runV (As := [.int (-2)]) (rest := []) hF (c_X3_refused l D cI cS ad fa n fo ki st we lo ra rch q0 q1 q2 q3 fk fc rd rc rv sh sle sla bg hd tr (-2) hnd) (cwV 1 hts gX3_day_X3_refused rfl rfl rfl hV_X3_refused ⟨Nat.le_of_ble_eq_true rfl, Nat.le_of_ble_eq_true rfl⟩) (PR.preV hG hP (ci := 3) rfl rfl) rfl rfl hl.1 rfl (lv_room (Nat.le_of_ble_eq_true rfl)) dX3_day_69 ⟨Nat.le_refl _, Nat.le_refl _⟩) hD hS rfl (fun _ => rfl) (fun r_69 u_69 H locs q_69 hP hD hS => ?_)
            try dsimp only at q_69 hP hD
            have e_69 := q_69
            subst e_69
            have hP : va_P D vwCl (wM cI ad 0 n fo ki st we lo ra rch q0 q1 q2 q3 fk fc rd rc rv sh sle sla bg hd tr) H := hP
            have hD : va_D (AW (adM ad)) (wM cI ad 0 n fo ki st we lo ra rch q0 q1 q2 q3 fk fc rd rc rv sh sle sla bg hd tr) := hD
            exact xretM hx hb hr hlk dX3_day_72 hS ⟨fk, fc⟩ (by simp [A_day, c_4, hclj, c_22, hclw, c_35, hclcc, c_48, c_63]) (fun t ht => by rw [ht]; rw [show S_day sh sla sle n (nI j) (nI w) i (nI cc) what = 0 from by simp [S_day, c_4, hclj, c_22, hclw, c_35, hclcc, c_48, c_63]]; exact hP)
  ·
    replace c_4 := bI_n0.mp c_4
    replace c_4 := (by simpa using c_4 : (rgB 0 3 k) = false)
    refine lv_aload_n hx hb dX3_day_7 rfl (lv_at hl 0 rfl) ?_
    refine lv_iconst (v := (-1)) hx hb dX3_day_8 (by decide) ?_
    refine xmuW (va_runV (As := [.int (-1)]) (rest := []) hF (c_X3_refused l D cI cS ad fa n fo ki st we lo ra rch q0 q1 q2 q3 fk fc rd rc rv sh sle sla bg hd tr (-1) hnd) (cwV 1 hts gX3_day_X3_refused rfl rfl rfl hV_X3_refused ⟨Nat.le_of_ble_eq_true rfl, Nat.le_of_ble_eq_true rfl⟩) (PR.preV hG hP (ci := 3) rfl rfl) rfl rfl hl.1 rfl (lv_room (Nat.le_of_ble_eq_true rfl)) dX3_day_9 ⟨Nat.le_refl _, Nat.le_refl _⟩) hD hS rfl (fun _ => rfl) (fun r_9 u_9 H locs q_9 hP hD hS => ?_)
    try dsimp only at q_9 hP hD
    have e_9 := q_9
    subst e_9
    have hP : va_P D vwCl (wM cI ad 0 n fo ki st we lo ra rch q0 q1 q2 q3 fk fc rd rc rv sh sle sla bg hd tr) H := hP
    have hD : va_D (AW (adM ad)) (wM cI ad 0 n fo ki st we lo ra rch q0 q1 q2 q3 fk fc rd rc rv sh sle sla bg hd tr) := hD
    exact xretM hx hb hr hlk dX3_day_12 hS ⟨fk, fc⟩ (by simp [A_day, c_4]) (fun t ht => by rw [ht]; rw [show S_day sh sla sle n k la i ct what = 0 from by simp [S_day, c_4]]; exact hP)

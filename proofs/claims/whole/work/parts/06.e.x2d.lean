theorem hV_X0_acted : yX0_acted.cls = RX0 ∧ yX0_acted.cls ≠ "java/lang/invoke/MethodHandle" ∧ yX0_acted.cls ≠ "java/lang/invoke/VarHandle" ∧ (parseMethodDescriptor yX0_acted.desc).map (fun d => d.parameters.length) = some 2 := by decide +kernel
theorem hV_X2_answerOfDay : yX2_answerOfDay.cls = RX2 ∧ yX2_answerOfDay.cls ≠ "java/lang/invoke/MethodHandle" ∧ yX2_answerOfDay.cls ≠ "java/lang/invoke/VarHandle" ∧ (parseMethodDescriptor yX2_answerOfDay.desc).map (fun d => d.parameters.length) = some 4 := by decide +kernel
theorem hD_X2_firstFaultOfText : yX2_firstFaultOfText.cls ≠ "java/lang/invoke/MethodHandle" ∧ yX2_firstFaultOfText.cls ≠ "java/lang/invoke/VarHandle" ∧ (parseMethodDescriptor yX2_firstFaultOfText.desc).map (fun d => d.parameters.length) = some 3 := by decide +kernel
theorem hD_X2_goesOn : yX2_goesOn.cls ≠ "java/lang/invoke/MethodHandle" ∧ yX2_goesOn.cls ≠ "java/lang/invoke/VarHandle" ∧ (parseMethodDescriptor yX2_goesOn.desc).map (fun d => d.parameters.length) = some 2 := by decide +kernel
theorem hD_X2_isAskedOfDay : yX2_isAskedOfDay.cls ≠ "java/lang/invoke/MethodHandle" ∧ yX2_isAskedOfDay.cls ≠ "java/lang/invoke/VarHandle" ∧ (parseMethodDescriptor yX2_isAskedOfDay.desc).map (fun d => d.parameters.length) = some 1 := by decide +kernel
theorem hD_X2_kindOf : yX2_kindOf.cls ≠ "java/lang/invoke/MethodHandle" ∧ yX2_kindOf.cls ≠ "java/lang/invoke/VarHandle" ∧ (parseMethodDescriptor yX2_kindOf.desc).map (fun d => d.parameters.length) = some 1 := by decide +kernel
theorem hV_X2_refusalOfPair : yX2_refusalOfPair.cls = RX2 ∧ yX2_refusalOfPair.cls ≠ "java/lang/invoke/MethodHandle" ∧ yX2_refusalOfPair.cls ≠ "java/lang/invoke/VarHandle" ∧ (parseMethodDescriptor yX2_refusalOfPair.desc).map (fun d => d.parameters.length) = some 2 := by decide +kernel
theorem hV_X2_refusalOfPairs : yX2_refusalOfPairs.cls = RX2 ∧ yX2_refusalOfPairs.cls ≠ "java/lang/invoke/MethodHandle" ∧ yX2_refusalOfPairs.cls ≠ "java/lang/invoke/VarHandle" ∧ (parseMethodDescriptor yX2_refusalOfPairs.desc).map (fun d => d.parameters.length) = some 3 := by decide +kernel
theorem hV_X2_takeText : yX2_takeText.cls = RX2 ∧ yX2_takeText.cls ≠ "java/lang/invoke/MethodHandle" ∧ yX2_takeText.cls ≠ "java/lang/invoke/VarHandle" ∧ (parseMethodDescriptor yX2_takeText.desc).map (fun d => d.parameters.length) = some 3 := by decide +kernel
set_option maxHeartbeats 4000000 in
set_option maxRecDepth 100000 in
theorem c_X2_copy (l : Launch) (D : va_G) (cI cS : ClassId) (ad : Nat → Nat) (sh : Nat → Bool) (sla : Nat → Nat) (sle : Nat → Nat) (sf : Nat → Nat → Int32) (n : Nat) (fo : Nat) (ki : Nat → Nat) (st : Nat → Nat) (we : Nat → Nat) (lo : Nat → Nat) (n2 : Nat) (go : Nat) (kj : Nat → Nat) (sj : Nat → Nat) (wj : Nat → Nat) (lj : Nat → Nat) (ti : Nat → Int32) (rc : Nat → Nat) (rv : Nat → Nat) (rd : Nat) (tr : Int32) (fa : Nat) (k : Int32) (i : Int32) (k2 : Int32) (i2 : Int32) (ct : Int32) (hnd : nd (adX ad)) (hsla : ∀ j, sla j ≤ 2) (hsle : ∀ j, sle j ≤ 60) : Met l yX2_copy wsX2_copy ({ frames := 1, cells := 0, slots := 0, locals := 40 }) (PR D cI cS [.ref (ad 0), .int k, .int i, .int k2, .int i2, .int ct] (wX cI cS ad sh sla sle sf n fo ki st we lo n2 go kj sj wj lj ti rc rv rd tr fa)) (va_Qi (fun r (zz : Unit) => r = A_copy sh sla sle k i k2 i2 ct) (fun (zz : Unit) t => va_P D vwCl (wX cI cS ad sh sla sle (ifU (okCopy sh sla sle k i k2 i2 ct) sf k2.toNatClampNeg (va_cpy (sf k.toNatClampNeg) (sf k2.toNatClampNeg) i.toNatClampNeg i2.toNatClampNeg ct.toNatClampNeg)) n fo ki st we lo n2 go kj sj wj lj ti rc rv rd tr (S_copy sh sla sle k i k2 i2 ct)) t.heap) (AW (adX ad))) 0 0 (AW (adX ad)) := by
  refine startM (by decide) rfl (Nat.le_of_ble_eq_true rfl) hnd rfl ?_
  intro p e s m below meth c hx hb hr hts hown hlk hml hG hP hD hS ls hl
  have hl : lv_has ls 8 [(0, .ref (ad 0)), (1, .int k), (2, .int i), (3, .int k2), (4, .int i2), (5, .int ct)] := hl
  have f44 := hts (.fieldLink RX2 44 "ChairBallot" "latestFault" "I") (by decide +kernel)
  have f233 := hts (.fieldLink RX2 233 "ChairBallot$Sheet" "hasRow" "Z") (by decide +kernel)
  have f240 := hts (.fieldLink RX2 240 "ChairBallot$Sheet" "lane" "I") (by decide +kernel)
  have f243 := hts (.fieldLink RX2 243 "ChairBallot$Sheet" "cells" "[I") (by decide +kernel)
  have yX1 : ∀ w ∈ u_ws RX1 TX1 4, w.before _ s = true := fun w h => hts w ((by decide +kernel : ∀ w ∈ wsX10, w ∈ wsX2_copy) w h)
  have yX2 : ∀ w ∈ u_ws RX2 TX2 9, w.before _ s = true := fun w h => hts w ((by decide +kernel : ∀ w ∈ wsX20, w ∈ wsX2_copy) w h)
  have hF : CallFix p m c cX2_copy 8 s _ wsX2_copy RX2 := ⟨hx, hb, hml, hown, hts⟩
  refine lv_aload_n hx hb dX2_copy_0 rfl (lv_at hl 0 rfl) ?_
  refine lv_iconst (v := nI 0) hx hb dX2_copy_1 (by decide) ?_
  refine va_put (D := D) (ci := 2) (v := .int (nI 0)) (ty := .int) (C := RX2) (T := TX2) (N := 9) hx hb yX2 (fun _ h => h) tyX2 tyX2_ok nmX2 hown hG.1 hP hD hS 0 rfl rfl 8 (by decide) f44 (fun _ h => h) rfl (by decide +kernel) rfl rfl (Nat.le_of_ble_eq_true rfl) dX2_copy_2 (fun H locs hP hD hS => ?_)
  have hP : va_P D vwCl (wX cI cS ad sh sla sle sf n fo ki st we lo n2 go kj sj wj lj ti rc rv rd tr 0) H := hP
  have hD : va_D (AW (adX ad)) (wX cI cS ad sh sla sle sf n fo ki st we lo n2 go kj sj wj lj ti rc rv rd tr 0) := hD
  refine lv_aload_n hx hb dX2_copy_5 rfl (lv_at hl 0 rfl) ?_
  refine lv_iload_n hx hb dX2_copy_6 rfl (lv_at hl 1 rfl) ?_
  rcases b_tf (rgB 0 3 k) with hkk | hkk
  ·
    refine xrda (va_runV (As := [.int k]) (rest := []) hF (c_X2_sheetAtN l D cI cS ad sh sla sle sf n fo ki st we lo n2 go kj sj wj lj ti rc rv rd tr 0 k (by first | assumption | omega)) (cwV 1 hts gX2_copy_X2_sheetAt rfl rfl rfl hV_X2_sheetAt ⟨Nat.le_of_ble_eq_true rfl, Nat.le_of_ble_eq_true rfl⟩) (PR.preV hG hP (ci := 2) rfl rfl) rfl rfl hl.1 rfl (lv_room (Nat.le_of_ble_eq_true rfl)) dX2_copy_7 ⟨Nat.le_refl _, Nat.le_refl _⟩) ?_
    refine lv_astoreN (lv' := [(6, .null), (0, .ref (ad 0)), (1, .int k), (2, .int i), (3, .int k2), (4, .int i2), (5, .int ct)]) hx hb dX2_copy_10 hl (by decide) rfl (fun ls hl => ?_)
    refine lv_aload_n hx hb dX2_copy_12 rfl (lv_at hl 1 rfl) ?_
    refine lv_iload_n hx hb dX2_copy_13 rfl (lv_at hl 4 rfl) ?_
    rcases b_tf (rgB 0 3 k2) with hkk2 | hkk2
    ·
      refine xrda (va_runV (As := [.int k2]) (rest := []) hF (c_X2_sheetAtN l D cI cS ad sh sla sle sf n fo ki st we lo n2 go kj sj wj lj ti rc rv rd tr 0 k2 (by first | assumption | omega)) (cwV 1 hts gX2_copy_X2_sheetAt rfl rfl rfl hV_X2_sheetAt ⟨Nat.le_of_ble_eq_true rfl, Nat.le_of_ble_eq_true rfl⟩) (PR.preV hG hP (ci := 2) rfl rfl) rfl rfl hl.1 rfl (lv_room (Nat.le_of_ble_eq_true rfl)) dX2_copy_14 ⟨Nat.le_refl _, Nat.le_refl _⟩) ?_
      refine lv_astoreN (lv' := [(7, .null), (6, .null), (0, .ref (ad 0)), (1, .int k), (2, .int i), (3, .int k2), (4, .int i2), (5, .int ct)]) hx hb dX2_copy_17 hl (by decide) rfl (fun ls hl => ?_)
      refine lv_aloadN hx hb dX2_copy_19 (lv_at hl 1 rfl) ?_
      refine lv_ifnullN (tgt := 29) hx hb dX2_copy_21 (by decide) ?_
      refine lv_iconst (v := (-1)) hx hb dX2_copy_29 (by decide) ?_
      exact xretM hx hb hr hlk dX2_copy_30 hS () (by simp [A_copy, hkk, hkk2]) (fun t ht => by rw [ht]; rw [show S_copy sh sla sle k i k2 i2 ct = 0 from by simp [S_copy, hkk, hkk2]]; rw [show ifU (okCopy sh sla sle k i k2 i2 ct) sf k2.toNatClampNeg (va_cpy (sf k.toNatClampNeg) (sf k2.toNatClampNeg) i.toNatClampNeg i2.toNatClampNeg ct.toNatClampNeg) = sf from by simp [okCopy, ifU, hkk, hkk2]]; exact hP)
    ·
      obtain ⟨j2, hj20, hj23, rfl⟩ := rgB_nat (by decide) hkk2
      have hclj2 := cl8 (j := j2) (by omega)
      have hsj2 := hsle j2
      have hsaj2 := hsla j2
      refine xrda (va_runV (As := [.int (nI j2)]) (rest := []) hF (c_X2_sheetAt l D cI cS ad sh sla sle sf n fo ki st we lo n2 go kj sj wj lj ti rc rv rd tr 0 j2 (by first | assumption | omega)) (cwV 1 hts gX2_copy_X2_sheetAt rfl rfl rfl hV_X2_sheetAt ⟨Nat.le_of_ble_eq_true rfl, Nat.le_of_ble_eq_true rfl⟩) (PR.preV hG hP (ci := 2) rfl rfl) rfl rfl hl.1 rfl (lv_room (Nat.le_of_ble_eq_true rfl)) dX2_copy_14 ⟨Nat.le_refl _, Nat.le_refl _⟩) ?_
      refine lv_astore (lv' := [(7, .ref (ad (2 + 2 * j2))), (6, .null), (0, .ref (ad 0)), (1, .int k), (2, .int i), (3, .int (nI j2)), (4, .int i2), (5, .int ct)]) hx hb dX2_copy_17 hl (by decide) rfl (fun ls hl => ?_)
      refine lv_aloadN hx hb dX2_copy_19 (lv_at hl 1 rfl) ?_
      refine lv_ifnullN (tgt := 29) hx hb dX2_copy_21 (by decide) ?_
      refine lv_iconst (v := (-1)) hx hb dX2_copy_29 (by decide) ?_
      exact xretM hx hb hr hlk dX2_copy_30 hS () (by simp [A_copy, hkk, hkk2, hclj2]) (fun t ht => by rw [ht]; rw [show S_copy sh sla sle k i (nI j2) i2 ct = 0 from by simp [S_copy, hkk, hkk2, hclj2]]; rw [show ifU (okCopy sh sla sle k i (nI j2) i2 ct) sf (nI j2).toNatClampNeg (va_cpy (sf k.toNatClampNeg) (sf (nI j2).toNatClampNeg) i.toNatClampNeg i2.toNatClampNeg ct.toNatClampNeg) = sf from by simp [okCopy, ifU, hkk, hkk2, hclj2]]; exact hP)
  ·
    obtain ⟨j, hj0, hj3, rfl⟩ := rgB_nat (by decide) hkk
    have hclj := cl8 (j := j) (by omega)
    have hsj := hsle j
    have hsaj := hsla j
    refine xrda (va_runV (As := [.int (nI j)]) (rest := []) hF (c_X2_sheetAt l D cI cS ad sh sla sle sf n fo ki st we lo n2 go kj sj wj lj ti rc rv rd tr 0 j (by first | assumption | omega)) (cwV 1 hts gX2_copy_X2_sheetAt rfl rfl rfl hV_X2_sheetAt ⟨Nat.le_of_ble_eq_true rfl, Nat.le_of_ble_eq_true rfl⟩) (PR.preV hG hP (ci := 2) rfl rfl) rfl rfl hl.1 rfl (lv_room (Nat.le_of_ble_eq_true rfl)) dX2_copy_7 ⟨Nat.le_refl _, Nat.le_refl _⟩) ?_
    refine lv_astore (lv' := [(6, .ref (ad (2 + 2 * j))), (0, .ref (ad 0)), (1, .int (nI j)), (2, .int i), (3, .int k2), (4, .int i2), (5, .int ct)]) hx hb dX2_copy_10 hl (by decide) rfl (fun ls hl => ?_)
    refine lv_aload_n hx hb dX2_copy_12 rfl (lv_at hl 1 rfl) ?_
    refine lv_iload_n hx hb dX2_copy_13 rfl (lv_at hl 4 rfl) ?_
    rcases b_tf (rgB 0 3 k2) with hkk2 | hkk2
    ·
      refine xrda (va_runV (As := [.int k2]) (rest := []) hF (c_X2_sheetAtN l D cI cS ad sh sla sle sf n fo ki st we lo n2 go kj sj wj lj ti rc rv rd tr 0 k2 (by first | assumption | omega)) (cwV 1 hts gX2_copy_X2_sheetAt rfl rfl rfl hV_X2_sheetAt ⟨Nat.le_of_ble_eq_true rfl, Nat.le_of_ble_eq_true rfl⟩) (PR.preV hG hP (ci := 2) rfl rfl) rfl rfl hl.1 rfl (lv_room (Nat.le_of_ble_eq_true rfl)) dX2_copy_14 ⟨Nat.le_refl _, Nat.le_refl _⟩) ?_
      refine lv_astoreN (lv' := [(7, .null), (6, .ref (ad (2 + 2 * j))), (0, .ref (ad 0)), (1, .int (nI j)), (2, .int i), (3, .int k2), (4, .int i2), (5, .int ct)]) hx hb dX2_copy_17 hl (by decide) rfl (fun ls hl => ?_)
      refine lv_aload hx hb dX2_copy_19 (lv_at hl 1 rfl) ?_
      refine lv_ifnull hx hb dX2_copy_21 ?_
      refine lv_aloadN hx hb dX2_copy_24 (lv_at hl 0 rfl) ?_
      refine lv_ifnonnullN hx hb dX2_copy_26 ?_
      refine lv_iconst (v := (-1)) hx hb dX2_copy_29 (by decide) ?_
      exact xretM hx hb hr hlk dX2_copy_30 hS () (by simp [A_copy, hkk, hclj, hkk2]) (fun t ht => by rw [ht]; rw [show S_copy sh sla sle (nI j) i k2 i2 ct = 0 from by simp [S_copy, hkk, hclj, hkk2]]; rw [show ifU (okCopy sh sla sle (nI j) i k2 i2 ct) sf k2.toNatClampNeg (va_cpy (sf (nI j).toNatClampNeg) (sf k2.toNatClampNeg) i.toNatClampNeg i2.toNatClampNeg ct.toNatClampNeg) = sf from by simp [okCopy, ifU, hkk, hclj, hkk2]]; exact hP)
    ·
      obtain ⟨j2, hj20, hj23, rfl⟩ := rgB_nat (by decide) hkk2
      have hclj2 := cl8 (j := j2) (by omega)
      have hsj2 := hsle j2
      have hsaj2 := hsla j2
      refine xrda (va_runV (As := [.int (nI j2)]) (rest := []) hF (c_X2_sheetAt l D cI cS ad sh sla sle sf n fo ki st we lo n2 go kj sj wj lj ti rc rv rd tr 0 j2 (by first | assumption | omega)) (cwV 1 hts gX2_copy_X2_sheetAt rfl rfl rfl hV_X2_sheetAt ⟨Nat.le_of_ble_eq_true rfl, Nat.le_of_ble_eq_true rfl⟩) (PR.preV hG hP (ci := 2) rfl rfl) rfl rfl hl.1 rfl (lv_room (Nat.le_of_ble_eq_true rfl)) dX2_copy_14 ⟨Nat.le_refl _, Nat.le_refl _⟩) ?_
      refine lv_astore (lv' := [(7, .ref (ad (2 + 2 * j2))), (6, .ref (ad (2 + 2 * j))), (0, .ref (ad 0)), (1, .int (nI j)), (2, .int i), (3, .int (nI j2)), (4, .int i2), (5, .int ct)]) hx hb dX2_copy_17 hl (by decide) rfl (fun ls hl => ?_)
      refine lv_aload hx hb dX2_copy_19 (lv_at hl 1 rfl) ?_
      refine lv_ifnull hx hb dX2_copy_21 ?_
      refine lv_aload hx hb dX2_copy_24 (lv_at hl 0 rfl) ?_
      refine lv_ifnonnull (tgt := 31) hx hb dX2_copy_26 (by decide) ?_
      refine lv_aload hx hb dX2_copy_31 (lv_at hl 1 rfl) ?_
      refine va_get (D := D) (ci := 1) (v := .int (bI (sh j))) (C := RX1) (T := TX1) (N := 4) hx hb yX1 (fun _ h => h) hown hG.1 hP (2 + 2 * j) (wX_so (j := j) (by omega)) rfl 1 (by decide) f233 (fun _ h => h) rfl dX2_copy_33 ?_
      refine lv_if_eq (tgt := 47) hx hb dX2_copy_36 (by decide) (fun c_36 => ?_) (fun c_36 => ?_)
      ·
        replace c_36 := bI_0.mp c_36
        refine lv_aload_n hx hb dX2_copy_47 rfl (lv_at hl 2 rfl) ?_
        refine lv_iconst (v := nI 1) hx hb dX2_copy_48 (by decide) ?_
        refine xmuW (va_runV (As := [.int (nI 1)]) (rest := []) hF (c_X2_faulted l D cI cS ad sh sla sle sf n fo ki st we lo n2 go kj sj wj lj ti rc rv rd tr 0 1 hnd) (cwV 1 hts gX2_copy_X2_faulted rfl rfl rfl hV_X2_faulted ⟨Nat.le_of_ble_eq_true rfl, Nat.le_of_ble_eq_true rfl⟩) (PR.preV hG hP (ci := 2) rfl rfl) rfl rfl hl.1 rfl (lv_room (Nat.le_of_ble_eq_true rfl)) dX2_copy_49 ⟨Nat.le_refl _, Nat.le_refl _⟩) hD hS rfl (fun _ => rfl) (fun r_49 u_49 H locs q_49 hP hD hS => ?_)
        try dsimp only at q_49 hP hD
        have e_49 := q_49
        subst e_49
        have hP : va_P D vwCl (wX cI cS ad sh sla sle sf n fo ki st we lo n2 go kj sj wj lj ti rc rv rd tr 1) H := hP
        have hD : va_D (AW (adX ad)) (wX cI cS ad sh sla sle sf n fo ki st we lo n2 go kj sj wj lj ti rc rv rd tr 1) := hD
        exact xretM hx hb hr hlk dX2_copy_52 hS () (by simp [A_copy, hkk, hclj, hkk2, hclj2, c_36]) (fun t ht => by rw [ht]; rw [show S_copy sh sla sle (nI j) i (nI j2) i2 ct = 1 from by simp [S_copy, hkk, hclj, hkk2, hclj2, c_36]]; rw [show ifU (okCopy sh sla sle (nI j) i (nI j2) i2 ct) sf (nI j2).toNatClampNeg (va_cpy (sf (nI j).toNatClampNeg) (sf (nI j2).toNatClampNeg) i.toNatClampNeg i2.toNatClampNeg ct.toNatClampNeg) = sf from by simp [okCopy, ifU, hkk, hclj, hkk2, hclj2, c_36]]; exact hP)
      ·
        replace c_36 := bI_n0.mp c_36
        refine lv_aload hx hb dX2_copy_39 (lv_at hl 0 rfl) ?_
        refine va_get (D := D) (ci := 1) (v := .int (bI (sh j2))) (C := RX1) (T := TX1) (N := 4) hx hb yX1 (fun _ h => h) hown hG.1 hP (2 + 2 * j2) (wX_so (j := j2) (by omega)) rfl 1 (by decide) f233 (fun _ h => h) rfl dX2_copy_41 ?_
        refine lv_if_ne (tgt := 53) hx hb dX2_copy_44 (by decide) (fun c_44 => ?_) (fun c_44 => ?_)
        ·
          replace c_44 := bI_n0.mp c_44
          refine lv_aload hx hb dX2_copy_53 (lv_at hl 1 rfl) ?_
          refine va_get (D := D) (ci := 1) (v := .int (nI (sla j))) (C := RX1) (T := TX1) (N := 4) hx hb yX1 (fun _ h => h) hown hG.1 hP (2 + 2 * j) (wX_so (j := j) (by omega)) rfl 2 (by decide) f240 (fun _ h => h) rfl dX2_copy_55 ?_
          refine lv_aload hx hb dX2_copy_58 (lv_at hl 0 rfl) ?_
          refine va_get (D := D) (ci := 1) (v := .int (nI (sla j2))) (C := RX1) (T := TX1) (N := 4) hx hb yX1 (fun _ h => h) hown hG.1 hP (2 + 2 * j2) (wX_so (j := j2) (by omega)) rfl 2 (by decide) f240 (fun _ h => h) rfl dX2_copy_60 ?_
          refine lv_icmp_eq (tgt := 72) hx hb dX2_copy_63 (by decide) (fun c_63 => ?_) (fun c_63 => ?_)
          ·
            replace c_63 := (nI_eq (a := sla j) (b := sla j2) (by omega) (by omega)).mp c_63
            refine lv_aload hx hb dX2_copy_72 (lv_at hl 1 rfl) ?_
            refine lv_iload_n hx hb dX2_copy_74 rfl (lv_at hl 4 rfl) ?_
            refine lv_iload hx hb dX2_copy_75 (lv_at hl 7 rfl) ?_
            refine xrd (va_runV (As := [.int i, .int ct]) (rest := []) hF (c_X1_holds l D cI cS (ad (2 + 2 * j)) (ad (3 + 2 * j)) (sh j) (sla j) (sle j) (sf j) i ct (by first | assumption | omega)) (cwV 2 hts gX2_copy_X1_holds rfl rfl rfl hV_X1_holds ⟨Nat.le_of_ble_eq_true rfl, Nat.le_of_ble_eq_true rfl⟩) (PR.preV hG (hP.sub (ws' := (wSheet cI (ad (2 + 2 * j)) (ad (3 + 2 * j)) (sh j) (sla j) (sle j) (sf j))) [2 + 2 * j, 3 + 2 * j] (wX_sub (j := j) (by omega))) (ci := 1) rfl rfl) rfl rfl hl.1 rfl (lv_room (Nat.le_of_ble_eq_true rfl)) dX2_copy_77 ⟨Nat.le_refl _, Nat.le_refl _⟩) ?_
            refine lv_if_eq (tgt := 95) hx hb dX2_copy_80 (by decide) (fun c_80 => ?_) (fun c_80 => ?_)
            ·
              replace c_80 := bI_0.mp c_80
              refine lv_aload_n hx hb dX2_copy_95 rfl (lv_at hl 2 rfl) ?_
              refine lv_iconst (v := nI 3) hx hb dX2_copy_96 (by decide) ?_
              refine xmuW (va_runV (As := [.int (nI 3)]) (rest := []) hF (c_X2_faulted l D cI cS ad sh sla sle sf n fo ki st we lo n2 go kj sj wj lj ti rc rv rd tr 0 3 hnd) (cwV 1 hts gX2_copy_X2_faulted rfl rfl rfl hV_X2_faulted ⟨Nat.le_of_ble_eq_true rfl, Nat.le_of_ble_eq_true rfl⟩) (PR.preV hG hP (ci := 2) rfl rfl) rfl rfl hl.1 rfl (lv_room (Nat.le_of_ble_eq_true rfl)) dX2_copy_97 ⟨Nat.le_refl _, Nat.le_refl _⟩) hD hS rfl (fun _ => rfl) (fun r_97 u_97 H locs q_97 hP hD hS => ?_)
              try dsimp only at q_97 hP hD
              have e_97 := q_97
              subst e_97
              have hP : va_P D vwCl (wX cI cS ad sh sla sle sf n fo ki st we lo n2 go kj sj wj lj ti rc rv rd tr 3) H := hP
              have hD : va_D (AW (adX ad)) (wX cI cS ad sh sla sle sf n fo ki st we lo n2 go kj sj wj lj ti rc rv rd tr 3) := hD
              exact xretM hx hb hr hlk dX2_copy_100 hS () (by simp [A_copy, hkk, hclj, hkk2, hclj2, c_36, c_44, c_63, c_80]) (fun t ht => by rw [ht]; rw [show S_copy sh sla sle (nI j) i (nI j2) i2 ct = 3 from by simp [S_copy, hkk, hclj, hkk2, hclj2, c_36, c_44, c_63, c_80]]; rw [show ifU (okCopy sh sla sle (nI j) i (nI j2) i2 ct) sf (nI j2).toNatClampNeg (va_cpy (sf (nI j).toNatClampNeg) (sf (nI j2).toNatClampNeg) i.toNatClampNeg i2.toNatClampNeg ct.toNatClampNeg) = sf from by simp [okCopy, ifU, hkk, hclj, hkk2, hclj2, c_36, c_44, c_63, c_80]]; exact hP)
            ·
              replace c_80 := bI_n0.mp c_80
              obtain ⟨u, cc, hu, rfl, rfl⟩ := hldB_nat c_80
              have hclu := cl8 (j := u) (by omega)
              have hclc := cl8 (j := cc) (by omega)
              refine lv_aload hx hb dX2_copy_83 (lv_at hl 0 rfl) ?_
              refine lv_iload hx hb dX2_copy_85 (lv_at hl 6 rfl) ?_
              refine lv_iload hx hb dX2_copy_87 (lv_at hl 7 rfl) ?_
              refine xrd (va_runV (As := [.int i2, .int (nI cc)]) (rest := []) hF (c_X1_holds l D cI cS (ad (2 + 2 * j2)) (ad (3 + 2 * j2)) (sh j2) (sla j2) (sle j2) (sf j2) i2 (nI cc) (by first | assumption | omega)) (cwV 2 hts gX2_copy_X1_holds rfl rfl rfl hV_X1_holds ⟨Nat.le_of_ble_eq_true rfl, Nat.le_of_ble_eq_true rfl⟩) (PR.preV hG (hP.sub (ws' := (wSheet cI (ad (2 + 2 * j2)) (ad (3 + 2 * j2)) (sh j2) (sla j2) (sle j2) (sf j2))) [2 + 2 * j2, 3 + 2 * j2] (wX_sub (j := j2) (by omega))) (ci := 1) rfl rfl) rfl rfl hl.1 rfl (lv_room (Nat.le_of_ble_eq_true rfl)) dX2_copy_89 ⟨Nat.le_refl _, Nat.le_refl _⟩) ?_
              refine lv_if_ne (tgt := 101) hx hb dX2_copy_92 (by decide) (fun c_92 => ?_) (fun c_92 => ?_)
              ·
                replace c_92 := bI_n0.mp c_92
                obtain ⟨u2, hu2, rfl⟩ := hldB_nat2 (by omega) c_92
                have hclu2 := cl8 (j := u2) (by omega)
                refine lv_aload hx hb dX2_copy_101 (lv_at hl 1 rfl) ?_
                refine va_get (D := D) (ci := 1) (v := .ref (ad (3 + 2 * j))) (C := RX1) (T := TX1) (N := 4) hx hb yX1 (fun _ h => h) hown hG.1 hP (2 + 2 * j) (wX_so (j := j) (by omega)) rfl 0 (by decide) f243 (fun _ h => h) rfl dX2_copy_103 ?_
                refine lv_iload_n hx hb dX2_copy_106 rfl (lv_at hl 4 rfl) ?_
                refine lv_aload hx hb dX2_copy_107 (lv_at hl 0 rfl) ?_
                refine va_get (D := D) (ci := 1) (v := .ref (ad (3 + 2 * j2))) (C := RX1) (T := TX1) (N := 4) hx hb yX1 (fun _ h => h) hown hG.1 hP (2 + 2 * j2) (wX_so (j := j2) (by omega)) rfl 0 (by decide) f243 (fun _ h => h) rfl dX2_copy_109 ?_
                refine lv_iload hx hb dX2_copy_112 (lv_at hl 6 rfl) ?_
                refine lv_iload hx hb dX2_copy_114 (lv_at hl 7 rfl) ?_
                refine xcopy hx hb (by rw [hml, hl.1]) hown (hts (.methodLink RX2 246 arraycopyName) (by decide +kernel)) (hts (.native arraycopyName) (by decide +kernel)) (hts (.static arraycopyName) (by decide +kernel)) (hts (.initialized "java/lang/System") (by decide +kernel)) hG hP hD hS (3 + 2 * j) (3 + 2 * j2) (wX_sc (j := j) (by omega)) (wX_sc (j := j2) (by omega)) (u) (u2) (cc) rfl rfl rfl (by omega) (by omega) (by omega) (by omega) (Nat.le_of_ble_eq_true rfl) (Nat.le_of_ble_eq_true rfl) dX2_copy_116 (fun H locs hP hD hS => ?_)
                have hP := (wX_setC (j := j2) (by omega)) ▸ hP
                have hD := (wX_setC (j := j2) (by omega)) ▸ hD
                have hP : va_P D vwCl (wX cI cS ad sh sla sle (va_up sf j2 (va_cpy (sf j) (sf j2) u u2 cc)) n fo ki st we lo n2 go kj sj wj lj ti rc rv rd tr 0) H := hP
                have hD : va_D (AW (adX ad)) (wX cI cS ad sh sla sle (va_up sf j2 (va_cpy (sf j) (sf j2) u u2 cc)) n fo ki st we lo n2 go kj sj wj lj ti rc rv rd tr 0) := hD
                refine lv_iload hx hb dX2_copy_119 (lv_at hl 7 rfl) ?_
                exact xretM hx hb hr hlk dX2_copy_121 hS () (by simp [A_copy, hkk, hclj, hkk2, hclj2, c_36, c_44, c_63, c_80, hclu, hclc, c_92, hclu2]) (fun t ht => by rw [ht]; rw [show S_copy sh sla sle (nI j) (nI u) (nI j2) (nI u2) (nI cc) = 0 from by simp [S_copy, hkk, hclj, hkk2, hclj2, c_36, c_44, c_63, c_80, hclu, hclc, c_92, hclu2]]; rw [show ifU (okCopy sh sla sle (nI j) (nI u) (nI j2) (nI u2) (nI cc)) sf (nI j2).toNatClampNeg (va_cpy (sf (nI j).toNatClampNeg) (sf (nI j2).toNatClampNeg) (nI u).toNatClampNeg (nI u2).toNatClampNeg (nI cc).toNatClampNeg) = (va_up sf j2 (va_cpy (sf j) (sf j2) u u2 cc)) from by simp [okCopy, ifU, hkk, hclj, hkk2, hclj2, c_36, c_44, c_63, c_80, hclu, hclc, c_92, hclu2]]; exact hP)
              ·
                replace c_92 := bI_0.mp c_92
                refine lv_aload_n hx hb dX2_copy_95 rfl (lv_at hl 2 rfl) ?_
                refine lv_iconst (v := nI 3) hx hb dX2_copy_96 (by decide) ?_
                refine xmuW (va_runV (As := [.int (nI 3)]) (rest := []) hF (c_X2_faulted l D cI cS ad sh sla sle sf n fo ki st we lo n2 go kj sj wj lj ti rc rv rd tr 0 3 hnd) (cwV 1 hts gX2_copy_X2_faulted rfl rfl rfl hV_X2_faulted ⟨Nat.le_of_ble_eq_true rfl, Nat.le_of_ble_eq_true rfl⟩) (PR.preV hG hP (ci := 2) rfl rfl) rfl rfl hl.1 rfl (lv_room (Nat.le_of_ble_eq_true rfl)) dX2_copy_97 ⟨Nat.le_refl _, Nat.le_refl _⟩) hD hS rfl (fun _ => rfl) (fun r_97 u_97 H locs q_97 hP hD hS => ?_)
                try dsimp only at q_97 hP hD
                have e_97 := q_97
                subst e_97
                have hP : va_P D vwCl (wX cI cS ad sh sla sle sf n fo ki st we lo n2 go kj sj wj lj ti rc rv rd tr 3) H := hP
                have hD : va_D (AW (adX ad)) (wX cI cS ad sh sla sle sf n fo ki st we lo n2 go kj sj wj lj ti rc rv rd tr 3) := hD
                exact xretM hx hb hr hlk dX2_copy_100 hS () (by simp [A_copy, hkk, hclj, hkk2, hclj2, c_36, c_44, c_63, c_80, hclu, hclc, c_92]) (fun t ht => by rw [ht]; rw [show S_copy sh sla sle (nI j) (nI u) (nI j2) i2 (nI cc) = 3 from by simp [S_copy, hkk, hclj, hkk2, hclj2, c_36, c_44, c_63, c_80, hclu, hclc, c_92]]; rw [show ifU (okCopy sh sla sle (nI j) (nI u) (nI j2) i2 (nI cc)) sf (nI j2).toNatClampNeg (va_cpy (sf (nI j).toNatClampNeg) (sf (nI j2).toNatClampNeg) (nI u).toNatClampNeg i2.toNatClampNeg (nI cc).toNatClampNeg) = sf from by simp [okCopy, ifU, hkk, hclj, hkk2, hclj2, c_36, c_44, c_63, c_80, hclu, hclc, c_92]]; exact hP)
          ·
            replace c_63 := (not_congr (nI_eq (a := sla j) (b := sla j2) (by omega) (by omega))).mp c_63
            refine lv_aload_n hx hb dX2_copy_66 rfl (lv_at hl 2 rfl) ?_
            refine lv_iconst (v := nI 2) hx hb dX2_copy_67 (by decide) ?_
            refine xmuW (va_runV (As := [.int (nI 2)]) (rest := []) hF (c_X2_faulted l D cI cS ad sh sla sle sf n fo ki st we lo n2 go kj sj wj lj ti rc rv rd tr 0 2 hnd) (cwV 1 hts gX2_copy_X2_faulted rfl rfl rfl hV_X2_faulted ⟨Nat.le_of_ble_eq_true rfl, Nat.le_of_ble_eq_true rfl⟩) (PR.preV hG hP (ci := 2) rfl rfl) rfl rfl hl.1 rfl (lv_room (Nat.le_of_ble_eq_true rfl)) dX2_copy_68 ⟨Nat.le_refl _, Nat.le_refl _⟩) hD hS rfl (fun _ => rfl) (fun r_68 u_68 H locs q_68 hP hD hS => ?_)
            try dsimp only at q_68 hP hD
            have e_68 := q_68
            subst e_68
            have hP : va_P D vwCl (wX cI cS ad sh sla sle sf n fo ki st we lo n2 go kj sj wj lj ti rc rv rd tr 2) H := hP
            have hD : va_D (AW (adX ad)) (wX cI cS ad sh sla sle sf n fo ki st we lo n2 go kj sj wj lj ti rc rv rd tr 2) := hD
            exact xretM hx hb hr hlk dX2_copy_71 hS () (by simp [A_copy, hkk, hclj, hkk2, hclj2, c_36, c_44, c_63]) (fun t ht => by rw [ht]; rw [show S_copy sh sla sle (nI j) i (nI j2) i2 ct = 2 from by simp [S_copy, hkk, hclj, hkk2, hclj2, c_36, c_44, c_63]]; rw [show ifU (okCopy sh sla sle (nI j) i (nI j2) i2 ct) sf (nI j2).toNatClampNeg (va_cpy (sf (nI j).toNatClampNeg) (sf (nI j2).toNatClampNeg) i.toNatClampNeg i2.toNatClampNeg ct.toNatClampNeg) = sf from by simp [okCopy, ifU, hkk, hclj, hkk2, hclj2, c_36, c_44, c_63]]; exact hP)
        ·
          replace c_44 := bI_0.mp c_44
          refine lv_aload_n hx hb dX2_copy_47 rfl (lv_at hl 2 rfl) ?_
          refine lv_iconst (v := nI 1) hx hb dX2_copy_48 (by decide) ?_
          refine xmuW (va_runV (As := [.int (nI 1)]) (rest := []) hF (c_X2_faulted l D cI cS ad sh sla sle sf n fo ki st we lo n2 go kj sj wj lj ti rc rv rd tr 0 1 hnd) (cwV 1 hts gX2_copy_X2_faulted rfl rfl rfl hV_X2_faulted ⟨Nat.le_of_ble_eq_true rfl, Nat.le_of_ble_eq_true rfl⟩) (PR.preV hG hP (ci := 2) rfl rfl) rfl rfl hl.1 rfl (lv_room (Nat.le_of_ble_eq_true rfl)) dX2_copy_49 ⟨Nat.le_refl _, Nat.le_refl _⟩) hD hS rfl (fun _ => rfl) (fun r_49 u_49 H locs q_49 hP hD hS => ?_)
          try dsimp only at q_49 hP hD
          have e_49 := q_49
          subst e_49
          have hP : va_P D vwCl (wX cI cS ad sh sla sle sf n fo ki st we lo n2 go kj sj wj lj ti rc rv rd tr 1) H := hP
          have hD : va_D (AW (adX ad)) (wX cI cS ad sh sla sle sf n fo ki st we lo n2 go kj sj wj lj ti rc rv rd tr 1) := hD
          exact xretM hx hb hr hlk dX2_copy_52 hS () (by simp [A_copy, hkk, hclj, hkk2, hclj2, c_36, c_44]) (fun t ht => by rw [ht]; rw [show S_copy sh sla sle (nI j) i (nI j2) i2 ct = 1 from by simp [S_copy, hkk, hclj, hkk2, hclj2, c_36, c_44]]; rw [show ifU (okCopy sh sla sle (nI j) i (nI j2) i2 ct) sf (nI j2).toNatClampNeg (va_cpy (sf (nI j).toNatClampNeg) (sf (nI j2).toNatClampNeg) i.toNatClampNeg i2.toNatClampNeg ct.toNatClampNeg) = sf from by simp [okCopy, ifU, hkk, hclj, hkk2, hclj2, c_36, c_44]]; exact hP)

set_option maxHeartbeats 4000000 in
set_option maxRecDepth 100000 in
theorem c_X2_refusalOfPair (l : Launch) (D : va_G) (cI cS : ClassId) (ad : Nat → Nat) (sh : Nat → Bool) (sla : Nat → Nat) (sle : Nat → Nat) (sf : Nat → Nat → Int32) (n : Nat) (fo : Nat) (ki : Nat → Nat) (st : Nat → Nat) (we : Nat → Nat) (lo : Nat → Nat) (n2 : Nat) (go : Nat) (kj : Nat → Nat) (sj : Nat → Nat) (wj : Nat → Nat) (lj : Nat → Nat) (ti : Nat → Int32) (rc : Nat → Nat) (rv : Nat → Nat) (rd : Nat) (tr : Int32) (fa : Nat) (a : Int32) (b : Int32) (hn : n ≤ 8) : Met l yX2_refusalOfPair wsX2_refusalOfPair ({ frames := 1, cells := 0, slots := 0, locals := 21 }) (PR D cI cS [.ref (ad 0), .int a, .int b] (wX cI cS ad sh sla sle sf n fo ki st we lo n2 go kj sj wj lj ti rc rv rd tr fa)) (vp_Si (fun r => r = refP n a b)) 0 0 (fun _ => False) := by
  refine startR (by decide) rfl (Nat.le_of_ble_eq_true rfl) ?_
  intro p e s m below meth c hx hb hr hts hown hlk hml hG hP ls hl
  have hl : lv_has ls 3 [(0, .ref (ad 0)), (1, .int a), (2, .int b)] := hl
  have f20 := hts (.fieldLink RX2 20 "ChairBallot" "now" "LChairBallot$Row;") (by decide +kernel)
  have yX2 : ∀ w ∈ u_ws RX2 TX2 9, w.before _ s = true := fun w h => hts w ((by decide +kernel : ∀ w ∈ wsX20, w ∈ wsX2_refusalOfPair) w h)
  have hF : CallFix p m c cX2_refusalOfPair 3 s _ wsX2_refusalOfPair RX2 := ⟨hx, hb, hml, hown, hts⟩
  refine lv_iload_n hx hb dX2_refusalOfPair_0 rfl (lv_at hl 2 rfl) ?_
  refine lv_if_lt (tgt := 10) hx hb dX2_refusalOfPair_1 (by decide) (fun c_1 => ?_) (fun c_1 => ?_)
  ·
    replace c_1 : b.toInt < 0 := (i32_ltc (b := 0) (by omega)).mp c_1
    have hz9 : rgB 0 9 b = false := by first | exact rgB_n1 (by omega) | exact rgB_n2 (by omega)
    refine lv_bipush (v := (-2)) hx hb dX2_refusalOfPair_10 (by decide) ?_
    exact xretR hx hb hr hlk dX2_refusalOfPair_12 (by simp [refP, nI0, c_1, hz9])
  ·
    replace c_1 : ¬ b.toInt < 0 := (not_congr (i32_ltc (b := 0) (by omega))).mp c_1
    refine lv_iload_n hx hb dX2_refusalOfPair_4 rfl (lv_at hl 2 rfl) ?_
    refine lv_bipush (v := nI 9) hx hb dX2_refusalOfPair_5 (by decide) ?_
    refine lv_icmp_le (tgt := 13) hx hb dX2_refusalOfPair_7 (by decide) (fun c_7 => ?_) (fun c_7 => ?_)
    ·
      replace c_7 : b.toInt ≤ 9 := (i32_lec (b := 9) (by omega)).mp c_7
      have hz9 : rgB 0 9 b = true := rgB_y (by omega) (by omega)
      refine lv_iload_n hx hb dX2_refusalOfPair_13 rfl (lv_at hl 2 rfl) ?_
      refine lv_bipush (v := nI 8) hx hb dX2_refusalOfPair_14 (by decide) ?_
      refine lv_icmp_ne (tgt := 30) hx hb dX2_refusalOfPair_16 (by decide) (fun c_16 => ?_) (fun c_16 => ?_)
      ·
        refine lv_iload_n hx hb dX2_refusalOfPair_30 rfl (lv_at hl 2 rfl) ?_
        refine lv_iconst (v := nI 4) hx hb dX2_refusalOfPair_31 (by decide) ?_
        refine lv_icmp_lt (tgt := 58) hx hb dX2_refusalOfPair_32 (by decide) (fun c_32 => ?_) (fun c_32 => ?_)
        ·
          replace c_32 : b.toInt < 4 := (i32_ltc (b := 4) (by omega)).mp c_32
          have hz4 : rgB 4 7 b = false := by first | exact rgB_n1 (by omega) | exact rgB_n2 (by omega)
          refine lv_aload_n hx hb dX2_refusalOfPair_58 rfl (lv_at hl 0 rfl) ?_
          refine va_get (D := D) (ci := 2) (v := .ref (ad 10)) (C := RX2) (T := TX2) (N := 9) hx hb yX2 (fun _ h => h) hown hG.1 hP 0 rfl rfl 1 (by decide) f20 (fun _ h => h) rfl dX2_refusalOfPair_59 ?_
          refine lv_iload_n hx hb dX2_refusalOfPair_62 rfl (lv_at hl 1 rfl) ?_
          refine xrd (va_runV (As := [.int a]) (rest := []) hF (c_X0_has l D cI cS (ad 10) (ad 11) (ad 12) (ad 13) (ad 14) n fo ki st we lo a (by first | assumption | omega)) (cwV 1 hts gX2_refusalOfPair_X0_has rfl rfl rfl hV_X0_has ⟨Nat.le_of_ble_eq_true rfl, Nat.le_of_ble_eq_true rfl⟩) (PR.preV hG (hP.sub (ws' := (wRow cI (ad 10) (ad 11) (ad 12) (ad 13) (ad 14) n fo ki st we lo)) [10, 11, 12, 13, 14] rfl) (ci := 0) rfl rfl) rfl rfl hl.1 rfl (lv_room (Nat.le_of_ble_eq_true rfl)) dX2_refusalOfPair_63 ⟨Nat.le_refl _, Nat.le_refl _⟩) ?_
          refine lv_if_eq (tgt := 73) hx hb dX2_refusalOfPair_66 (by decide) (fun c_66 => ?_) (fun c_66 => ?_)
          ·
            replace c_66 := bI_0.mp c_66
            refine lv_iconst (v := (-1)) hx hb dX2_refusalOfPair_73 (by decide) ?_
            exact xretR hx hb hr hlk dX2_refusalOfPair_74 (by simp [refP, nI0, c_1, c_7, hz9, c_16, c_32, hz4, c_66])
          ·
            replace c_66 := bI_n0.mp c_66
            refine lv_iconst (v := nI 0) hx hb dX2_refusalOfPair_69 (by decide) ?_
            refine lv_goto (tgt := 74) hx hb dX2_refusalOfPair_70 (by decide) ?_
            exact xretR hx hb hr hlk dX2_refusalOfPair_74 (by simp [refP, nI0, c_1, c_7, hz9, c_16, c_32, hz4, c_66])
        ·
          replace c_32 : ¬ b.toInt < 4 := (not_congr (i32_ltc (b := 4) (by omega))).mp c_32
          refine lv_iload_n hx hb dX2_refusalOfPair_35 rfl (lv_at hl 2 rfl) ?_
          refine lv_bipush (v := nI 8) hx hb dX2_refusalOfPair_36 (by decide) ?_
          refine lv_icmp_ge (tgt := 58) hx hb dX2_refusalOfPair_38 (by decide) (fun c_38 => ?_) (fun c_38 => ?_)
          ·
            replace c_38 : 8 ≤ b.toInt := (i32_gec (b := 8) (by omega)).mp c_38
            have hz4 : rgB 4 7 b = false := by first | exact rgB_n1 (by omega) | exact rgB_n2 (by omega)
            refine lv_aload_n hx hb dX2_refusalOfPair_58 rfl (lv_at hl 0 rfl) ?_
            refine va_get (D := D) (ci := 2) (v := .ref (ad 10)) (C := RX2) (T := TX2) (N := 9) hx hb yX2 (fun _ h => h) hown hG.1 hP 0 rfl rfl 1 (by decide) f20 (fun _ h => h) rfl dX2_refusalOfPair_59 ?_
            refine lv_iload_n hx hb dX2_refusalOfPair_62 rfl (lv_at hl 1 rfl) ?_
            refine xrd (va_runV (As := [.int a]) (rest := []) hF (c_X0_has l D cI cS (ad 10) (ad 11) (ad 12) (ad 13) (ad 14) n fo ki st we lo a (by first | assumption | omega)) (cwV 1 hts gX2_refusalOfPair_X0_has rfl rfl rfl hV_X0_has ⟨Nat.le_of_ble_eq_true rfl, Nat.le_of_ble_eq_true rfl⟩) (PR.preV hG (hP.sub (ws' := (wRow cI (ad 10) (ad 11) (ad 12) (ad 13) (ad 14) n fo ki st we lo)) [10, 11, 12, 13, 14] rfl) (ci := 0) rfl rfl) rfl rfl hl.1 rfl (lv_room (Nat.le_of_ble_eq_true rfl)) dX2_refusalOfPair_63 ⟨Nat.le_refl _, Nat.le_refl _⟩) ?_
            refine lv_if_eq (tgt := 73) hx hb dX2_refusalOfPair_66 (by decide) (fun c_66 => ?_) (fun c_66 => ?_)
            ·
              replace c_66 := bI_0.mp c_66
              refine lv_iconst (v := (-1)) hx hb dX2_refusalOfPair_73 (by decide) ?_
              exact xretR hx hb hr hlk dX2_refusalOfPair_74 (by simp [refP, nI0, c_1, c_7, hz9, c_16, c_32, c_38, hz4, c_66])
            ·
              replace c_66 := bI_n0.mp c_66
              refine lv_iconst (v := nI 0) hx hb dX2_refusalOfPair_69 (by decide) ?_
              refine lv_goto (tgt := 74) hx hb dX2_refusalOfPair_70 (by decide) ?_
              exact xretR hx hb hr hlk dX2_refusalOfPair_74 (by simp [refP, nI0, c_1, c_7, hz9, c_16, c_32, c_38, hz4, c_66])
          ·
            replace c_38 : ¬ 8 ≤ b.toInt := (not_congr (i32_gec (b := 8) (by omega))).mp c_38
            have hz4 : rgB 4 7 b = true := rgB_y (by omega) (by omega)
            refine lv_iload_n hx hb dX2_refusalOfPair_41 rfl (lv_at hl 1 rfl) ?_
            refine lv_if_lt (tgt := 55) hx hb dX2_refusalOfPair_42 (by decide) (fun c_42 => ?_) (fun c_42 => ?_)
            ·
              replace c_42 : a.toInt < 0 := (i32_ltc (b := 0) (by omega)).mp c_42
              have hza : rgB 0 10 a = false := by first | exact rgB_n1 (by omega) | exact rgB_n2 (by omega)
              refine lv_bipush (v := (-2)) hx hb dX2_refusalOfPair_55 (by decide) ?_
              exact xretR hx hb hr hlk dX2_refusalOfPair_57 (by simp [refP, nI0, c_1, c_7, hz9, c_16, c_32, c_38, hz4, c_42, hza])
            ·
              replace c_42 : ¬ a.toInt < 0 := (not_congr (i32_ltc (b := 0) (by omega))).mp c_42
              refine lv_iload_n hx hb dX2_refusalOfPair_45 rfl (lv_at hl 1 rfl) ?_
              refine lv_bipush (v := nI 10) hx hb dX2_refusalOfPair_46 (by decide) ?_
              refine lv_icmp_gt (tgt := 55) hx hb dX2_refusalOfPair_48 (by decide) (fun c_48 => ?_) (fun c_48 => ?_)
              ·
                replace c_48 : 10 < a.toInt := (i32_gtc (b := 10) (by omega)).mp c_48
                have hza : rgB 0 10 a = false := by first | exact rgB_n1 (by omega) | exact rgB_n2 (by omega)
                refine lv_bipush (v := (-2)) hx hb dX2_refusalOfPair_55 (by decide) ?_
                exact xretR hx hb hr hlk dX2_refusalOfPair_57 (by simp [refP, nI0, c_1, c_7, hz9, c_16, c_32, c_38, hz4, c_42, c_48, hza])
              ·
                replace c_48 : ¬ 10 < a.toInt := (not_congr (i32_gtc (b := 10) (by omega))).mp c_48
                have hza : rgB 0 10 a = true := rgB_y (by omega) (by omega)
                refine lv_iconst (v := nI 0) hx hb dX2_refusalOfPair_51 (by decide) ?_
                refine lv_goto (tgt := 57) hx hb dX2_refusalOfPair_52 (by decide) ?_
                exact xretR hx hb hr hlk dX2_refusalOfPair_57 (by simp [refP, nI0, c_1, c_7, hz9, c_16, c_32, c_38, hz4, c_42, c_48, hza])
      ·
        subst c_16
        refine lv_iload_n hx hb dX2_refusalOfPair_19 rfl (lv_at hl 1 rfl) ?_
        refine lv_if_ne (tgt := 27) hx hb dX2_refusalOfPair_20 (by decide) (fun c_20 => ?_) (fun c_20 => ?_)
        ·
          refine lv_bipush (v := (-2)) hx hb dX2_refusalOfPair_27 (by decide) ?_
          exact xretR hx hb hr hlk dX2_refusalOfPair_29 (by simp [refP, nI0, c_1, c_7, hz9, c_20])
        ·
          refine lv_iconst (v := nI 0) hx hb dX2_refusalOfPair_23 (by decide) ?_
          refine lv_goto (tgt := 29) hx hb dX2_refusalOfPair_24 (by decide) ?_
          exact xretR hx hb hr hlk dX2_refusalOfPair_29 (by simp [refP, nI0, c_1, c_7, hz9, c_20])
    ·
      replace c_7 : ¬ b.toInt ≤ 9 := (not_congr (i32_lec (b := 9) (by omega))).mp c_7
      have hz9 : rgB 0 9 b = false := by first | exact rgB_n1 (by omega) | exact rgB_n2 (by omega)
      refine lv_bipush (v := (-2)) hx hb dX2_refusalOfPair_10 (by decide) ?_
      exact xretR hx hb hr hlk dX2_refusalOfPair_12 (by simp [refP, nI0, c_1, c_7, hz9])

set_option maxHeartbeats 4000000 in
set_option maxRecDepth 100000 in
theorem c_X2_refusalOfPairs (l : Launch) (D : va_G) (cI cS : ClassId) (ad : Nat → Nat) (sh : Nat → Bool) (sla : Nat → Nat) (sle : Nat → Nat) (sf : Nat → Nat → Int32) (n : Nat) (fo : Nat) (ki : Nat → Nat) (st : Nat → Nat) (we : Nat → Nat) (lo : Nat → Nat) (n2 : Nat) (go : Nat) (kj : Nat → Nat) (sj : Nat → Nat) (wj : Nat → Nat) (lj : Nat → Nat) (ti : Nat → Int32) (rc : Nat → Nat) (rv : Nat → Nat) (rd : Nat) (tr : Int32) (fa : Nat) (j : Nat) (u : Nat) (ct : Nat) (hn : n ≤ 8) (hsle : ∀ j, sle j ≤ 60) (hj4 : j < 4) (hct : ct ≤ 20) (hu : u + 2 * ct ≤ sle j) : Met l yX2_refusalOfPairs wsX2_refusalOfPairs ({ frames := 2, cells := 0, slots := 0, locals := 43 }) (PR D cI cS [.ref (ad 0), .ref (ad (2 + 2 * j)), .int (nI u), .int (nI ct)] (wX cI cS ad sh sla sle sf n fo ki st we lo n2 go kj sj wj lj ti rc rv rd tr fa)) (vp_Si (fun r => r = firstR (refD n (sf j) u) ct)) 0 0 (fun _ => False) := by
  refine startR (by decide) rfl (Nat.le_of_ble_eq_true rfl) ?_
  intro p e s m below meth c hx hb hr hts hown hlk hml hG hP ls hl
  have hl : lv_has ls 6 [(0, .ref (ad 0)), (1, .ref (ad (2 + 2 * j))), (2, .int (nI u)), (3, .int (nI ct))] := hl
  have hF : CallFix p m c cX2_refusalOfPairs 6 s _ wsX2_refusalOfPairs RX2 := ⟨hx, hb, hml, hown, hts⟩
  have hsj := hsle j
  refine lv_iconst (v := nI 0) hx hb dX2_refusalOfPairs_0 (by decide) ?_
  refine lv_istore (lv' := [(4, .int (nI 0)), (0, .ref (ad 0)), (1, .ref (ad (2 + 2 * j))), (2, .int (nI u)), (3, .int (nI ct))]) hx hb dX2_refusalOfPairs_1 hl (by decide) rfl (fun ls hl => ?_)
  have K3 : ∀ (fuel : Nat) (i : Nat), (i ≤ ct) → (∀ r, r < i → refD n (sf j) u r = nI 0) → (ct - i) < fuel → ∀ ls : Array Slot, lv_has ls 6 [(4, .int (nI i)), (0, .ref (ad 0)), (1, .ref (ad (2 + 2 * j))), (2, .int (nI u)), (3, .int (nI ct))] → W p l e ({ frames := 2, cells := 0, slots := 0, locals := 43 }) s m (([.ref (ad 0), .ref (ad (2 + 2 * j)), .int (nI u), .int (nI ct)] : List Value).toArray) below meth c s.heap [] 0 0 (MQ below (vp_Si (fun r => r = firstR (refD n (sf j) u) ct)) (([.ref (ad 0), .ref (ad (2 + 2 * j)), .int (nI u), .int (nI ct)] : List Value).toArray) s 0 0 (fun _ => False)) (F0 m 3 ls []) := by
    intro fuel
    induction fuel with
    | zero => intro i hi hno hmu; exact absurd hmu (Nat.not_lt_zero _)
    | succ fuel ih =>
      intro i hi hno hmu ls hl
      refine lv_iload hx hb dX2_refusalOfPairs_3 (lv_at hl 0 rfl) ?_
      refine lv_iload_n hx hb dX2_refusalOfPairs_5 rfl (lv_at hl 4 rfl) ?_
      refine lv_icmp_ge (tgt := 51) hx hb dX2_refusalOfPairs_6 (by decide) (fun c_6 => ?_) (fun c_6 => ?_)
      ·
        replace c_6 := (nI_leI (a := ct) (b := i) (by omega) (by omega)).mp c_6
        have hin : ct = i := by omega
        subst hin
        refine lv_iconst (v := nI 0) hx hb dX2_refusalOfPairs_51 (by decide) ?_
        exact xretR hx hb hr hlk dX2_refusalOfPairs_52 (by exact (fr_zero hno).symm)
      ·
        replace c_6 := (not_congr (nI_leI (a := ct) (b := i) (by omega) (by omega))).mp c_6
        refine lv_aload_n hx hb dX2_refusalOfPairs_9 rfl (lv_at hl 1 rfl) ?_
        refine lv_aload_n hx hb dX2_refusalOfPairs_10 rfl (lv_at hl 2 rfl) ?_
        refine lv_iload_n hx hb dX2_refusalOfPairs_11 rfl (lv_at hl 3 rfl) ?_
        refine lv_iconst (v := nI 2) hx hb dX2_refusalOfPairs_12 (by decide) ?_
        refine lv_iload hx hb dX2_refusalOfPairs_13 (lv_at hl 0 rfl) ?_
        refine xmulN hx hb dX2_refusalOfPairs_15 ?_
        refine xaddN hx hb dX2_refusalOfPairs_16 ?_
        refine xrd (va_runV (As := [.int (nI (u + (2 * i)))]) (rest := [.ref (ad 0)]) hF (c_X1_atN l D cI cS (ad (2 + 2 * j)) (ad (3 + 2 * j)) (sh j) (sla j) (sle j) (sf j) (u + (2 * i)) (by first | assumption | omega) (by first | assumption | omega)) (cwV 1 hts gX2_refusalOfPairs_X1_at rfl rfl rfl hV_X1_at ⟨Nat.le_of_ble_eq_true rfl, Nat.le_of_ble_eq_true rfl⟩) (PR.preV hG (hP.sub (ws' := (wSheet cI (ad (2 + 2 * j)) (ad (3 + 2 * j)) (sh j) (sla j) (sle j) (sf j))) [2 + 2 * j, 3 + 2 * j] (wX_sub (j := j) (by omega))) (ci := 1) rfl rfl) rfl rfl hl.1 rfl (lv_room (Nat.le_of_ble_eq_true rfl)) dX2_refusalOfPairs_17 ⟨Nat.le_refl _, Nat.le_refl _⟩) ?_
        refine lv_aload_n hx hb dX2_refusalOfPairs_20 rfl (lv_at hl 2 rfl) ?_
        refine lv_iload_n hx hb dX2_refusalOfPairs_21 rfl (lv_at hl 3 rfl) ?_
        refine lv_iconst (v := nI 2) hx hb dX2_refusalOfPairs_22 (by decide) ?_
        refine lv_iload hx hb dX2_refusalOfPairs_23 (lv_at hl 0 rfl) ?_
        refine xmulN hx hb dX2_refusalOfPairs_25 ?_
        refine xaddN hx hb dX2_refusalOfPairs_26 ?_
        refine lv_iconst (v := nI 1) hx hb dX2_refusalOfPairs_27 (by decide) ?_
        refine xaddN hx hb dX2_refusalOfPairs_28 ?_
        refine xrd (va_runV (As := [.int (nI (u + (2 * i) + 1))]) (rest := [.int ((sf j) (u + (2 * i))), .ref (ad 0)]) hF (c_X1_atN l D cI cS (ad (2 + 2 * j)) (ad (3 + 2 * j)) (sh j) (sla j) (sle j) (sf j) (u + (2 * i) + 1) (by first | assumption | omega) (by first | assumption | omega)) (cwV 1 hts gX2_refusalOfPairs_X1_at rfl rfl rfl hV_X1_at ⟨Nat.le_of_ble_eq_true rfl, Nat.le_of_ble_eq_true rfl⟩) (PR.preV hG (hP.sub (ws' := (wSheet cI (ad (2 + 2 * j)) (ad (3 + 2 * j)) (sh j) (sla j) (sle j) (sf j))) [2 + 2 * j, 3 + 2 * j] (wX_sub (j := j) (by omega))) (ci := 1) rfl rfl) rfl rfl hl.1 rfl (lv_room (Nat.le_of_ble_eq_true rfl)) dX2_refusalOfPairs_29 ⟨Nat.le_refl _, Nat.le_refl _⟩) ?_
        refine xrd (va_runV (As := [.int ((sf j) (u + (2 * i))), .int ((sf j) (u + (2 * i) + 1))]) (rest := []) hF (c_X2_refusalOfPair l D cI cS ad sh sla sle sf n fo ki st we lo n2 go kj sj wj lj ti rc rv rd tr fa ((sf j) (u + (2 * i))) ((sf j) (u + (2 * i) + 1)) (by first | assumption | omega)) (cwV 2 hts gX2_refusalOfPairs_X2_refusalOfPair rfl rfl rfl hV_X2_refusalOfPair ⟨Nat.le_of_ble_eq_true rfl, Nat.le_of_ble_eq_true rfl⟩) (PR.preV hG hP (ci := 2) rfl rfl) rfl rfl hl.1 rfl (lv_room (Nat.le_of_ble_eq_true rfl)) dX2_refusalOfPairs_32 ⟨Nat.le_refl _, Nat.le_refl _⟩) ?_
        refine lv_istore (lv' := [(5, .int (refP n ((sf j) (u + (2 * i))) ((sf j) (u + (2 * i) + 1)))), (4, .int (nI i)), (0, .ref (ad 0)), (1, .ref (ad (2 + 2 * j))), (2, .int (nI u)), (3, .int (nI ct))]) hx hb dX2_refusalOfPairs_35 hl (by decide) rfl (fun ls hl => ?_)
        refine lv_iload hx hb dX2_refusalOfPairs_37 (lv_at hl 0 rfl) ?_
        refine lv_if_eq (tgt := 45) hx hb dX2_refusalOfPairs_39 (by decide) (fun c_39 => ?_) (fun c_39 => ?_)
        ·
          refine lv_iinc (v := nI (i + 1)) (lv' := [(4, .int (nI (i + 1))), (5, .int (refP n ((sf j) (u + (2 * i))) ((sf j) (u + (2 * i) + 1)))), (0, .ref (ad 0)), (1, .ref (ad (2 + 2 * j))), (2, .int (nI u)), (3, .int (nI ct))]) hx hb dX2_refusalOfPairs_45 hl (k := 1) rfl xinc1 (by decide) rfl (fun ls hl => ?_)
          refine lv_goto (tgt := 3) hx hb dX2_refusalOfPairs_48 (by decide) ?_
          exact ih (i + 1)  (by omega) (by intro v hv; rcases Nat.lt_succ_iff_lt_or_eq.mp hv with h9 | rfl; exact hno v h9; exact c_39) (by omega) ls (lv_sub hl [0, 2, 3, 4, 5] rfl)
        ·
          refine lv_iload hx hb dX2_refusalOfPairs_42 (lv_at hl 0 rfl) ?_
          exact xretR hx hb hr hlk dX2_refusalOfPairs_44 (by exact (fr_stop hno (show ¬ refD n (sf j) u i = nI 0 from c_39) (by omega)).symm)
  exact K3 _ 0  (by first | omega | (intro v hv; omega)) (by first | omega | (intro v hv; omega)) (Nat.lt_succ_self _) ls (lv_sub hl [0, 1, 2, 3, 4] rfl)

set_option maxHeartbeats 4000000 in
set_option maxRecDepth 100000 in
theorem c_X2_answerOfDay (l : Launch) (D : va_G) (cI cS : ClassId) (ad : Nat → Nat) (sh : Nat → Bool) (sla : Nat → Nat) (sle : Nat → Nat) (sf : Nat → Nat → Int32) (n : Nat) (fo : Nat) (ki : Nat → Nat) (st : Nat → Nat) (we : Nat → Nat) (lo : Nat → Nat) (n2 : Nat) (go : Nat) (kj : Nat → Nat) (sj : Nat → Nat) (wj : Nat → Nat) (lj : Nat → Nat) (ti : Nat → Int32) (rc : Nat → Nat) (rv : Nat → Nat) (rd : Nat) (tr : Int32) (fa : Nat) (j : Nat) (u : Nat) (ct : Nat) (what : Int32) (hnd : nd (adX ad)) (hn : n ≤ 8) (hfo : fo < 256) (hki : ∀ j, ki j ≤ 2) (hwe : ∀ j, we j ≤ 9) (hst : ∀ j, st j ≤ 3) (hlo : ∀ j, lo j ≤ 3) (hsle : ∀ j, sle j ≤ 60) (hj4 : j < 4) (hct : ct ≤ 20) (hu : u + 2 * ct ≤ sle j) (hok : ∀ p, p < ct → sf j (u + 2 * p) = nI (dA (sf j) u p) ∧ sf j (u + 2 * p + 1) = nI (dB (sf j) u p) ∧ dB (sf j) u p ≤ 9 ∧ actOk n (dA (sf j) u p) (dB (sf j) u p)) : Met l yX2_answerOfDay wsX2_answerOfDay ({ frames := 5, cells := 0, slots := 0, locals := 107 }) (PR D cI cS [.ref (ad 0), .ref (ad (2 + 2 * j)), .int (nI u), .int (nI ct), .int what] (wX cI cS ad sh sla sle sf n fo ki st we lo n2 go kj sj wj lj ti rc rv rd tr fa)) (va_Qi (fun r (zz : Nat × Nat × (Nat → Nat) × (Nat → Nat) × (Nat → Nat) × (Nat → Nat)) => r = ansD n fo ki st we lo (sf j) u ct what) (fun (zz : Nat × Nat × (Nat → Nat) × (Nat → Nat) × (Nat → Nat) × (Nat → Nat)) t => va_P D vwCl (wX cI cS ad sh sla sle sf n fo ki st we lo zz.1 zz.2.1 zz.2.2.1 zz.2.2.2.1 zz.2.2.2.2.1 zz.2.2.2.2.2 ti rc rv rd tr fa) t.heap) (AW (adX ad))) 0 0 (AW (adX ad)) := by
  refine startM (by decide) rfl (Nat.le_of_ble_eq_true rfl) hnd rfl ?_
  intro p e s m below meth c hx hb hr hts hown hlk hml hG hP hD hS ls hl
  have hl : lv_has ls 7 [(0, .ref (ad 0)), (1, .ref (ad (2 + 2 * j))), (2, .int (nI u)), (3, .int (nI ct)), (4, .int what)] := hl
  have f24 := hts (.fieldLink RX2 24 "ChairBallot" "trial" "LChairBallot$Row;") (by decide +kernel)
  have f20 := hts (.fieldLink RX2 20 "ChairBallot" "now" "LChairBallot$Row;") (by decide +kernel)
  have f136 := hts (.fieldLink RX2 136 "ChairBallot$Row" "folded" "I") (by decide +kernel)
  have f90 := hts (.fieldLink RX2 90 "ChairBallot$Row" "looks" "[I") (by decide +kernel)
  have yX0 : ∀ w ∈ u_ws RX0 TX0 6, w.before _ s = true := fun w h => hts w ((by decide +kernel : ∀ w ∈ wsX00, w ∈ wsX2_answerOfDay) w h)
  have yX2 : ∀ w ∈ u_ws RX2 TX2 9, w.before _ s = true := fun w h => hts w ((by decide +kernel : ∀ w ∈ wsX20, w ∈ wsX2_answerOfDay) w h)
  have hF : CallFix p m c cX2_answerOfDay 7 s _ wsX2_answerOfDay RX2 := ⟨hx, hb, hml, hown, hts⟩
  have hsj := hsle j
  refine lv_iconst (v := nI 0) hx hb dX2_answerOfDay_0 (by decide) ?_
  refine lv_istore (lv' := [(5, .int (nI 0)), (0, .ref (ad 0)), (1, .ref (ad (2 + 2 * j))), (2, .int (nI u)), (3, .int (nI ct)), (4, .int what)]) hx hb dX2_answerOfDay_1 hl (by decide) rfl (fun ls hl => ?_)
  refine lv_aload_n hx hb dX2_answerOfDay_3 rfl (lv_at hl 1 rfl) ?_
  refine va_get (D := D) (ci := 2) (v := .ref (ad 15)) (C := RX2) (T := TX2) (N := 9) hx hb yX2 (fun _ h => h) hown hG.1 hP 0 rfl rfl 2 (by decide) f24 (fun _ h => h) rfl dX2_answerOfDay_4 ?_
  refine lv_aload_n hx hb dX2_answerOfDay_7 rfl (lv_at hl 1 rfl) ?_
  refine va_get (D := D) (ci := 2) (v := .ref (ad 10)) (C := RX2) (T := TX2) (N := 9) hx hb yX2 (fun _ h => h) hown hG.1 hP 0 rfl rfl 1 (by decide) f20 (fun _ h => h) rfl dX2_answerOfDay_8 ?_
  refine xmuv (wc := (wRow2 cI (ad 15) (ad 16) (ad 17) (ad 18) (ad 19) n2 go kj sj wj lj (ad 10) (ad 11) (ad 12) (ad 13) (ad 14) n fo ki st we lo)) (va_runV (As := [.ref (ad 10)]) (rest := []) hF (c_X0_becomes l D cI cS (ad 15) (ad 16) (ad 17) (ad 18) (ad 19) n2 go kj sj wj lj (ad 10) (ad 11) (ad 12) (ad 13) (ad 14) n fo ki st we lo (hnd.sub [15, 16, 17, 18, 19, 10, 11, 12, 13, 14] (by decide) rfl)) (cwV 1 hts gX2_answerOfDay_X0_becomes rfl rfl rfl hV_X0_becomes ⟨Nat.le_of_ble_eq_true rfl, Nat.le_of_ble_eq_true rfl⟩) (PR.preV hG (hP.sub (ws' := (wRow2 cI (ad 15) (ad 16) (ad 17) (ad 18) (ad 19) n2 go kj sj wj lj (ad 10) (ad 11) (ad 12) (ad 13) (ad 14) n fo ki st we lo)) [15, 16, 17, 18, 19, 10, 11, 12, 13, 14] rfl) (ci := 0) rfl rfl) rfl rfl hl.1 rfl (lv_room (Nat.le_of_ble_eq_true rfl)) dX2_answerOfDay_11 ⟨Nat.le_refl _, Nat.le_refl _⟩) hP hD hS [15, 16, 17, 18, 19, 10, 11, 12, 13, 14] rfl rfl (fun _ => rfl) (fun u_11 H locs q_11 hP hD hS => ?_)
  try dsimp only at q_11 hP hD
  have hP : va_P D vwCl (wX cI cS ad sh sla sle sf n fo ki st we lo n fo ki st we lo ti rc rv rd tr fa) H := hP
  have hD : va_D (AW (adX ad)) (wX cI cS ad sh sla sle sf n fo ki st we lo n fo ki st we lo ti rc rv rd tr fa) := hD
  refine lv_iconst (v := nI 0) hx hb dX2_answerOfDay_14 (by decide) ?_
  refine lv_istore (lv' := [(6, .int (nI 0)), (5, .int (nI 0)), (0, .ref (ad 0)), (1, .ref (ad (2 + 2 * j))), (2, .int (nI u)), (3, .int (nI ct)), (4, .int what)]) hx hb dX2_answerOfDay_15 hl (by decide) rfl (fun ls hl => ?_)
  have K17 : ∀ (fuel : Nat) (i : Nat) (x5 : Int32) (g1 : Nat) (g2 : Nat → Nat), x5 = nI (cntN (dyC n fo ki st we lo (sf j) u) i) → g1 = (dyS n fo we lo (sf j) u i).1 → g2 = (dyS n fo we lo (sf j) u i).2 → (i ≤ ct) → (∀ v, v < i → dyX n fo we lo (sf j) u v = false) → (ct - i) < fuel → ∀ (H : Heap) (locs : List Loc), va_P D vwCl (wX cI cS ad sh sla sle sf n fo ki st we lo n g1 ki st we g2 ti rc rv rd tr fa) H → va_D (AW (adX ad)) (wX cI cS ad sh sla sle sf n fo ki st we lo n g1 ki st we g2 ti rc rv rd tr fa) → va_S (AW (adX ad)) s.heap H locs → ∀ ls : Array Slot, lv_has ls 7 [(6, .int (nI i)), (5, .int x5), (0, .ref (ad 0)), (1, .ref (ad (2 + 2 * j))), (2, .int (nI u)), (3, .int (nI ct)), (4, .int what)] → W p l e ({ frames := 5, cells := 0, slots := 0, locals := 107 }) s m (([.ref (ad 0), .ref (ad (2 + 2 * j)), .int (nI u), .int (nI ct), .int what] : List Value).toArray) below meth c H locs 0 0 (MQ below (va_Qi (fun r (zz : Nat × Nat × (Nat → Nat) × (Nat → Nat) × (Nat → Nat) × (Nat → Nat)) => r = ansD n fo ki st we lo (sf j) u ct what) (fun (zz : Nat × Nat × (Nat → Nat) × (Nat → Nat) × (Nat → Nat) × (Nat → Nat)) t => va_P D vwCl (wX cI cS ad sh sla sle sf n fo ki st we lo zz.1 zz.2.1 zz.2.2.1 zz.2.2.2.1 zz.2.2.2.2.1 zz.2.2.2.2.2 ti rc rv rd tr fa) t.heap) (AW (adX ad))) (([.ref (ad 0), .ref (ad (2 + 2 * j)), .int (nI u), .int (nI ct), .int what] : List Value).toArray) s 0 0 (AW (adX ad))) (F0 m 17 ls []) := by
    intro fuel
    induction fuel with
    | zero => intro i x5 g1 g2 e_x5 e_g1 e_g2 hi hno hmu; exact absurd hmu (Nat.not_lt_zero _)
    | succ fuel ih =>
      intro i x5 g1 g2 e_x5 e_g1 e_g2 hi hno hmu H locs hP hD hS ls hl
      subst e_x5
      subst e_g1
      subst e_g2
      obtain ⟨hg1, hg2⟩ := dy_inv (we := we) hn hfo hlo hok i hi
      refine lv_iload hx hb dX2_answerOfDay_17 (lv_at hl 0 rfl) ?_
      refine lv_iload_n hx hb dX2_answerOfDay_19 rfl (lv_at hl 5 rfl) ?_
      refine lv_icmp_ge (tgt := 91) hx hb dX2_answerOfDay_20 (by decide) (fun c_20 => ?_) (fun c_20 => ?_)
      ·
        replace c_20 := (nI_leI (a := ct) (b := i) (by omega) (by omega)).mp c_20
        have hin : ct = i := by omega
        subst hin
        refine lv_iload hx hb dX2_answerOfDay_91 (lv_at hl 6 rfl) ?_
        by_cases c_93_0 : what = nI 0
        ·
          refine lv_tableIn (off := 35) (tgt := 128) hx hb dX2_answerOfDay_93 (by rw [c_93_0]; decide) (by rw [c_93_0]; decide) (by rw [c_93_0]; decide) (by decide) ?_
          refine lv_aload_n hx hb dX2_answerOfDay_128 rfl (lv_at hl 2 rfl) ?_
          refine va_get (D := D) (ci := 2) (v := .ref (ad 15)) (C := RX2) (T := TX2) (N := 9) hx hb yX2 (fun _ h => h) hown hG.1 hP 0 rfl rfl 2 (by decide) f24 (fun _ h => h) rfl dX2_answerOfDay_129 ?_
          refine lv_iconst (v := nI 1) hx hb dX2_answerOfDay_132 (by decide) ?_
          refine xrd (va_runV (As := [.int (nI 1)]) (rest := []) hF (c_X0_votesOf l D cI cS (ad 15) (ad 16) (ad 17) (ad 18) (ad 19) n ((dyS n fo we lo (sf j) u ct).1) ki st we ((dyS n fo we lo (sf j) u ct).2) 1 (by first | assumption | omega) (by first | exact actF_lt hn hg1 (hok i (by omega)).2.2.1 (hok i (by omega)).2.2.2 | assumption) (by first | assumption | omega) (by first | assumption | omega) (by first | assumption | omega) (by first | exact actL_le (hok i (by omega)).2.2.1 hg2 | assumption) (by first | assumption | omega)) (cwV 1 hts gX2_answerOfDay_X0_votesOf rfl rfl rfl hV_X0_votesOf ⟨Nat.le_of_ble_eq_true rfl, Nat.le_of_ble_eq_true rfl⟩) (PR.preV hG (hP.sub (ws' := (wRow cI (ad 15) (ad 16) (ad 17) (ad 18) (ad 19) n ((dyS n fo we lo (sf j) u ct).1) ki st we ((dyS n fo we lo (sf j) u ct).2))) [15, 16, 17, 18, 19] rfl) (ci := 0) rfl rfl) rfl rfl hl.1 rfl (lv_room (Nat.le_of_ble_eq_true rfl)) dX2_answerOfDay_133 ⟨Nat.le_refl _, Nat.le_refl _⟩) ?_
          exact xretM hx hb hr hlk dX2_answerOfDay_136 hS ⟨n, (dyS n fo we lo (sf j) u ct).1, ki, st, we, (dyS n fo we lo (sf j) u ct).2⟩ (by have e9 : firstV (dyX n fo we lo (sf j) u) ct = none := firstV_none hno; simp [ansD, e9, nIeq, c_20, c_93_0]) (fun t ht => by rw [ht]; exact hP)
        by_cases c_93_1 : what = nI 1
        ·
          refine lv_tableIn (off := 44) (tgt := 137) hx hb dX2_answerOfDay_93 (by rw [c_93_1]; decide) (by rw [c_93_1]; decide) (by rw [c_93_1]; decide) (by decide) ?_
          refine lv_bipush (v := (-9)) hx hb dX2_answerOfDay_137 (by decide) ?_
          exact xretM hx hb hr hlk dX2_answerOfDay_139 hS ⟨n, (dyS n fo we lo (sf j) u ct).1, ki, st, we, (dyS n fo we lo (sf j) u ct).2⟩ (by have e9 : firstV (dyX n fo we lo (sf j) u) ct = none := firstV_none hno; simp [ansD, e9, nIeq, c_20, c_93_1]) (fun t ht => by rw [ht]; exact hP)
        by_cases c_93_2 : what = nI 2
        ·
          refine lv_tableIn (off := 47) (tgt := 140) hx hb dX2_answerOfDay_93 (by rw [c_93_2]; decide) (by rw [c_93_2]; decide) (by rw [c_93_2]; decide) (by decide) ?_
          refine lv_aload_n hx hb dX2_answerOfDay_140 rfl (lv_at hl 2 rfl) ?_
          refine va_get (D := D) (ci := 2) (v := .ref (ad 15)) (C := RX2) (T := TX2) (N := 9) hx hb yX2 (fun _ h => h) hown hG.1 hP 0 rfl rfl 2 (by decide) f24 (fun _ h => h) rfl dX2_answerOfDay_141 ?_
          refine lv_iconst (v := nI 2) hx hb dX2_answerOfDay_144 (by decide) ?_
          refine xrd (va_runV (As := [.int (nI 2)]) (rest := []) hF (c_X0_votesOf l D cI cS (ad 15) (ad 16) (ad 17) (ad 18) (ad 19) n ((dyS n fo we lo (sf j) u ct).1) ki st we ((dyS n fo we lo (sf j) u ct).2) 2 (by first | assumption | omega) (by first | exact actF_lt hn hg1 (hok i (by omega)).2.2.1 (hok i (by omega)).2.2.2 | assumption) (by first | assumption | omega) (by first | assumption | omega) (by first | assumption | omega) (by first | exact actL_le (hok i (by omega)).2.2.1 hg2 | assumption) (by first | assumption | omega)) (cwV 1 hts gX2_answerOfDay_X0_votesOf rfl rfl rfl hV_X0_votesOf ⟨Nat.le_of_ble_eq_true rfl, Nat.le_of_ble_eq_true rfl⟩) (PR.preV hG (hP.sub (ws' := (wRow cI (ad 15) (ad 16) (ad 17) (ad 18) (ad 19) n ((dyS n fo we lo (sf j) u ct).1) ki st we ((dyS n fo we lo (sf j) u ct).2))) [15, 16, 17, 18, 19] rfl) (ci := 0) rfl rfl) rfl rfl hl.1 rfl (lv_room (Nat.le_of_ble_eq_true rfl)) dX2_answerOfDay_145 ⟨Nat.le_refl _, Nat.le_refl _⟩) ?_
          exact xretM hx hb hr hlk dX2_answerOfDay_148 hS ⟨n, (dyS n fo we lo (sf j) u ct).1, ki, st, we, (dyS n fo we lo (sf j) u ct).2⟩ (by have e9 : firstV (dyX n fo we lo (sf j) u) ct = none := firstV_none hno; simp [ansD, e9, nIeq, c_20, c_93_2]) (fun t ht => by rw [ht]; exact hP)
        by_cases c_93_3 : what = nI 3
        ·
          refine lv_tableIn (off := 56) (tgt := 149) hx hb dX2_answerOfDay_93 (by rw [c_93_3]; decide) (by rw [c_93_3]; decide) (by rw [c_93_3]; decide) (by decide) ?_
          refine lv_aload_n hx hb dX2_answerOfDay_149 rfl (lv_at hl 2 rfl) ?_
          refine va_get (D := D) (ci := 2) (v := .ref (ad 15)) (C := RX2) (T := TX2) (N := 9) hx hb yX2 (fun _ h => h) hown hG.1 hP 0 rfl rfl 2 (by decide) f24 (fun _ h => h) rfl dX2_answerOfDay_150 ?_
          refine va_get (D := D) (ci := 0) (v := .int (nI ((dyS n fo we lo (sf j) u ct).1))) (C := RX0) (T := TX0) (N := 6) hx hb yX0 (fun _ h => h) hown hG.1 hP 15 rfl rfl 5 (by decide) f136 (fun _ h => h) rfl dX2_answerOfDay_153 ?_
          exact xretM hx hb hr hlk dX2_answerOfDay_156 hS ⟨n, (dyS n fo we lo (sf j) u ct).1, ki, st, we, (dyS n fo we lo (sf j) u ct).2⟩ (by have e9 : firstV (dyX n fo we lo (sf j) u) ct = none := firstV_none hno; simp [ansD, e9, nIeq, c_20, c_93_3]) (fun t ht => by rw [ht]; exact hP)
        by_cases c_93_4 : what = nI 4
        ·
          refine lv_tableIn (off := 64) (tgt := 157) hx hb dX2_answerOfDay_93 (by rw [c_93_4]; decide) (by rw [c_93_4]; decide) (by rw [c_93_4]; decide) (by decide) ?_
          refine lv_iload hx hb dX2_answerOfDay_157 (lv_at hl 1 rfl) ?_
          exact xretM hx hb hr hlk dX2_answerOfDay_159 hS ⟨n, (dyS n fo we lo (sf j) u ct).1, ki, st, we, (dyS n fo we lo (sf j) u ct).2⟩ (by have e9 : firstV (dyX n fo we lo (sf j) u) ct = none := firstV_none hno; simp [ansD, e9, nIeq, c_20, c_93_4]) (fun t ht => by rw [ht]; exact hP)
        refine lv_tableOut (tgt := 160) hx hb dX2_answerOfDay_93 (by exact xtabN (N := 5) (by decide) (fun j hj => by match j, hj with | 0, _ => exact c_93_0 | 1, _ => exact c_93_1 | 2, _ => exact c_93_2 | 3, _ => exact c_93_3 | 4, _ => exact c_93_4)) (by decide) ?_
        refine lv_aload_n hx hb dX2_answerOfDay_160 rfl (lv_at hl 2 rfl) ?_
        refine va_get (D := D) (ci := 2) (v := .ref (ad 15)) (C := RX2) (T := TX2) (N := 9) hx hb yX2 (fun _ h => h) hown hG.1 hP 0 rfl rfl 2 (by decide) f24 (fun _ h => h) rfl dX2_answerOfDay_161 ?_
        refine lv_iload hx hb dX2_answerOfDay_164 (lv_at hl 6 rfl) ?_
        refine lv_bipush (v := nI 10) hx hb dX2_answerOfDay_166 (by decide) ?_
        refine lv_isub hx hb dX2_answerOfDay_168 ?_
        refine xrd (va_runV (As := [.int (what - (nI 10))]) (rest := []) hF (c_X0_has l D cI cS (ad 15) (ad 16) (ad 17) (ad 18) (ad 19) n ((dyS n fo we lo (sf j) u ct).1) ki st we ((dyS n fo we lo (sf j) u ct).2) (what - (nI 10)) (by first | assumption | omega)) (cwV 1 hts gX2_answerOfDay_X0_has rfl rfl rfl hV_X0_has ⟨Nat.le_of_ble_eq_true rfl, Nat.le_of_ble_eq_true rfl⟩) (PR.preV hG (hP.sub (ws' := (wRow cI (ad 15) (ad 16) (ad 17) (ad 18) (ad 19) n ((dyS n fo we lo (sf j) u ct).1) ki st we ((dyS n fo we lo (sf j) u ct).2))) [15, 16, 17, 18, 19] rfl) (ci := 0) rfl rfl) rfl rfl hl.1 rfl (lv_room (Nat.le_of_ble_eq_true rfl)) dX2_answerOfDay_169 ⟨Nat.le_refl _, Nat.le_refl _⟩) ?_
        refine lv_if_eq (tgt := 191) hx hb dX2_answerOfDay_172 (by decide) (fun c_172 => ?_) (fun c_172 => ?_)
        ·
          replace c_172 := bI_0.mp c_172
          refine lv_bipush (v := (-9)) hx hb dX2_answerOfDay_191 (by decide) ?_
          exact xretM hx hb hr hlk dX2_answerOfDay_193 hS ⟨n, (dyS n fo we lo (sf j) u ct).1, ki, st, we, (dyS n fo we lo (sf j) u ct).2⟩ (by have e9 : firstV (dyX n fo we lo (sf j) u) ct = none := firstV_none hno; simp [ansD, e9, nIeq, c_20, c_93_0, c_93_1, c_93_2, c_93_3, c_93_4, c_172]) (fun t ht => by rw [ht]; exact hP)
        ·
          replace c_172 := bI_n0.mp c_172
          obtain ⟨jj, hjj, e10⟩ := hasB_t c_172
          have hcl10 : (what - nI 10).toNatClampNeg = jj := by rw [e10]; exact cl8 (by omega)
          refine lv_aload_n hx hb dX2_answerOfDay_175 rfl (lv_at hl 2 rfl) ?_
          refine va_get (D := D) (ci := 2) (v := .ref (ad 15)) (C := RX2) (T := TX2) (N := 9) hx hb yX2 (fun _ h => h) hown hG.1 hP 0 rfl rfl 2 (by decide) f24 (fun _ h => h) rfl dX2_answerOfDay_176 ?_
          refine va_get (D := D) (ci := 0) (v := .ref (ad 19)) (C := RX0) (T := TX0) (N := 6) hx hb yX0 (fun _ h => h) hown hG.1 hP 15 rfl rfl 3 (by decide) f90 (fun _ h => h) rfl dX2_answerOfDay_179 ?_
          refine lv_iload hx hb dX2_answerOfDay_182 (lv_at hl 6 rfl) ?_
          refine lv_bipush (v := nI 10) hx hb dX2_answerOfDay_184 (by decide) ?_
          refine lv_isub hx hb dX2_answerOfDay_186 ?_
          refine xtop (x' := nI jj) (by exact e10) ?_
          refine xaldN hx hb hG hP 19 rfl (jj) rfl (by omega) (by decide) dX2_answerOfDay_187 ?_
          refine lv_goto (tgt := 193) hx hb dX2_answerOfDay_188 (by decide) ?_
          exact xretM hx hb hr hlk dX2_answerOfDay_193 hS ⟨n, (dyS n fo we lo (sf j) u ct).1, ki, st, we, (dyS n fo we lo (sf j) u ct).2⟩ (by have e9 : firstV (dyX n fo we lo (sf j) u) ct = none := firstV_none hno; simp [ansD, e9, nIeq, c_20, c_93_0, c_93_1, c_93_2, c_93_3, c_93_4, c_172, hcl10]) (fun t ht => by rw [ht]; exact hP)
      ·
        replace c_20 := (not_congr (nI_leI (a := ct) (b := i) (by omega) (by omega))).mp c_20
        refine lv_aload_n hx hb dX2_answerOfDay_23 rfl (lv_at hl 2 rfl) ?_
        refine va_get (D := D) (ci := 2) (v := .ref (ad 15)) (C := RX2) (T := TX2) (N := 9) hx hb yX2 (fun _ h => h) hown hG.1 hP 0 rfl rfl 2 (by decide) f24 (fun _ h => h) rfl dX2_answerOfDay_24 ?_
        refine lv_aload_n hx hb dX2_answerOfDay_27 rfl (lv_at hl 3 rfl) ?_
        refine lv_iload_n hx hb dX2_answerOfDay_28 rfl (lv_at hl 4 rfl) ?_
        refine lv_iconst (v := nI 2) hx hb dX2_answerOfDay_29 (by decide) ?_
        refine lv_iload hx hb dX2_answerOfDay_30 (lv_at hl 0 rfl) ?_
        refine xmulN hx hb dX2_answerOfDay_32 ?_
        refine xaddN hx hb dX2_answerOfDay_33 ?_
        refine xrd (va_runV (As := [.int (nI (u + (2 * i)))]) (rest := [.ref (ad 15)]) hF (c_X1_atN l D cI cS (ad (2 + 2 * j)) (ad (3 + 2 * j)) (sh j) (sla j) (sle j) (sf j) (u + (2 * i)) (by first | assumption | omega) (by first | assumption | omega)) (cwV 1 hts gX2_answerOfDay_X1_at rfl rfl rfl hV_X1_at ⟨Nat.le_of_ble_eq_true rfl, Nat.le_of_ble_eq_true rfl⟩) (PR.preV hG (hP.sub (ws' := (wSheet cI (ad (2 + 2 * j)) (ad (3 + 2 * j)) (sh j) (sla j) (sle j) (sf j))) [2 + 2 * j, 3 + 2 * j] (wX_sub (j := j) (by omega))) (ci := 1) rfl rfl) rfl rfl hl.1 rfl (lv_room (Nat.le_of_ble_eq_true rfl)) dX2_answerOfDay_34 ⟨Nat.le_refl _, Nat.le_refl _⟩) ?_
        refine xtop (x' := nI (dA (sf j) u i)) (by exact (hok i (by omega)).1) ?_
        refine lv_aload_n hx hb dX2_answerOfDay_37 rfl (lv_at hl 3 rfl) ?_
        refine lv_iload_n hx hb dX2_answerOfDay_38 rfl (lv_at hl 4 rfl) ?_
        refine lv_iconst (v := nI 2) hx hb dX2_answerOfDay_39 (by decide) ?_
        refine lv_iload hx hb dX2_answerOfDay_40 (lv_at hl 0 rfl) ?_
        refine xmulN hx hb dX2_answerOfDay_42 ?_
        refine xaddN hx hb dX2_answerOfDay_43 ?_
        refine lv_iconst (v := nI 1) hx hb dX2_answerOfDay_44 (by decide) ?_
        refine xaddN hx hb dX2_answerOfDay_45 ?_
        refine xrd (va_runV (As := [.int (nI (u + (2 * i) + 1))]) (rest := [.int (nI (dA (sf j) u i)), .ref (ad 15)]) hF (c_X1_atN l D cI cS (ad (2 + 2 * j)) (ad (3 + 2 * j)) (sh j) (sla j) (sle j) (sf j) (u + (2 * i) + 1) (by first | assumption | omega) (by first | assumption | omega)) (cwV 1 hts gX2_answerOfDay_X1_at rfl rfl rfl hV_X1_at ⟨Nat.le_of_ble_eq_true rfl, Nat.le_of_ble_eq_true rfl⟩) (PR.preV hG (hP.sub (ws' := (wSheet cI (ad (2 + 2 * j)) (ad (3 + 2 * j)) (sh j) (sla j) (sle j) (sf j))) [2 + 2 * j, 3 + 2 * j] (wX_sub (j := j) (by omega))) (ci := 1) rfl rfl) rfl rfl hl.1 rfl (lv_room (Nat.le_of_ble_eq_true rfl)) dX2_answerOfDay_46 ⟨Nat.le_refl _, Nat.le_refl _⟩) ?_
        refine xtop (x' := nI (dB (sf j) u i)) (by exact (hok i (by omega)).2.1) ?_
        refine xmu (wc := (wRow cI (ad 15) (ad 16) (ad 17) (ad 18) (ad 19) n ((dyS n fo we lo (sf j) u i).1) ki st we ((dyS n fo we lo (sf j) u i).2))) (va_runV (As := [.int (nI (dA (sf j) u i)), .int (nI (dB (sf j) u i))]) (rest := []) hF (c_X0_acted l D cI cS (ad 15) (ad 16) (ad 17) (ad 18) (ad 19) n ((dyS n fo we lo (sf j) u i).1) ki st we ((dyS n fo we lo (sf j) u i).2) (dA (sf j) u i) (dB (sf j) u i) (hnd.sub [15, 16, 17, 18, 19] (by decide) rfl) (by first | assumption | omega) (by first | exact actF_lt hn hg1 (hok i (by omega)).2.2.1 (hok i (by omega)).2.2.2 | assumption) (by first | exact actL_le (hok i (by omega)).2.2.1 hg2 | assumption) (by first | assumption | omega) (by exact (hok i (by omega)).2.2.1) (by exact (hok i (by omega)).2.2.2)) (cwV 2 hts gX2_answerOfDay_X0_acted rfl rfl rfl hV_X0_acted ⟨Nat.le_of_ble_eq_true rfl, Nat.le_of_ble_eq_true rfl⟩) (PR.preV hG (hP.sub (ws' := (wRow cI (ad 15) (ad 16) (ad 17) (ad 18) (ad 19) n ((dyS n fo we lo (sf j) u i).1) ki st we ((dyS n fo we lo (sf j) u i).2))) [15, 16, 17, 18, 19] rfl) (ci := 0) rfl rfl) rfl rfl hl.1 rfl (lv_room (Nat.le_of_ble_eq_true rfl)) dX2_answerOfDay_49 ⟨Nat.le_refl _, Nat.le_refl _⟩) hP hD hS [15, 16, 17, 18, 19] rfl rfl (fun _ => rfl) (fun r_49 u_49 H locs q_49 hP hD hS => ?_)
        try dsimp only at q_49 hP hD
        have e_49 := q_49
        subst e_49
        have hP : va_P D vwCl (wX cI cS ad sh sla sle sf n fo ki st we lo n (actF n ((dyS n fo we lo (sf j) u i).1) (dA (sf j) u i) (dB (sf j) u i)) ki st we (actL n ((dyS n fo we lo (sf j) u i).1) we ((dyS n fo we lo (sf j) u i).2) (dA (sf j) u i) (dB (sf j) u i)) ti rc rv rd tr fa) H := hP
        have hD : va_D (AW (adX ad)) (wX cI cS ad sh sla sle sf n fo ki st we lo n (actF n ((dyS n fo we lo (sf j) u i).1) (dA (sf j) u i) (dB (sf j) u i)) ki st we (actL n ((dyS n fo we lo (sf j) u i).1) we ((dyS n fo we lo (sf j) u i).2) (dA (sf j) u i) (dB (sf j) u i)) ti rc rv rd tr fa) := hD
        refine lv_if_ne (tgt := 72) hx hb dX2_answerOfDay_52 (by decide) (fun c_52 => ?_) (fun c_52 => ?_)
        ·
          replace c_52 := bI_n0.mp c_52
          refine lv_aload_n hx hb dX2_answerOfDay_72 rfl (lv_at hl 2 rfl) ?_
          refine va_get (D := D) (ci := 2) (v := .ref (ad 15)) (C := RX2) (T := TX2) (N := 9) hx hb yX2 (fun _ h => h) hown hG.1 hP 0 rfl rfl 2 (by decide) f24 (fun _ h => h) rfl dX2_answerOfDay_73 ?_
          refine xrd (va_runV (As := []) (rest := []) hF (c_X0_isCarried l D cI cS (ad 15) (ad 16) (ad 17) (ad 18) (ad 19) n (actF n ((dyS n fo we lo (sf j) u i).1) (dA (sf j) u i) (dB (sf j) u i)) ki st we (actL n ((dyS n fo we lo (sf j) u i).1) we ((dyS n fo we lo (sf j) u i).2) (dA (sf j) u i) (dB (sf j) u i)) (by first | assumption | omega) (by first | exact actF_lt hn hg1 (hok i (by omega)).2.2.1 (hok i (by omega)).2.2.2 | assumption) (by first | assumption | omega) (by first | assumption | omega) (by first | assumption | omega) (by first | exact actL_le (hok i (by omega)).2.2.1 hg2 | assumption)) (cwV 0 hts gX2_answerOfDay_X0_isCarried rfl rfl rfl hV_X0_isCarried ⟨Nat.le_of_ble_eq_true rfl, Nat.le_of_ble_eq_true rfl⟩) (PR.preV hG (hP.sub (ws' := (wRow cI (ad 15) (ad 16) (ad 17) (ad 18) (ad 19) n (actF n ((dyS n fo we lo (sf j) u i).1) (dA (sf j) u i) (dB (sf j) u i)) ki st we (actL n ((dyS n fo we lo (sf j) u i).1) we ((dyS n fo we lo (sf j) u i).2) (dA (sf j) u i) (dB (sf j) u i)))) [15, 16, 17, 18, 19] rfl) (ci := 0) rfl rfl) rfl rfl hl.1 rfl (lv_room (Nat.le_of_ble_eq_true rfl)) dX2_answerOfDay_76 ⟨Nat.le_refl _, Nat.le_refl _⟩) ?_
          refine lv_if_eq (tgt := 85) hx hb dX2_answerOfDay_79 (by decide) (fun c_79 => ?_) (fun c_79 => ?_)
          ·
            replace c_79 := bI_0.mp c_79
            replace c_79 := of_decide_eq_false c_79
            refine lv_iinc (v := nI (i + 1)) (lv' := [(6, .int (nI (i + 1))), (5, .int (nI (cntN (dyC n fo ki st we lo (sf j) u) i))), (0, .ref (ad 0)), (1, .ref (ad (2 + 2 * j))), (2, .int (nI u)), (3, .int (nI ct)), (4, .int what)]) hx hb dX2_answerOfDay_85 hl (k := 0) rfl xinc1 (by decide) rfl (fun ls hl => ?_)
            refine lv_goto (tgt := 17) hx hb dX2_answerOfDay_88 (by decide) ?_
            exact ih (i + 1) (nI (cntN (dyC n fo ki st we lo (sf j) u) i)) (actF n ((dyS n fo we lo (sf j) u i).1) (dA (sf j) u i) (dB (sf j) u i)) (actL n ((dyS n fo we lo (sf j) u i).1) we ((dyS n fo we lo (sf j) u i).2) (dA (sf j) u i) (dB (sf j) u i)) (by rw [cnt_n (show dyC n fo ki st we lo (sf j) u i = false from decide_eq_false c_79)]) (by rfl) (by rfl) (by omega) (by intro v hv; rcases Nat.lt_succ_iff_lt_or_eq.mp hv with h9 | rfl; exact hno v h9; unfold dyX; rw [c_52]; rfl) (by omega) _ _ hP hD hS ls (lv_sub hl [0, 1, 2, 3, 4, 5, 6] rfl)
          ·
            replace c_79 := bI_n0.mp c_79
            replace c_79 := of_decide_eq_true c_79
            refine lv_iinc (v := nI (cntN (dyC n fo ki st we lo (sf j) u) i + 1)) (lv' := [(5, .int (nI (cntN (dyC n fo ki st we lo (sf j) u) i + 1))), (6, .int (nI i)), (0, .ref (ad 0)), (1, .ref (ad (2 + 2 * j))), (2, .int (nI u)), (3, .int (nI ct)), (4, .int what)]) hx hb dX2_answerOfDay_82 hl (k := 1) rfl xinc1 (by decide) rfl (fun ls hl => ?_)
            refine lv_iinc (v := nI (i + 1)) (lv' := [(6, .int (nI (i + 1))), (5, .int (nI (cntN (dyC n fo ki st we lo (sf j) u) i + 1))), (0, .ref (ad 0)), (1, .ref (ad (2 + 2 * j))), (2, .int (nI u)), (3, .int (nI ct)), (4, .int what)]) hx hb dX2_answerOfDay_85 hl (k := 1) rfl xinc1 (by decide) rfl (fun ls hl => ?_)
            refine lv_goto (tgt := 17) hx hb dX2_answerOfDay_88 (by decide) ?_
            exact ih (i + 1) (nI (cntN (dyC n fo ki st we lo (sf j) u) i + 1)) (actF n ((dyS n fo we lo (sf j) u i).1) (dA (sf j) u i) (dB (sf j) u i)) (actL n ((dyS n fo we lo (sf j) u i).1) we ((dyS n fo we lo (sf j) u i).2) (dA (sf j) u i) (dB (sf j) u i)) (by rw [cnt_y (show dyC n fo ki st we lo (sf j) u i = true from decide_eq_true c_79)]) (by rfl) (by rfl) (by omega) (by intro v hv; rcases Nat.lt_succ_iff_lt_or_eq.mp hv with h9 | rfl; exact hno v h9; unfold dyX; rw [c_52]; rfl) (by omega) _ _ hP hD hS ls (lv_sub hl [0, 1, 2, 3, 4, 5, 6] rfl)
        ·
          replace c_52 := bI_0.mp c_52
          refine lv_iload hx hb dX2_answerOfDay_55 (lv_at hl 6 rfl) ?_
          refine lv_iconst (v := nI 1) hx hb dX2_answerOfDay_57 (by decide) ?_
          refine lv_icmp_ne (tgt := 66) hx hb dX2_answerOfDay_58 (by decide) (fun c_58 => ?_) (fun c_58 => ?_)
          ·
            refine lv_bipush (v := (-100)) hx hb dX2_answerOfDay_66 (by decide) ?_
            refine lv_iload hx hb dX2_answerOfDay_68 (lv_at hl 0 rfl) ?_
            refine lv_isub hx hb dX2_answerOfDay_70 ?_
            exact xretM hx hb hr hlk dX2_answerOfDay_71 hS ⟨n, actF n ((dyS n fo we lo (sf j) u i).1) (dA (sf j) u i) (dB (sf j) u i), ki, st, we, actL n ((dyS n fo we lo (sf j) u i).1) we ((dyS n fo we lo (sf j) u i).2) (dA (sf j) u i) (dB (sf j) u i)⟩ (by have e9 : firstV (dyX n fo we lo (sf j) u) ct = some i := firstV_some hno (show dyX n fo we lo (sf j) u i = true from (by unfold dyX; rw [c_52]; rfl)) (by omega); simp [ansD, e9, c_20, c_52, c_58]) (fun t ht => by rw [ht]; exact hP)
          ·
            refine lv_iload hx hb dX2_answerOfDay_61 (lv_at hl 0 rfl) ?_
            refine lv_goto (tgt := 71) hx hb dX2_answerOfDay_63 (by decide) ?_
            exact xretM hx hb hr hlk dX2_answerOfDay_71 hS ⟨n, actF n ((dyS n fo we lo (sf j) u i).1) (dA (sf j) u i) (dB (sf j) u i), ki, st, we, actL n ((dyS n fo we lo (sf j) u i).1) we ((dyS n fo we lo (sf j) u i).2) (dA (sf j) u i) (dB (sf j) u i)⟩ (by have e9 : firstV (dyX n fo we lo (sf j) u) ct = some i := firstV_some hno (show dyX n fo we lo (sf j) u i = true from (by unfold dyX; rw [c_52]; rfl)) (by omega); simp [ansD, e9, c_20, c_52, c_58]) (fun t ht => by rw [ht]; exact hP)
  exact K17 _ 0 (nI 0) fo lo (by first | rfl | omega | (intro v hv; omega)) (by first | rfl | omega | (intro v hv; omega)) (by first | rfl | omega | (intro v hv; omega)) (by first | rfl | omega | (intro v hv; omega)) (by first | rfl | omega | (intro v hv; omega)) (Nat.lt_succ_self _) _ _ hP hD hS ls (lv_sub hl [0, 1, 2, 3, 4, 5, 6] rfl)

set_option maxHeartbeats 4000000 in
set_option maxRecDepth 100000 in
theorem c_X2_day (l : Launch) (D : va_G) (cI cS : ClassId) (ad : Nat → Nat) (sh : Nat → Bool) (sla : Nat → Nat) (sle : Nat → Nat) (sf : Nat → Nat → Int32) (n : Nat) (fo : Nat) (ki : Nat → Nat) (st : Nat → Nat) (we : Nat → Nat) (lo : Nat → Nat) (n2 : Nat) (go : Nat) (kj : Nat → Nat) (sj : Nat → Nat) (wj : Nat → Nat) (lj : Nat → Nat) (ti : Nat → Int32) (rc : Nat → Nat) (rv : Nat → Nat) (rd : Nat) (tr : Int32) (fa : Nat) (k : Int32) (la : Int32) (i : Int32) (ct : Int32) (what : Int32) (hnd : nd (adX ad)) (hn : n ≤ 8) (hfo : fo < 256) (hki : ∀ j, ki j ≤ 2) (hwe : ∀ j, we j ≤ 9) (hst : ∀ j, st j ≤ 3) (hlo : ∀ j, lo j ≤ 3) (hsla : ∀ j, sla j ≤ 2) (hsle : ∀ j, sle j ≤ 60) : Met l yX2_day wsX2_day ({ frames := 6, cells := 0, slots := 0, locals := 133 }) (PR D cI cS [.ref (ad 0), .int k, .int la, .int i, .int ct, .int what] (wX cI cS ad sh sla sle sf n fo ki st we lo n2 go kj sj wj lj ti rc rv rd tr fa)) (va_Qi (fun r (zz : Nat × Nat × (Nat → Nat) × (Nat → Nat) × (Nat → Nat) × (Nat → Nat)) => r = A_day sh sla sle sf n fo ki st we lo k la i ct what) (fun (zz : Nat × Nat × (Nat → Nat) × (Nat → Nat) × (Nat → Nat) × (Nat → Nat)) t => va_P D vwCl (wX cI cS ad sh sla sle sf n fo ki st we lo zz.1 zz.2.1 zz.2.2.1 zz.2.2.2.1 zz.2.2.2.2.1 zz.2.2.2.2.2 ti rc rv rd tr (S_day sh sla sle n k la i ct what)) t.heap) (AW (adX ad))) 0 0 (AW (adX ad)) := by
  refine startM (by decide) rfl (Nat.le_of_ble_eq_true rfl) hnd rfl ?_
  intro p e s m below meth c hx hb hr hts hown hlk hml hG hP hD hS ls hl
  have hl : lv_has ls 9 [(0, .ref (ad 0)), (1, .int k), (2, .int la), (3, .int i), (4, .int ct), (5, .int what)] := hl
  have f44 := hts (.fieldLink RX2 44 "ChairBallot" "latestFault" "I") (by decide +kernel)
  have yX2 : ∀ w ∈ u_ws RX2 TX2 9, w.before _ s = true := fun w h => hts w ((by decide +kernel : ∀ w ∈ wsX20, w ∈ wsX2_day) w h)
  have hF : CallFix p m c cX2_day 9 s _ wsX2_day RX2 := ⟨hx, hb, hml, hown, hts⟩
  refine lv_aload_n hx hb dX2_day_0 rfl (lv_at hl 0 rfl) ?_
  refine lv_iconst (v := nI 0) hx hb dX2_day_1 (by decide) ?_
  refine va_put (D := D) (ci := 2) (v := .int (nI 0)) (ty := .int) (C := RX2) (T := TX2) (N := 9) hx hb yX2 (fun _ h => h) tyX2 tyX2_ok nmX2 hown hG.1 hP hD hS 0 rfl rfl 8 (by decide) f44 (fun _ h => h) rfl (by decide +kernel) rfl rfl (Nat.le_of_ble_eq_true rfl) dX2_day_2 (fun H locs hP hD hS => ?_)
  have hP : va_P D vwCl (wX cI cS ad sh sla sle sf n fo ki st we lo n2 go kj sj wj lj ti rc rv rd tr 0) H := hP
  have hD : va_D (AW (adX ad)) (wX cI cS ad sh sla sle sf n fo ki st we lo n2 go kj sj wj lj ti rc rv rd tr 0) := hD
  refine lv_aload_n hx hb dX2_day_5 rfl (lv_at hl 0 rfl) ?_
  refine lv_iload_n hx hb dX2_day_6 rfl (lv_at hl 1 rfl) ?_
  rcases b_tf (rgB 0 3 k) with hkk | hkk
  ·
    refine xrda (va_runV (As := [.int k]) (rest := []) hF (c_X2_sheetAtN l D cI cS ad sh sla sle sf n fo ki st we lo n2 go kj sj wj lj ti rc rv rd tr 0 k (by first | assumption | omega)) (cwV 1 hts gX2_day_X2_sheetAt rfl rfl rfl hV_X2_sheetAt ⟨Nat.le_of_ble_eq_true rfl, Nat.le_of_ble_eq_true rfl⟩) (PR.preV hG hP (ci := 2) rfl rfl) rfl rfl hl.1 rfl (lv_room (Nat.le_of_ble_eq_true rfl)) dX2_day_7 ⟨Nat.le_refl _, Nat.le_refl _⟩) ?_
    refine lv_astoreN (lv' := [(6, .null), (0, .ref (ad 0)), (1, .int k), (2, .int la), (3, .int i), (4, .int ct), (5, .int what)]) hx hb dX2_day_10 hl (by decide) rfl (fun ls hl => ?_)
    refine lv_aloadN hx hb dX2_day_12 (lv_at hl 0 rfl) ?_
    refine lv_ifnonnullN hx hb dX2_day_14 ?_
    refine lv_iconst (v := (-1)) hx hb dX2_day_17 (by decide) ?_
    exact xretM hx hb hr hlk dX2_day_18 hS ⟨n2, go, kj, sj, wj, lj⟩ (by simp [A_day, nI0, hkk]) (fun t ht => by rw [ht]; rw [show S_day sh sla sle n k la i ct what = 0 from by simp [S_day, hkk]]; exact hP)
  ·
    obtain ⟨j, hj0, hj3, rfl⟩ := rgB_nat (by decide) hkk
    have hclj := cl8 (j := j) (by omega)
    have hsj := hsle j
    have hsaj := hsla j
    refine xrda (va_runV (As := [.int (nI j)]) (rest := []) hF (c_X2_sheetAt l D cI cS ad sh sla sle sf n fo ki st we lo n2 go kj sj wj lj ti rc rv rd tr 0 j (by first | assumption | omega)) (cwV 1 hts gX2_day_X2_sheetAt rfl rfl rfl hV_X2_sheetAt ⟨Nat.le_of_ble_eq_true rfl, Nat.le_of_ble_eq_true rfl⟩) (PR.preV hG hP (ci := 2) rfl rfl) rfl rfl hl.1 rfl (lv_room (Nat.le_of_ble_eq_true rfl)) dX2_day_7 ⟨Nat.le_refl _, Nat.le_refl _⟩) ?_
    refine lv_astore (lv' := [(6, .ref (ad (2 + 2 * j))), (0, .ref (ad 0)), (1, .int (nI j)), (2, .int la), (3, .int i), (4, .int ct), (5, .int what)]) hx hb dX2_day_10 hl (by decide) rfl (fun ls hl => ?_)
    refine lv_aload hx hb dX2_day_12 (lv_at hl 0 rfl) ?_
    refine lv_ifnonnull (tgt := 19) hx hb dX2_day_14 (by decide) ?_
    refine lv_iload_n hx hb dX2_day_19 rfl (lv_at hl 3 rfl) ?_
    refine xrd (va_runS (As := [.int la]) (rest := []) hF (c_X2_isLane l D cI cS la ) (va_cwS 1 hts gX2_day_X2_isLane rfl rfl rfl hD_X2_isLane ⟨Nat.le_of_ble_eq_true rfl, Nat.le_of_ble_eq_true rfl⟩) (PR.pre hG (hP.sub (ws' := []) [] rfl)) rfl rfl hl.1 rfl (lv_room (Nat.le_of_ble_eq_true rfl)) dX2_day_20 ⟨Nat.le_refl _, Nat.le_refl _⟩) ?_
    refine lv_if_eq (tgt := 46) hx hb dX2_day_23 (by decide) (fun c_23 => ?_) (fun c_23 => ?_)
    ·
      replace c_23 := bI_0.mp c_23
      refine lv_bipush (v := (-2)) hx hb dX2_day_46 (by decide) ?_
      exact xretM hx hb hr hlk dX2_day_48 hS ⟨n2, go, kj, sj, wj, lj⟩ (by simp [A_day, nI0, hkk, hclj, c_23]) (fun t ht => by rw [ht]; rw [show S_day sh sla sle n (nI j) la i ct what = 0 from by simp [S_day, hkk, hclj, c_23]]; exact hP)
    ·
      replace c_23 := bI_n0.mp c_23
      obtain ⟨w, hw0, hw1, rfl⟩ := rgB_nat (by decide) c_23
      have hclw := cl8 (j := w) (by omega)
      refine lv_iload hx hb dX2_day_26 (lv_at hl 5 rfl) ?_
      refine lv_if_lt (tgt := 46) hx hb dX2_day_28 (by decide) (fun c_28 => ?_) (fun c_28 => ?_)
      ·
        replace c_28 : ct.toInt < 0 := (i32_ltc (b := 0) (by omega)).mp c_28
        have hz20 : rgB 0 20 ct = false := by first | exact rgB_n1 (by omega) | exact rgB_n2 (by omega)
        refine lv_bipush (v := (-2)) hx hb dX2_day_46 (by decide) ?_
        exact xretM hx hb hr hlk dX2_day_48 hS ⟨n2, go, kj, sj, wj, lj⟩ (by simp [A_day, nI0, hkk, hclj, c_23, hclw, c_28, hz20]) (fun t ht => by rw [ht]; rw [show S_day sh sla sle n (nI j) (nI w) i ct what = 0 from by simp [S_day, hkk, hclj, c_23, hclw, c_28, hz20]]; exact hP)
      ·
        replace c_28 : ¬ ct.toInt < 0 := (not_congr (i32_ltc (b := 0) (by omega))).mp c_28
        refine lv_iload hx hb dX2_day_31 (lv_at hl 5 rfl) ?_
        refine lv_bipush (v := nI 20) hx hb dX2_day_33 (by decide) ?_
        refine lv_icmp_gt (tgt := 46) hx hb dX2_day_35 (by decide) (fun c_35 => ?_) (fun c_35 => ?_)
        ·
          replace c_35 : 20 < ct.toInt := (i32_gtc (b := 20) (by omega)).mp c_35
          have hz20 : rgB 0 20 ct = false := by first | exact rgB_n1 (by omega) | exact rgB_n2 (by omega)
          refine lv_bipush (v := (-2)) hx hb dX2_day_46 (by decide) ?_
          exact xretM hx hb hr hlk dX2_day_48 hS ⟨n2, go, kj, sj, wj, lj⟩ (by simp [A_day, nI0, hkk, hclj, c_23, hclw, c_28, c_35, hz20]) (fun t ht => by rw [ht]; rw [show S_day sh sla sle n (nI j) (nI w) i ct what = 0 from by simp [S_day, hkk, hclj, c_23, hclw, c_28, c_35, hz20]]; exact hP)
        ·
          replace c_35 : ¬ 20 < ct.toInt := (not_congr (i32_gtc (b := 20) (by omega))).mp c_35
          refine lv_iload hx hb dX2_day_38 (lv_at hl 6 rfl) ?_
          refine xrd (va_runS (As := [.int what]) (rest := []) hF (c_X2_isAskedOfDay l D cI cS what ) (va_cwS 1 hts gX2_day_X2_isAskedOfDay rfl rfl rfl hD_X2_isAskedOfDay ⟨Nat.le_of_ble_eq_true rfl, Nat.le_of_ble_eq_true rfl⟩) (PR.pre hG (hP.sub (ws' := []) [] rfl)) rfl rfl hl.1 rfl (lv_room (Nat.le_of_ble_eq_true rfl)) dX2_day_40 ⟨Nat.le_refl _, Nat.le_refl _⟩) ?_
          refine lv_if_ne (tgt := 49) hx hb dX2_day_43 (by decide) (fun c_43 => ?_) (fun c_43 => ?_)
          ·
            replace c_43 := bI_n0.mp c_43
            have hz20 : rgB 0 20 ct = true := rgB_y (by omega) (by omega)
            obtain ⟨cc, hcc0, hcc1, rfl⟩ := rgB_nat (by decide) hz20
            have hclc := cl8 (j := cc) (by omega)
            have hfl := flt_le (sh j) (sla j) w
            refine lv_aload_n hx hb dX2_day_49 rfl (lv_at hl 1 rfl) ?_
            refine xrd (va_runV (As := []) (rest := []) hF (c_X2_hasFront l D cI cS ad sh sla sle sf n fo ki st we lo n2 go kj sj wj lj ti rc rv rd tr 0 (by first | assumption | omega)) (cwV 0 hts gX2_day_X2_hasFront rfl rfl rfl hV_X2_hasFront ⟨Nat.le_of_ble_eq_true rfl, Nat.le_of_ble_eq_true rfl⟩) (PR.preV hG hP (ci := 2) rfl rfl) rfl rfl hl.1 rfl (lv_room (Nat.le_of_ble_eq_true rfl)) dX2_day_50 ⟨Nat.le_refl _, Nat.le_refl _⟩) ?_
            refine lv_if_ne (tgt := 59) hx hb dX2_day_53 (by decide) (fun c_53 => ?_) (fun c_53 => ?_)
            ·
              replace c_53 := bI_n0.mp c_53
              replace c_53 := of_decide_eq_true c_53
              have hn0 : ¬ n = 0 := by omega
              refine lv_aload hx hb dX2_day_59 (lv_at hl 0 rfl) ?_
              refine lv_iload_n hx hb dX2_day_61 rfl (lv_at hl 3 rfl) ?_
              refine xrd (va_runV (As := [.int (nI w)]) (rest := []) hF (c_X1_faultAs l D cI cS (ad (2 + 2 * j)) (ad (3 + 2 * j)) (sh j) (sla j) (sle j) (sf j) w (by first | assumption | omega) (by first | assumption | omega)) (cwV 1 hts gX2_day_X1_faultAs rfl rfl rfl hV_X1_faultAs ⟨Nat.le_of_ble_eq_true rfl, Nat.le_of_ble_eq_true rfl⟩) (PR.preV hG (hP.sub (ws' := (wSheet cI (ad (2 + 2 * j)) (ad (3 + 2 * j)) (sh j) (sla j) (sle j) (sf j))) [2 + 2 * j, 3 + 2 * j] (wX_sub (j := j) (by omega))) (ci := 1) rfl rfl) rfl rfl hl.1 rfl (lv_room (Nat.le_of_ble_eq_true rfl)) dX2_day_62 ⟨Nat.le_refl _, Nat.le_refl _⟩) ?_
              refine lv_istore (lv' := [(7, .int (nI (fltN (sh j) (sla j) w))), (6, .ref (ad (2 + 2 * j))), (0, .ref (ad 0)), (1, .int (nI j)), (2, .int (nI w)), (3, .int i), (4, .int (nI cc)), (5, .int what)]) hx hb dX2_day_65 hl (by decide) rfl (fun ls hl => ?_)
              refine lv_iload hx hb dX2_day_67 (lv_at hl 0 rfl) ?_
              refine lv_if_eq (tgt := 79) hx hb dX2_day_69 (by decide) (fun c_69 => ?_) (fun c_69 => ?_)
              ·
                replace c_69 := (nI_eq (a := fltN (sh j) (sla j) w) (b := 0) (by omega) (by omega)).mp c_69
                refine lv_aload hx hb dX2_day_79 (lv_at hl 1 rfl) ?_
                refine lv_iload_n hx hb dX2_day_81 rfl (lv_at hl 5 rfl) ?_
                refine lv_iconst (v := nI 2) hx hb dX2_day_82 (by decide) ?_
                refine lv_iload hx hb dX2_day_83 (lv_at hl 6 rfl) ?_
                refine xmulN hx hb dX2_day_85 ?_
                refine xrd (va_runV (As := [.int i, .int (nI (2 * cc))]) (rest := []) hF (c_X1_holds l D cI cS (ad (2 + 2 * j)) (ad (3 + 2 * j)) (sh j) (sla j) (sle j) (sf j) i (nI (2 * cc)) (by first | assumption | omega)) (cwV 2 hts gX2_day_X1_holds rfl rfl rfl hV_X1_holds ⟨Nat.le_of_ble_eq_true rfl, Nat.le_of_ble_eq_true rfl⟩) (PR.preV hG (hP.sub (ws' := (wSheet cI (ad (2 + 2 * j)) (ad (3 + 2 * j)) (sh j) (sla j) (sle j) (sf j))) [2 + 2 * j, 3 + 2 * j] (wX_sub (j := j) (by omega))) (ci := 1) rfl rfl) rfl rfl hl.1 rfl (lv_room (Nat.le_of_ble_eq_true rfl)) dX2_day_86 ⟨Nat.le_refl _, Nat.le_refl _⟩) ?_
                refine lv_if_ne (tgt := 98) hx hb dX2_day_89 (by decide) (fun c_89 => ?_) (fun c_89 => ?_)
                ·
                  replace c_89 := bI_n0.mp c_89
                  obtain ⟨u, hu, rfl⟩ := hldB_nat2 (by omega) c_89
                  have hclu := cl8 (j := u) (by omega)
                  refine lv_aload_n hx hb dX2_day_98 rfl (lv_at hl 2 rfl) ?_
                  refine lv_aload hx hb dX2_day_99 (lv_at hl 1 rfl) ?_
                  refine lv_iload_n hx hb dX2_day_101 rfl (lv_at hl 5 rfl) ?_
                  refine lv_iload hx hb dX2_day_102 (lv_at hl 6 rfl) ?_
                  refine xrd (va_runV (As := [.ref (ad (2 + 2 * j)), .int (nI u), .int (nI cc)]) (rest := []) hF (c_X2_refusalOfPairs l D cI cS ad sh sla sle sf n fo ki st we lo n2 go kj sj wj lj ti rc rv rd tr 0 j u cc (by first | assumption | omega) (by first | assumption | omega) (by first | assumption | omega) (by first | assumption | omega) (by first | assumption | omega)) (cwV 3 hts gX2_day_X2_refusalOfPairs rfl rfl rfl hV_X2_refusalOfPairs ⟨Nat.le_of_ble_eq_true rfl, Nat.le_of_ble_eq_true rfl⟩) (PR.preV hG hP (ci := 2) rfl rfl) rfl rfl hl.1 rfl (lv_room (Nat.le_of_ble_eq_true rfl)) dX2_day_104 ⟨Nat.le_refl _, Nat.le_refl _⟩) ?_
                  refine lv_istore (lv' := [(8, .int (firstR (refD n (sf j) u) cc)), (7, .int (nI (fltN (sh j) (sla j) w))), (6, .ref (ad (2 + 2 * j))), (0, .ref (ad 0)), (1, .int (nI j)), (2, .int (nI w)), (3, .int (nI u)), (4, .int (nI cc)), (5, .int what)]) hx hb dX2_day_107 hl (by decide) rfl (fun ls hl => ?_)
                  refine lv_iload hx hb dX2_day_109 (lv_at hl 0 rfl) ?_
                  refine lv_if_eq (tgt := 117) hx hb dX2_day_111 (by decide) (fun c_111 => ?_) (fun c_111 => ?_)
                  ·
                    refine lv_aload_n hx hb dX2_day_117 rfl (lv_at hl 3 rfl) ?_
                    refine lv_aload hx hb dX2_day_118 (lv_at hl 2 rfl) ?_
                    refine lv_iload_n hx hb dX2_day_120 rfl (lv_at hl 6 rfl) ?_
                    refine lv_iload hx hb dX2_day_121 (lv_at hl 7 rfl) ?_
                    refine lv_iload hx hb dX2_day_123 (lv_at hl 8 rfl) ?_
                    refine xmuW (va_runV (As := [.ref (ad (2 + 2 * j)), .int (nI u), .int (nI cc), .int what]) (rest := []) hF (c_X2_answerOfDay l D cI cS ad sh sla sle sf n fo ki st we lo n2 go kj sj wj lj ti rc rv rd tr 0 j u cc what hnd (by first | assumption | omega) (by first | assumption | omega) (by first | assumption | omega) (by first | assumption | omega) (by first | assumption | omega) (by first | assumption | omega) (by first | assumption | omega) (by first | assumption | omega) (by first | assumption | omega) (by first | assumption | omega) (by exact day_ok hn c_111)) (cwV 4 hts gX2_day_X2_answerOfDay rfl rfl rfl hV_X2_answerOfDay ⟨Nat.le_of_ble_eq_true rfl, Nat.le_of_ble_eq_true rfl⟩) (PR.preV hG hP (ci := 2) rfl rfl) rfl rfl hl.1 rfl (lv_room (Nat.le_of_ble_eq_true rfl)) dX2_day_125 ⟨Nat.le_refl _, Nat.le_refl _⟩) hD hS rfl (fun _ => rfl) (fun r_125 u_125 H locs q_125 hP hD hS => ?_)
                    obtain ⟨n20_125, go0_125, kj0_125, sj0_125, wj0_125, lj0_125⟩ := u_125
                    try dsimp only at q_125 hP hD
                    have e_125 := q_125
                    subst e_125
                    have hP : va_P D vwCl (wX cI cS ad sh sla sle sf n fo ki st we lo n20_125 go0_125 kj0_125 sj0_125 wj0_125 lj0_125 ti rc rv rd tr 0) H := hP
                    have hD : va_D (AW (adX ad)) (wX cI cS ad sh sla sle sf n fo ki st we lo n20_125 go0_125 kj0_125 sj0_125 wj0_125 lj0_125 ti rc rv rd tr 0) := hD
                    exact xretM hx hb hr hlk dX2_day_128 hS ⟨n20_125, go0_125, kj0_125, sj0_125, wj0_125, lj0_125⟩ (by simp [A_day, nI0, hkk, hclj, c_23, hclw, c_28, c_35, c_43, hz20, hclc, c_53, hn0, c_69, c_89, hclu, c_111]) (fun t ht => by rw [ht]; rw [show S_day sh sla sle n (nI j) (nI w) (nI u) (nI cc) what = 0 from by simp [S_day, hkk, hclj, c_23, hclw, c_28, c_35, c_43, hz20, hclc, c_53, hn0, c_69, c_89, hclu, c_111]]; exact hP)
                  ·
                    refine lv_iload hx hb dX2_day_114 (lv_at hl 0 rfl) ?_
                    exact xretM hx hb hr hlk dX2_day_116 hS ⟨n2, go, kj, sj, wj, lj⟩ (by simp [A_day, nI0, hkk, hclj, c_23, hclw, c_28, c_35, c_43, hz20, hclc, c_53, hn0, c_69, c_89, hclu, c_111]) (fun t ht => by rw [ht]; rw [show S_day sh sla sle n (nI j) (nI w) (nI u) (nI cc) what = 0 from by simp [S_day, hkk, hclj, c_23, hclw, c_28, c_35, c_43, hz20, hclc, c_53, hn0, c_69, c_89, hclu, c_111]]; exact hP)
                ·
                  replace c_89 := bI_0.mp c_89
                  refine lv_aload_n hx hb dX2_day_92 rfl (lv_at hl 2 rfl) ?_
                  refine lv_iconst (v := nI 3) hx hb dX2_day_93 (by decide) ?_
                  refine xmuW (va_runV (As := [.int (nI 3)]) (rest := []) hF (c_X2_faulted l D cI cS ad sh sla sle sf n fo ki st we lo n2 go kj sj wj lj ti rc rv rd tr 0 3 hnd) (cwV 1 hts gX2_day_X2_faulted rfl rfl rfl hV_X2_faulted ⟨Nat.le_of_ble_eq_true rfl, Nat.le_of_ble_eq_true rfl⟩) (PR.preV hG hP (ci := 2) rfl rfl) rfl rfl hl.1 rfl (lv_room (Nat.le_of_ble_eq_true rfl)) dX2_day_94 ⟨Nat.le_refl _, Nat.le_refl _⟩) hD hS rfl (fun _ => rfl) (fun r_94 u_94 H locs q_94 hP hD hS => ?_)
                  try dsimp only at q_94 hP hD
                  have e_94 := q_94
                  subst e_94
                  have hP : va_P D vwCl (wX cI cS ad sh sla sle sf n fo ki st we lo n2 go kj sj wj lj ti rc rv rd tr 3) H := hP
                  have hD : va_D (AW (adX ad)) (wX cI cS ad sh sla sle sf n fo ki st we lo n2 go kj sj wj lj ti rc rv rd tr 3) := hD
                  exact xretM hx hb hr hlk dX2_day_97 hS ⟨n2, go, kj, sj, wj, lj⟩ (by simp [A_day, nI0, hkk, hclj, c_23, hclw, c_28, c_35, c_43, hz20, hclc, c_53, hn0, c_69, c_89]) (fun t ht => by rw [ht]; rw [show S_day sh sla sle n (nI j) (nI w) i (nI cc) what = 3 from by simp [S_day, hkk, hclj, c_23, hclw, c_28, c_35, c_43, hz20, hclc, c_53, hn0, c_69, c_89]]; exact hP)
              ·
                replace c_69 := (not_congr (nI_eq (a := fltN (sh j) (sla j) w) (b := 0) (by omega) (by omega))).mp c_69
                refine lv_aload_n hx hb dX2_day_72 rfl (lv_at hl 2 rfl) ?_
                refine lv_iload hx hb dX2_day_73 (lv_at hl 0 rfl) ?_
                refine xmuW (va_runV (As := [.int (nI (fltN (sh j) (sla j) w))]) (rest := []) hF (c_X2_faulted l D cI cS ad sh sla sle sf n fo ki st we lo n2 go kj sj wj lj ti rc rv rd tr 0 (fltN (sh j) (sla j) w) hnd) (cwV 1 hts gX2_day_X2_faulted rfl rfl rfl hV_X2_faulted ⟨Nat.le_of_ble_eq_true rfl, Nat.le_of_ble_eq_true rfl⟩) (PR.preV hG hP (ci := 2) rfl rfl) rfl rfl hl.1 rfl (lv_room (Nat.le_of_ble_eq_true rfl)) dX2_day_75 ⟨Nat.le_refl _, Nat.le_refl _⟩) hD hS rfl (fun _ => rfl) (fun r_75 u_75 H locs q_75 hP hD hS => ?_)
                try dsimp only at q_75 hP hD
                have e_75 := q_75
                subst e_75
                have hP : va_P D vwCl (wX cI cS ad sh sla sle sf n fo ki st we lo n2 go kj sj wj lj ti rc rv rd tr (fltN (sh j) (sla j) w)) H := hP
                have hD : va_D (AW (adX ad)) (wX cI cS ad sh sla sle sf n fo ki st we lo n2 go kj sj wj lj ti rc rv rd tr (fltN (sh j) (sla j) w)) := hD
                exact xretM hx hb hr hlk dX2_day_78 hS ⟨n2, go, kj, sj, wj, lj⟩ (by simp [A_day, nI0, hkk, hclj, c_23, hclw, c_28, c_35, c_43, hz20, hclc, c_53, hn0, c_69]) (fun t ht => by rw [ht]; rw [show S_day sh sla sle n (nI j) (nI w) i (nI cc) what = (fltN (sh j) (sla j) w) from by simp [S_day, hkk, hclj, c_23, hclw, c_28, c_35, c_43, hz20, hclc, c_53, hn0, c_69]]; exact hP)
            ·
              replace c_53 := bI_0.mp c_53
              replace c_53 := of_decide_eq_false c_53
              have hn0 : n = 0 := by omega
              refine lv_bipush (v := (-3)) hx hb dX2_day_56 (by decide) ?_
              exact xretM hx hb hr hlk dX2_day_58 hS ⟨n2, go, kj, sj, wj, lj⟩ (by simp [A_day, nI0, hkk, hclj, c_23, hclw, c_28, c_35, c_43, hz20, hclc, c_53, hn0]) (fun t ht => by rw [ht]; rw [show S_day sh sla sle n (nI j) (nI w) i (nI cc) what = 0 from by simp [S_day, hkk, hclj, c_23, hclw, c_28, c_35, c_43, hz20, hclc, c_53, hn0]]; exact hP)
          ·
            replace c_43 := bI_0.mp c_43
            refine lv_bipush (v := (-2)) hx hb dX2_day_46 (by decide) ?_
            exact xretM hx hb hr hlk dX2_day_48 hS ⟨n2, go, kj, sj, wj, lj⟩ (by simp [A_day, nI0, hkk, hclj, c_23, hclw, c_28, c_35, c_43]) (fun t ht => by rw [ht]; rw [show S_day sh sla sle n (nI j) (nI w) i ct what = 0 from by simp [S_day, hkk, hclj, c_23, hclw, c_28, c_35, c_43]]; exact hP)

set_option maxHeartbeats 4000000 in
set_option maxRecDepth 100000 in
theorem c_X2_kindOf (l : Launch) (D : va_G) (cI cS : ClassId) (v : Int32)  : Met l yX2_kindOf wsX2_kindOf ({ frames := 0, cells := 0, slots := 0, locals := 0 }) (PR D cI cS [.int v] []) (vp_Si (fun r => r = kdF v)) 0 0 (fun _ => False) := by
  refine startR (by decide) rfl (Nat.le_of_ble_eq_true rfl) ?_
  intro p e s m below meth c hx hb hr hts hown hlk hml hG hP ls hl
  have hl : lv_has ls 1 [(0, .int v)] := hl
  have hF : CallFix p m c cX2_kindOf 1 s _ wsX2_kindOf RX2 := ⟨hx, hb, hml, hown, hts⟩
  refine lv_iload_n hx hb dX2_kindOf_0 rfl (lv_at hl 0 rfl) ?_
  by_cases c_1_98 : v = nI 98
  ·
    refine lv_lookup (off := 39) (tgt := 40) hx hb dX2_kindOf_1 (by decide) (by rw [c_1_98]; decide) (by decide) ?_
    refine lv_iconst (v := nI 2) hx hb dX2_kindOf_40 (by decide) ?_
    exact xretR hx hb hr hlk dX2_kindOf_41 (by simp [kdF, nIeq, c_1_98])
  by_cases c_1_112 : v = nI 112
  ·
    refine lv_lookup (off := 35) (tgt := 36) hx hb dX2_kindOf_1 (by decide) (by rw [c_1_112]; decide) (by decide) ?_
    refine lv_iconst (v := nI 0) hx hb dX2_kindOf_36 (by decide) ?_
    exact xretR hx hb hr hlk dX2_kindOf_37 (by simp [kdF, nIeq, c_1_112])
  by_cases c_1_115 : v = nI 115
  ·
    refine lv_lookup (off := 37) (tgt := 38) hx hb dX2_kindOf_1 (by decide) (by rw [c_1_115]; decide) (by decide) ?_
    refine lv_iconst (v := nI 1) hx hb dX2_kindOf_38 (by decide) ?_
    exact xretR hx hb hr hlk dX2_kindOf_39 (by simp [kdF, nIeq, c_1_115])
  refine lv_lookup (off := 41) (tgt := 42) hx hb dX2_kindOf_1 (by decide) (by show Op.lookupswitch.offset [(98, 39), (112, 35), (115, 37)] 41 _ = _; rw [lv_osw (k := nI 98) c_1_98 (by decide)]; rw [lv_osw (k := nI 112) c_1_112 (by decide)]; rw [lv_osw (k := nI 115) c_1_115 (by decide)]; rfl) (by decide) ?_
  refine lv_bipush (v := (-9)) hx hb dX2_kindOf_42 (by decide) ?_
  exact xretR hx hb hr hlk dX2_kindOf_44 (by simp [kdF, nIeq, c_1_98, c_1_112, c_1_115])

set_option maxHeartbeats 4000000 in
set_option maxRecDepth 100000 in
theorem c_X2_goesOn (l : Launch) (D : va_G) (cI cS : ClassId) (p0 : Nat) (v : Int32) (hp0 : p0 ≤ 60) : Met l yX2_goesOn wsX2_goesOn ({ frames := 1, cells := 0, slots := 0, locals := 20 }) (PR D cI cS [.int (nI p0), .int v] []) (vp_Si (fun r => r = bI (gonB p0 v))) 0 0 (fun _ => False) := by
  refine startR (by decide) rfl (Nat.le_of_ble_eq_true rfl) ?_
  intro p e s m below meth c hx hb hr hts hown hlk hml hG hP ls hl
  have hl : lv_has ls 2 [(0, .int (nI p0)), (1, .int v)] := hl
  have hF : CallFix p m c cX2_goesOn 2 s _ wsX2_goesOn RX2 := ⟨hx, hb, hml, hown, hts⟩
  refine lv_iload_n hx hb dX2_goesOn_0 rfl (lv_at hl 0 rfl) ?_
  refine lv_if_ne (tgt := 16) hx hb dX2_goesOn_1 (by decide) (fun c_1 => ?_) (fun c_1 => ?_)
  ·
    replace c_1 := (not_congr (nI_eq (a := p0) (b := 0) (by omega) (by omega))).mp c_1
    refine lv_iload_n hx hb dX2_goesOn_16 rfl (lv_at hl 0 rfl) ?_
    refine lv_bipush (v := nI 40) hx hb dX2_goesOn_17 (by decide) ?_
    refine lv_icmp_le (tgt := 24) hx hb dX2_goesOn_19 (by decide) (fun c_19 => ?_) (fun c_19 => ?_)
    ·
      replace c_19 := (nI_leI (a := p0) (b := 40) (by omega) (by omega)).mp c_19
      have h40 : ¬ 40 < p0 := by omega
      refine lv_iload_n hx hb dX2_goesOn_24 rfl (lv_at hl 0 rfl) ?_
      refine lv_iconst (v := nI 1) hx hb dX2_goesOn_25 (by decide) ?_
      refine xsubN (x := p0) (y := 1) hx hb (by omega) dX2_goesOn_26 ?_
      refine lv_iconst (v := nI 5) hx hb dX2_goesOn_27 (by decide) ?_
      refine xremN (x := p0 - 1) (y := 5) (by omega) (by omega) (by omega) hx hb dX2_goesOn_28 ?_
      by_cases c_29_0 : (p0 - 1) % 5 = 0
      ·
        refine lv_tableIn (off := 31) (tgt := 60) hx hb dX2_goesOn_29 (by rw [c_29_0]; decide) (by rw [c_29_0]; decide) (by rw [c_29_0]; decide) (by decide) ?_
        refine lv_iload_n hx hb dX2_goesOn_60 rfl (lv_at hl 1 rfl) ?_
        refine lv_bipush (v := nI 59) hx hb dX2_goesOn_61 (by decide) ?_
        refine lv_icmp_ne (tgt := 70) hx hb dX2_goesOn_63 (by decide) (fun c_63 => ?_) (fun c_63 => ?_)
        ·
          refine lv_iconst (v := nI 0) hx hb dX2_goesOn_70 (by decide) ?_
          exact xretRz hx hb hr hlk dX2_goesOn_71 (false) rfl (by rw [show gonB p0 v = false from by simp [gonB, c_1, c_19, h40, c_29_0, c_63]]; rfl)
        ·
          refine lv_iconst (v := nI 1) hx hb dX2_goesOn_66 (by decide) ?_
          refine lv_goto (tgt := 71) hx hb dX2_goesOn_67 (by decide) ?_
          exact xretRz hx hb hr hlk dX2_goesOn_71 (true) rfl (by rw [show gonB p0 v = true from by simp [gonB, c_1, c_19, h40, c_29_0, c_63]]; rfl)
      by_cases c_29_1 : (p0 - 1) % 5 = 1
      ·
        refine lv_tableIn (off := 43) (tgt := 72) hx hb dX2_goesOn_29 (by rw [c_29_1]; decide) (by rw [c_29_1]; decide) (by rw [c_29_1]; decide) (by decide) ?_
        refine lv_iload_n hx hb dX2_goesOn_72 rfl (lv_at hl 1 rfl) ?_
        refine xrd (va_runS (As := [.int v]) (rest := []) hF (c_X2_kindOf l D cI cS v ) (va_cwS 1 hts gX2_goesOn_X2_kindOf rfl rfl rfl hD_X2_kindOf ⟨Nat.le_of_ble_eq_true rfl, Nat.le_of_ble_eq_true rfl⟩) (PR.pre hG (hP.sub (ws' := []) [] rfl)) rfl rfl hl.1 rfl (lv_room (Nat.le_of_ble_eq_true rfl)) dX2_goesOn_73 ⟨Nat.le_refl _, Nat.le_refl _⟩) ?_
        refine lv_bipush (v := (-9)) hx hb dX2_goesOn_76 (by decide) ?_
        refine lv_icmp_eq (tgt := 85) hx hb dX2_goesOn_78 (by decide) (fun c_78 => ?_) (fun c_78 => ?_)
        ·
          refine lv_iconst (v := nI 0) hx hb dX2_goesOn_85 (by decide) ?_
          exact xretRz hx hb hr hlk dX2_goesOn_86 (false) rfl (by rw [show gonB p0 v = false from by simp [gonB, c_1, c_19, h40, c_29_1, c_78]]; rfl)
        ·
          refine lv_iconst (v := nI 1) hx hb dX2_goesOn_81 (by decide) ?_
          refine lv_goto (tgt := 86) hx hb dX2_goesOn_82 (by decide) ?_
          exact xretRz hx hb hr hlk dX2_goesOn_86 (true) rfl (by rw [show gonB p0 v = true from by simp [gonB, c_1, c_19, h40, c_29_1, c_78]]; rfl)
      by_cases c_29_2 : (p0 - 1) % 5 = 2
      ·
        refine lv_tableIn (off := 58) (tgt := 87) hx hb dX2_goesOn_29 (by rw [c_29_2]; decide) (by rw [c_29_2]; decide) (by rw [c_29_2]; decide) (by decide) ?_
        refine lv_iload_n hx hb dX2_goesOn_87 rfl (lv_at hl 1 rfl) ?_
        refine lv_bipush (v := nI 48) hx hb dX2_goesOn_88 (by decide) ?_
        refine lv_isub hx hb dX2_goesOn_90 ?_
        refine xrd (va_runS (As := [.int (v - (nI 48))]) (rest := []) hF (c_X2_isStripe l D cI cS (v - (nI 48)) ) (va_cwS 1 hts gX2_goesOn_X2_isStripe rfl rfl rfl hD_X2_isStripe ⟨Nat.le_of_ble_eq_true rfl, Nat.le_of_ble_eq_true rfl⟩) (PR.pre hG (hP.sub (ws' := []) [] rfl)) rfl rfl hl.1 rfl (lv_room (Nat.le_of_ble_eq_true rfl)) dX2_goesOn_91 ⟨Nat.le_refl _, Nat.le_refl _⟩) ?_
        exact xretRz hx hb hr hlk dX2_goesOn_94 (rgB 0 3 (v - (nI 48))) rfl (by simp [gonB, c_1, c_19, h40, c_29_2])
      by_cases c_29_3 : (p0 - 1) % 5 = 3
      ·
        refine lv_tableIn (off := 66) (tgt := 95) hx hb dX2_goesOn_29 (by rw [c_29_3]; decide) (by rw [c_29_3]; decide) (by rw [c_29_3]; decide) (by decide) ?_
        refine lv_iload_n hx hb dX2_goesOn_95 rfl (lv_at hl 1 rfl) ?_
        refine lv_bipush (v := nI 49) hx hb dX2_goesOn_96 (by decide) ?_
        refine lv_icmp_lt (tgt := 111) hx hb dX2_goesOn_98 (by decide) (fun c_98 => ?_) (fun c_98 => ?_)
        ·
          replace c_98 : v.toInt < 49 := (i32_ltc (b := 49) (by omega)).mp c_98
          have hz : rgB 49 57 v = false := by first | exact rgB_n1 (by omega) | exact rgB_n2 (by omega)
          refine lv_iconst (v := nI 0) hx hb dX2_goesOn_111 (by decide) ?_
          exact xretRz hx hb hr hlk dX2_goesOn_112 (false) rfl (by rw [show gonB p0 v = false from by simp [gonB, c_1, c_19, h40, c_29_3, c_98, hz]]; rfl)
        ·
          replace c_98 : ¬ v.toInt < 49 := (not_congr (i32_ltc (b := 49) (by omega))).mp c_98
          refine lv_iload_n hx hb dX2_goesOn_101 rfl (lv_at hl 1 rfl) ?_
          refine lv_bipush (v := nI 57) hx hb dX2_goesOn_102 (by decide) ?_
          refine lv_icmp_gt (tgt := 111) hx hb dX2_goesOn_104 (by decide) (fun c_104 => ?_) (fun c_104 => ?_)
          ·
            replace c_104 : 57 < v.toInt := (i32_gtc (b := 57) (by omega)).mp c_104
            have hz : rgB 49 57 v = false := by first | exact rgB_n1 (by omega) | exact rgB_n2 (by omega)
            refine lv_iconst (v := nI 0) hx hb dX2_goesOn_111 (by decide) ?_
            exact xretRz hx hb hr hlk dX2_goesOn_112 (false) rfl (by rw [show gonB p0 v = false from by simp [gonB, c_1, c_19, h40, c_29_3, c_98, c_104, hz]]; rfl)
          ·
            replace c_104 : ¬ 57 < v.toInt := (not_congr (i32_gtc (b := 57) (by omega))).mp c_104
            have hz : rgB 49 57 v = true := rgB_y (by omega) (by omega)
            refine lv_iconst (v := nI 1) hx hb dX2_goesOn_107 (by decide) ?_
            refine lv_goto (tgt := 112) hx hb dX2_goesOn_108 (by decide) ?_
            exact xretRz hx hb hr hlk dX2_goesOn_112 (true) rfl (by rw [show gonB p0 v = true from by simp [gonB, c_1, c_19, h40, c_29_3, c_98, c_104, hz]]; rfl)
      refine lv_tableOut (tgt := 113) hx hb dX2_goesOn_29 (by rw [nI_toInt (by omega)]; omega) (by decide) ?_
      refine lv_iload_n hx hb dX2_goesOn_113 rfl (lv_at hl 1 rfl) ?_
      refine lv_bipush (v := nI 48) hx hb dX2_goesOn_114 (by decide) ?_
      refine lv_isub hx hb dX2_goesOn_116 ?_
      refine xrd (va_runS (As := [.int (v - (nI 48))]) (rest := []) hF (c_X2_isWay l D cI cS (v - (nI 48)) ) (va_cwS 1 hts gX2_goesOn_X2_isWay rfl rfl rfl hD_X2_isWay ⟨Nat.le_of_ble_eq_true rfl, Nat.le_of_ble_eq_true rfl⟩) (PR.pre hG (hP.sub (ws' := []) [] rfl)) rfl rfl hl.1 rfl (lv_room (Nat.le_of_ble_eq_true rfl)) dX2_goesOn_117 ⟨Nat.le_refl _, Nat.le_refl _⟩) ?_
      exact xretRz hx hb hr hlk dX2_goesOn_120 (rgB 0 3 (v - (nI 48))) rfl (by simp [gonB, c_1, c_19, h40, c_29_0, c_29_1, c_29_2, c_29_3])
    ·
      replace c_19 := (not_congr (nI_leI (a := p0) (b := 40) (by omega) (by omega))).mp c_19
      have h40 : 40 < p0 := by omega
      refine lv_iconst (v := nI 0) hx hb dX2_goesOn_22 (by decide) ?_
      exact xretRz hx hb hr hlk dX2_goesOn_23 (false) rfl (by rw [show gonB p0 v = false from by simp [gonB, c_1, c_19, h40]]; rfl)
  ·
    replace c_1 := (nI_eq (a := p0) (b := 0) (by omega) (by omega)).mp c_1
    refine lv_iload_n hx hb dX2_goesOn_4 rfl (lv_at hl 1 rfl) ?_
    refine lv_bipush (v := nI 102) hx hb dX2_goesOn_5 (by decide) ?_
    refine lv_icmp_ne (tgt := 14) hx hb dX2_goesOn_7 (by decide) (fun c_7 => ?_) (fun c_7 => ?_)
    ·
      refine lv_iconst (v := nI 0) hx hb dX2_goesOn_14 (by decide) ?_
      exact xretRz hx hb hr hlk dX2_goesOn_15 (false) rfl (by rw [show gonB p0 v = false from by simp [gonB, c_1, c_7]]; rfl)
    ·
      refine lv_iconst (v := nI 1) hx hb dX2_goesOn_10 (by decide) ?_
      refine lv_goto (tgt := 15) hx hb dX2_goesOn_11 (by decide) ?_
      exact xretRz hx hb hr hlk dX2_goesOn_15 (true) rfl (by rw [show gonB p0 v = true from by simp [gonB, c_1, c_7]]; rfl)

set_option maxHeartbeats 4000000 in
set_option maxRecDepth 100000 in
theorem c_X2_firstFaultOfText (l : Launch) (D : va_G) (cI cS : ClassId) (q : Nat) (a : Nat) (h : Bool) (la : Nat) (le : Nat) (f : Nat → Int32) (u : Nat) (c1 : Nat) (hle : le ≤ 60) (hu : u + c1 ≤ le) : Met l yX2_firstFaultOfText wsX2_firstFaultOfText ({ frames := 2, cells := 0, slots := 0, locals := 43 }) (PR D cI cS [.ref q, .int (nI u), .int (nI c1)] (wSheet cI q a h la le f)) (vp_Si (fun r => r = fftR (textA f u) c1)) 0 0 (fun _ => False) := by
  refine startR (by decide) rfl (Nat.le_of_ble_eq_true rfl) ?_
  intro p e s m below meth c hx hb hr hts hown hlk hml hG hP ls hl
  have hl : lv_has ls 4 [(0, .ref q), (1, .int (nI u)), (2, .int (nI c1))] := hl
  have hF : CallFix p m c cX2_firstFaultOfText 4 s _ wsX2_firstFaultOfText RX2 := ⟨hx, hb, hml, hown, hts⟩
  refine lv_iconst (v := nI 0) hx hb dX2_firstFaultOfText_0 (by decide) ?_
  refine lv_istore_n (lv' := [(3, .int (nI 0)), (0, .ref q), (1, .int (nI u)), (2, .int (nI c1))]) hx hb dX2_firstFaultOfText_1 rfl hl (by decide) rfl (fun ls hl => ?_)
  have K2 : ∀ (fuel : Nat) (i : Nat), (i ≤ c1) → (∀ p, p < i → (!gonB p (textA f u p)) = false) → (c1 - i) < fuel → ∀ ls : Array Slot, lv_has ls 4 [(3, .int (nI i)), (0, .ref q), (1, .int (nI u)), (2, .int (nI c1))] → W p l e ({ frames := 2, cells := 0, slots := 0, locals := 43 }) s m (([.ref q, .int (nI u), .int (nI c1)] : List Value).toArray) below meth c s.heap [] 0 0 (MQ below (vp_Si (fun r => r = fftR (textA f u) c1)) (([.ref q, .int (nI u), .int (nI c1)] : List Value).toArray) s 0 0 (fun _ => False)) (F0 m 2 ls []) := by
    intro fuel
    induction fuel with
    | zero => intro i hi hno hmu; exact absurd hmu (Nat.not_lt_zero _)
    | succ fuel ih =>
      intro i hi hno hmu ls hl
      refine lv_iload_n hx hb dX2_firstFaultOfText_2 rfl (lv_at hl 0 rfl) ?_
      refine lv_iload_n hx hb dX2_firstFaultOfText_3 rfl (lv_at hl 3 rfl) ?_
      refine lv_icmp_ge (tgt := 29) hx hb dX2_firstFaultOfText_4 (by decide) (fun c_4 => ?_) (fun c_4 => ?_)
      ·
        replace c_4 := (nI_leI (a := c1) (b := i) (by omega) (by omega)).mp c_4
        have hin : c1 = i := by omega
        subst hin
        refine lv_iload_n hx hb dX2_firstFaultOfText_29 rfl (lv_at hl 3 rfl) ?_
        refine lv_bipush (v := nI 10) hx hb dX2_firstFaultOfText_30 (by decide) ?_
        refine lv_icmp_le (tgt := 47) hx hb dX2_firstFaultOfText_32 (by decide) (fun c_32 => ?_) (fun c_32 => ?_)
        ·
          replace c_32 := (nI_leI (a := c1) (b := 10) (by omega) (by omega)).mp c_32
          refine lv_iconst (v := nI 0) hx hb dX2_firstFaultOfText_47 (by decide) ?_
          refine lv_istore_n (lv' := [(3, .int (nI 0)), (0, .ref q), (1, .int (nI u)), (2, .int (nI c1))]) hx hb dX2_firstFaultOfText_48 rfl hl (by decide) rfl (fun ls hl => ?_)
          refine lv_iload_n hx hb dX2_firstFaultOfText_49 rfl (lv_at hl 0 rfl) ?_
          refine lv_if_eq (tgt := 58) hx hb dX2_firstFaultOfText_50 (by decide) (fun c_50 => ?_) (fun c_50 => ?_)
          ·
            refine lv_iload_n hx hb dX2_firstFaultOfText_58 rfl (lv_at hl 3 rfl) ?_
            exact xretR hx hb hr hlk dX2_firstFaultOfText_59 (by have e9 : ffT (textA f u) c1 = none := firstV_none hno; simp [fftR, okT, plT, wholeB, e9, c_4, c_32, c_50]; try omega)
          · exact absurd (by decide) c_50
        ·
          replace c_32 := (not_congr (nI_leI (a := c1) (b := 10) (by omega) (by omega))).mp c_32
          refine lv_iload_n hx hb dX2_firstFaultOfText_35 rfl (lv_at hl 3 rfl) ?_
          refine lv_iconst (v := nI 1) hx hb dX2_firstFaultOfText_36 (by decide) ?_
          refine xsubN (x := c1) (y := 1) hx hb (by omega) dX2_firstFaultOfText_37 ?_
          refine lv_iconst (v := nI 5) hx hb dX2_firstFaultOfText_38 (by decide) ?_
          refine xremN (x := c1 - 1) (y := 5) (by omega) (by omega) (by omega) hx hb dX2_firstFaultOfText_39 ?_
          refine lv_if_ne (tgt := 47) hx hb dX2_firstFaultOfText_40 (by decide) (fun c_40 => ?_) (fun c_40 => ?_)
          ·
            replace c_40 := (not_congr (nI_eq (a := (c1 - 1) % 5) (b := 0) (by omega) (by omega))).mp c_40
            refine lv_iconst (v := nI 0) hx hb dX2_firstFaultOfText_47 (by decide) ?_
            refine lv_istore_n (lv' := [(3, .int (nI 0)), (0, .ref q), (1, .int (nI u)), (2, .int (nI c1))]) hx hb dX2_firstFaultOfText_48 rfl hl (by decide) rfl (fun ls hl => ?_)
            refine lv_iload_n hx hb dX2_firstFaultOfText_49 rfl (lv_at hl 0 rfl) ?_
            refine lv_if_eq (tgt := 58) hx hb dX2_firstFaultOfText_50 (by decide) (fun c_50 => ?_) (fun c_50 => ?_)
            ·
              refine lv_iload_n hx hb dX2_firstFaultOfText_58 rfl (lv_at hl 3 rfl) ?_
              exact xretR hx hb hr hlk dX2_firstFaultOfText_59 (by have e9 : ffT (textA f u) c1 = none := firstV_none hno; simp [fftR, okT, plT, wholeB, e9, c_4, c_32, c_40, c_50]; try omega)
            · exact absurd (by decide) c_50
          ·
            replace c_40 := (nI_eq (a := (c1 - 1) % 5) (b := 0) (by omega) (by omega)).mp c_40
            refine lv_iconst (v := nI 1) hx hb dX2_firstFaultOfText_43 (by decide) ?_
            refine lv_goto (tgt := 48) hx hb dX2_firstFaultOfText_44 (by decide) ?_
            refine lv_istore_n (lv' := [(3, .int (nI 1)), (0, .ref q), (1, .int (nI u)), (2, .int (nI c1))]) hx hb dX2_firstFaultOfText_48 rfl hl (by decide) rfl (fun ls hl => ?_)
            refine lv_iload_n hx hb dX2_firstFaultOfText_49 rfl (lv_at hl 0 rfl) ?_
            refine lv_if_eq (tgt := 58) hx hb dX2_firstFaultOfText_50 (by decide) (fun c_50 => ?_) (fun c_50 => ?_)
            · exact absurd c_50 (by decide)
            ·
              refine lv_bipush (v := (-9)) hx hb dX2_firstFaultOfText_53 (by decide) ?_
              refine lv_goto (tgt := 59) hx hb dX2_firstFaultOfText_55 (by decide) ?_
              exact xretR hx hb hr hlk dX2_firstFaultOfText_59 (by have e9 : ffT (textA f u) c1 = none := firstV_none hno; simp [fftR, okT, plT, wholeB, e9, c_4, c_32, c_40, c_50]; try omega)
      ·
        replace c_4 := (not_congr (nI_leI (a := c1) (b := i) (by omega) (by omega))).mp c_4
        refine lv_iload_n hx hb dX2_firstFaultOfText_7 rfl (lv_at hl 0 rfl) ?_
        refine lv_aload_n hx hb dX2_firstFaultOfText_8 rfl (lv_at hl 1 rfl) ?_
        refine lv_iload_n hx hb dX2_firstFaultOfText_9 rfl (lv_at hl 2 rfl) ?_
        refine lv_iload_n hx hb dX2_firstFaultOfText_10 rfl (lv_at hl 0 rfl) ?_
        refine xaddN hx hb dX2_firstFaultOfText_11 ?_
        refine xrd (va_runV (As := [.int (nI (u + i))]) (rest := [.int (nI i)]) hF (c_X1_atN l D cI cS q a h la le f (u + i) (by first | assumption | omega) (by first | assumption | omega)) (cwV 1 hts gX2_firstFaultOfText_X1_at rfl rfl rfl hV_X1_at ⟨Nat.le_of_ble_eq_true rfl, Nat.le_of_ble_eq_true rfl⟩) (PR.preV hG hP (ci := 1) rfl rfl) rfl rfl hl.1 rfl (lv_room (Nat.le_of_ble_eq_true rfl)) dX2_firstFaultOfText_12 ⟨Nat.le_refl _, Nat.le_refl _⟩) ?_
        refine xrd (va_runS (As := [.int (nI i), .int (f (u + i))]) (rest := []) hF (c_X2_goesOn l D cI cS i (f (u + i)) (by first | assumption | omega)) (va_cwS 2 hts gX2_firstFaultOfText_X2_goesOn rfl rfl rfl hD_X2_goesOn ⟨Nat.le_of_ble_eq_true rfl, Nat.le_of_ble_eq_true rfl⟩) (PR.pre hG (hP.sub (ws' := []) [] rfl)) rfl rfl hl.1 rfl (lv_room (Nat.le_of_ble_eq_true rfl)) dX2_firstFaultOfText_15 ⟨Nat.le_refl _, Nat.le_refl _⟩) ?_
        refine lv_if_ne (tgt := 23) hx hb dX2_firstFaultOfText_18 (by decide) (fun c_18 => ?_) (fun c_18 => ?_)
        ·
          replace c_18 := bI_n0.mp c_18
          refine lv_iinc (v := nI (i + 1)) (lv' := [(3, .int (nI (i + 1))), (0, .ref q), (1, .int (nI u)), (2, .int (nI c1))]) hx hb dX2_firstFaultOfText_23 hl (k := 0) rfl xinc1 (by decide) rfl (fun ls hl => ?_)
          refine lv_goto (tgt := 2) hx hb dX2_firstFaultOfText_26 (by decide) ?_
          exact ih (i + 1)  (by omega) (by intro v hv; rcases Nat.lt_succ_iff_lt_or_eq.mp hv with h9 | rfl; exact hno v h9; unfold textA; rw [c_18]; rfl) (by omega) ls (lv_sub hl [0, 1, 2, 3] rfl)
        ·
          replace c_18 := bI_0.mp c_18
          refine lv_iload_n hx hb dX2_firstFaultOfText_21 rfl (lv_at hl 0 rfl) ?_
          exact xretR hx hb hr hlk dX2_firstFaultOfText_22 (by have e9 : ffT (textA f u) c1 = some i := firstV_some hno (show (!gonB i (textA f u i)) = true from (by unfold textA; rw [c_18]; rfl)) (by omega); simp [fftR, okT, plT, e9])
  exact K2 _ 0  (by first | omega | (intro v hv; omega)) (by first | omega | (intro v hv; omega)) (Nat.lt_succ_self _) ls (lv_sub hl [0, 1, 2, 3] rfl)

set_option maxHeartbeats 4000000 in
set_option maxRecDepth 100000 in
theorem c_X2_takeText (l : Launch) (D : va_G) (cI cS : ClassId) (ad : Nat → Nat) (sh : Nat → Bool) (sla : Nat → Nat) (sle : Nat → Nat) (sf : Nat → Nat → Int32) (n : Nat) (fo : Nat) (ki : Nat → Nat) (st : Nat → Nat) (we : Nat → Nat) (lo : Nat → Nat) (n2 : Nat) (go : Nat) (kj : Nat → Nat) (sj : Nat → Nat) (wj : Nat → Nat) (lj : Nat → Nat) (ti : Nat → Int32) (rc : Nat → Nat) (rv : Nat → Nat) (rd : Nat) (tr : Int32) (fa : Nat) (j : Nat) (u : Nat) (c1 : Nat) (hnd : nd (adX ad)) (hsle : ∀ j, sle j ≤ 60) (hj4 : j < 4) (hu : u + c1 ≤ sle j) (hok : okT (textA (sf j) u) c1 = true) : Met l yX2_takeText wsX2_takeText ({ frames := 2, cells := 0, slots := 0, locals := 43 }) (PR D cI cS [.ref (ad 0), .ref (ad (2 + 2 * j)), .int (nI u), .int (nI c1)] (wX cI cS ad sh sla sle sf n fo ki st we lo n2 go kj sj wj lj ti rc rv rd tr fa)) (va_Qv (fun (zz : Unit) => True) (fun (zz : Unit) t => va_P D vwCl (wX cI cS ad sh sla sle sf ((c1 - 1) / 5) 0 (tkF ((c1 - 1) / 5) (kiT (textA (sf j) u)) ki) (tkF ((c1 - 1) / 5) (stT (textA (sf j) u)) st) (tkF ((c1 - 1) / 5) (weT (textA (sf j) u)) we) (tkF ((c1 - 1) / 5) (loT (textA (sf j) u)) lo) n2 go kj sj wj lj ti rc rv 0 tr fa) t.heap) (AW (adX ad))) 0 0 (AW (adX ad)) := by
  refine startM (by decide) rfl (Nat.le_of_ble_eq_true rfl) hnd rfl ?_
  intro p e s m below meth c hx hb hr hts hown hlk hml hG hP hD hS ls hl
  have hl : lv_has ls 6 [(0, .ref (ad 0)), (1, .ref (ad (2 + 2 * j))), (2, .int (nI u)), (3, .int (nI c1))] := hl
  have f20 := hts (.fieldLink RX2 20 "ChairBallot" "now" "LChairBallot$Row;") (by decide +kernel)
  have f75 := hts (.fieldLink RX2 75 "ChairBallot$Row" "count" "I") (by decide +kernel)
  have f136 := hts (.fieldLink RX2 136 "ChairBallot$Row" "folded" "I") (by decide +kernel)
  have f37 := hts (.fieldLink RX2 37 "ChairBallot" "readings" "I") (by decide +kernel)
  have f81 := hts (.fieldLink RX2 81 "ChairBallot$Row" "kind" "[I") (by decide +kernel)
  have f84 := hts (.fieldLink RX2 84 "ChairBallot$Row" "stripe" "[I") (by decide +kernel)
  have f87 := hts (.fieldLink RX2 87 "ChairBallot$Row" "weight" "[I") (by decide +kernel)
  have f90 := hts (.fieldLink RX2 90 "ChairBallot$Row" "looks" "[I") (by decide +kernel)
  have yX0 : ∀ w ∈ u_ws RX0 TX0 6, w.before _ s = true := fun w h => hts w ((by decide +kernel : ∀ w ∈ wsX00, w ∈ wsX2_takeText) w h)
  have yX2 : ∀ w ∈ u_ws RX2 TX2 9, w.before _ s = true := fun w h => hts w ((by decide +kernel : ∀ w ∈ wsX20, w ∈ wsX2_takeText) w h)
  have hF : CallFix p m c cX2_takeText 6 s _ wsX2_takeText RX2 := ⟨hx, hb, hml, hown, hts⟩
  have hsj := hsle j
  obtain ⟨ho1, ho2, ho3, ho4⟩ := okT_f hok
  refine lv_aload_n hx hb dX2_takeText_0 rfl (lv_at hl 0 rfl) ?_
  refine va_get (D := D) (ci := 2) (v := .ref (ad 10)) (C := RX2) (T := TX2) (N := 9) hx hb yX2 (fun _ h => h) hown hG.1 hP 0 rfl rfl 1 (by decide) f20 (fun _ h => h) rfl dX2_takeText_1 ?_
  refine lv_iload_n hx hb dX2_takeText_4 rfl (lv_at hl 3 rfl) ?_
  refine lv_iconst (v := nI 1) hx hb dX2_takeText_5 (by decide) ?_
  refine xsubN (x := c1) (y := 1) hx hb (by omega) dX2_takeText_6 ?_
  refine lv_iconst (v := nI 5) hx hb dX2_takeText_7 (by decide) ?_
  refine xdivN (x := c1 - 1) (y := 5) (by omega) (by omega) (by omega) hx hb dX2_takeText_8 ?_
  refine lv_bipush (v := nI 8) hx hb dX2_takeText_9 (by decide) ?_
  refine va_mmin hx hb (by rw [hml, hl.1]) hown (hts (.methodLink RX2 130 Lib.Math.min.name) (by decide +kernel)) (hts (.static Lib.Math.min.name) (by decide +kernel)) (hts (.initialized "java/lang/Math") (by decide +kernel)) (hts (.code Lib.Math.min.name Lib.Math.min.code 2 (some .int)) (by decide +kernel)) (Nat.le_of_ble_eq_true rfl) (Nat.le_of_ble_eq_true rfl) (Nat.le_refl _) (Nat.le_refl _) dX2_takeText_11 ?_
  refine xtop (x' := nI ((c1 - 1) / 5)) (by exact min8 (by omega)) ?_
  refine va_put (D := D) (ci := 0) (v := .int (nI ((c1 - 1) / 5))) (ty := .int) (C := RX0) (T := TX0) (N := 6) hx hb yX0 (fun _ h => h) tyX0 tyX0_ok nmX0 hown hG.1 hP hD hS 10 rfl rfl 4 (by decide) f75 (fun _ h => h) rfl (by decide +kernel) rfl rfl (Nat.le_of_ble_eq_true rfl) dX2_takeText_14 (fun H locs hP hD hS => ?_)
  have hP : va_P D vwCl (wX cI cS ad sh sla sle sf ((c1 - 1) / 5) fo ki st we lo n2 go kj sj wj lj ti rc rv rd tr fa) H := hP
  have hD : va_D (AW (adX ad)) (wX cI cS ad sh sla sle sf ((c1 - 1) / 5) fo ki st we lo n2 go kj sj wj lj ti rc rv rd tr fa) := hD
  refine lv_aload_n hx hb dX2_takeText_17 rfl (lv_at hl 0 rfl) ?_
  refine va_get (D := D) (ci := 2) (v := .ref (ad 10)) (C := RX2) (T := TX2) (N := 9) hx hb yX2 (fun _ h => h) hown hG.1 hP 0 rfl rfl 1 (by decide) f20 (fun _ h => h) rfl dX2_takeText_18 ?_
  refine lv_iconst (v := nI 0) hx hb dX2_takeText_21 (by decide) ?_
  refine va_put (D := D) (ci := 0) (v := .int (nI 0)) (ty := .int) (C := RX0) (T := TX0) (N := 6) hx hb yX0 (fun _ h => h) tyX0 tyX0_ok nmX0 hown hG.1 hP hD hS 10 rfl rfl 5 (by decide) f136 (fun _ h => h) rfl (by decide +kernel) rfl rfl (Nat.le_of_ble_eq_true rfl) dX2_takeText_22 (fun H locs hP hD hS => ?_)
  have hP : va_P D vwCl (wX cI cS ad sh sla sle sf ((c1 - 1) / 5) 0 ki st we lo n2 go kj sj wj lj ti rc rv rd tr fa) H := hP
  have hD : va_D (AW (adX ad)) (wX cI cS ad sh sla sle sf ((c1 - 1) / 5) 0 ki st we lo n2 go kj sj wj lj ti rc rv rd tr fa) := hD
  refine lv_aload_n hx hb dX2_takeText_25 rfl (lv_at hl 0 rfl) ?_
  refine lv_iconst (v := nI 0) hx hb dX2_takeText_26 (by decide) ?_
  refine va_put (D := D) (ci := 2) (v := .int (nI 0)) (ty := .int) (C := RX2) (T := TX2) (N := 9) hx hb yX2 (fun _ h => h) tyX2 tyX2_ok nmX2 hown hG.1 hP hD hS 0 rfl rfl 6 (by decide) f37 (fun _ h => h) rfl (by decide +kernel) rfl rfl (Nat.le_of_ble_eq_true rfl) dX2_takeText_27 (fun H locs hP hD hS => ?_)
  have hP : va_P D vwCl (wX cI cS ad sh sla sle sf ((c1 - 1) / 5) 0 ki st we lo n2 go kj sj wj lj ti rc rv 0 tr fa) H := hP
  have hD : va_D (AW (adX ad)) (wX cI cS ad sh sla sle sf ((c1 - 1) / 5) 0 ki st we lo n2 go kj sj wj lj ti rc rv 0 tr fa) := hD
  refine lv_iconst (v := nI 0) hx hb dX2_takeText_30 (by decide) ?_
  refine lv_istore (lv' := [(4, .int (nI 0)), (0, .ref (ad 0)), (1, .ref (ad (2 + 2 * j))), (2, .int (nI u)), (3, .int (nI c1))]) hx hb dX2_takeText_31 hl (by decide) rfl (fun ls hl => ?_)
  have K33 : ∀ (fuel : Nat) (i : Nat) (gki : Nat → Nat) (gst : Nat → Nat) (gwe : Nat → Nat) (glo : Nat → Nat), gki = tkF i (kiT (textA (sf j) u)) ki → gst = tkF i (stT (textA (sf j) u)) st → gwe = tkF i (weT (textA (sf j) u)) we → glo = tkF i (loT (textA (sf j) u)) lo → (i ≤ (c1 - 1) / 5) → ((c1 - 1) / 5 - i) < fuel → ∀ (H : Heap) (locs : List Loc), va_P D vwCl (wX cI cS ad sh sla sle sf ((c1 - 1) / 5) 0 gki gst gwe glo n2 go kj sj wj lj ti rc rv 0 tr fa) H → va_D (AW (adX ad)) (wX cI cS ad sh sla sle sf ((c1 - 1) / 5) 0 gki gst gwe glo n2 go kj sj wj lj ti rc rv 0 tr fa) → va_S (AW (adX ad)) s.heap H locs → ∀ ls : Array Slot, lv_has ls 6 [(4, .int (nI i)), (0, .ref (ad 0)), (1, .ref (ad (2 + 2 * j))), (2, .int (nI u)), (3, .int (nI c1))] → W p l e ({ frames := 2, cells := 0, slots := 0, locals := 43 }) s m (([.ref (ad 0), .ref (ad (2 + 2 * j)), .int (nI u), .int (nI c1)] : List Value).toArray) below meth c H locs 0 0 (MQ below (va_Qv (fun (zz : Unit) => True) (fun (zz : Unit) t => va_P D vwCl (wX cI cS ad sh sla sle sf ((c1 - 1) / 5) 0 (tkF ((c1 - 1) / 5) (kiT (textA (sf j) u)) ki) (tkF ((c1 - 1) / 5) (stT (textA (sf j) u)) st) (tkF ((c1 - 1) / 5) (weT (textA (sf j) u)) we) (tkF ((c1 - 1) / 5) (loT (textA (sf j) u)) lo) n2 go kj sj wj lj ti rc rv 0 tr fa) t.heap) (AW (adX ad))) (([.ref (ad 0), .ref (ad (2 + 2 * j)), .int (nI u), .int (nI c1)] : List Value).toArray) s 0 0 (AW (adX ad))) (F0 m 33 ls []) := by
    intro fuel
    induction fuel with
    | zero => intro i gki gst gwe glo e_gki e_gst e_gwe e_glo hi hmu; exact absurd hmu (Nat.not_lt_zero _)
    | succ fuel ih =>
      intro i gki gst gwe glo e_gki e_gst e_gwe e_glo hi hmu H locs hP hD hS ls hl
      subst e_gki
      subst e_gst
      subst e_gwe
      subst e_glo
      refine lv_iload hx hb dX2_takeText_33 (lv_at hl 0 rfl) ?_
      refine lv_aload_n hx hb dX2_takeText_35 rfl (lv_at hl 1 rfl) ?_
      refine va_get (D := D) (ci := 2) (v := .ref (ad 10)) (C := RX2) (T := TX2) (N := 9) hx hb yX2 (fun _ h => h) hown hG.1 hP 0 rfl rfl 1 (by decide) f20 (fun _ h => h) rfl dX2_takeText_36 ?_
      refine va_get (D := D) (ci := 0) (v := .int (nI ((c1 - 1) / 5))) (C := RX0) (T := TX0) (N := 6) hx hb yX0 (fun _ h => h) hown hG.1 hP 10 rfl rfl 4 (by decide) f75 (fun _ h => h) rfl dX2_takeText_39 ?_
      refine lv_icmp_ge (tgt := 143) hx hb dX2_takeText_42 (by decide) (fun c_42 => ?_) (fun c_42 => ?_)
      ·
        replace c_42 := (nI_leI (a := (c1 - 1) / 5) (b := i) (by omega) (by omega)).mp c_42
        have hin : (c1 - 1) / 5 = i := by omega
        subst hin
        exact xretMv hx hb hr hlk dX2_takeText_143 hS () (by trivial) (fun t ht => by rw [ht]; exact hP)
      ·
        replace c_42 := (not_congr (nI_leI (a := (c1 - 1) / 5) (b := i) (by omega) (by omega))).mp c_42
        refine lv_iload_n hx hb dX2_takeText_45 rfl (lv_at hl 3 rfl) ?_
        refine lv_iconst (v := nI 2) hx hb dX2_takeText_46 (by decide) ?_
        refine xaddN hx hb dX2_takeText_47 ?_
        refine lv_iload hx hb dX2_takeText_48 (lv_at hl 0 rfl) ?_
        refine lv_iconst (v := nI 5) hx hb dX2_takeText_50 (by decide) ?_
        refine xmulN hx hb dX2_takeText_51 ?_
        refine xaddN hx hb dX2_takeText_52 ?_
        refine lv_istore (lv' := [(5, .int (nI (u + 2 + (i * 5)))), (4, .int (nI i)), (0, .ref (ad 0)), (1, .ref (ad (2 + 2 * j))), (2, .int (nI u)), (3, .int (nI c1))]) hx hb dX2_takeText_53 hl (by decide) rfl (fun ls hl => ?_)
        refine lv_aload_n hx hb dX2_takeText_55 rfl (lv_at hl 2 rfl) ?_
        refine va_get (D := D) (ci := 2) (v := .ref (ad 10)) (C := RX2) (T := TX2) (N := 9) hx hb yX2 (fun _ h => h) hown hG.1 hP 0 rfl rfl 1 (by decide) f20 (fun _ h => h) rfl dX2_takeText_56 ?_
        refine va_get (D := D) (ci := 0) (v := .ref (ad 11)) (C := RX0) (T := TX0) (N := 6) hx hb yX0 (fun _ h => h) hown hG.1 hP 10 rfl rfl 0 (by decide) f81 (fun _ h => h) rfl dX2_takeText_59 ?_
        refine lv_iload hx hb dX2_takeText_62 (lv_at hl 1 rfl) ?_
        refine lv_aload_n hx hb dX2_takeText_64 rfl (lv_at hl 3 rfl) ?_
        refine lv_iload hx hb dX2_takeText_65 (lv_at hl 0 rfl) ?_
        refine xrd (va_runV (As := [.int (nI (u + 2 + (i * 5)))]) (rest := [.int (nI i), .ref (ad 11)]) hF (c_X1_atN l D cI cS (ad (2 + 2 * j)) (ad (3 + 2 * j)) (sh j) (sla j) (sle j) (sf j) (u + 2 + (i * 5)) (by first | assumption | omega) (by first | assumption | omega)) (cwV 1 hts gX2_takeText_X1_at rfl rfl rfl hV_X1_at ⟨Nat.le_of_ble_eq_true rfl, Nat.le_of_ble_eq_true rfl⟩) (PR.preV hG (hP.sub (ws' := (wSheet cI (ad (2 + 2 * j)) (ad (3 + 2 * j)) (sh j) (sla j) (sle j) (sf j))) [2 + 2 * j, 3 + 2 * j] (wX_sub (j := j) (by omega))) (ci := 1) rfl rfl) rfl rfl hl.1 rfl (lv_room (Nat.le_of_ble_eq_true rfl)) dX2_takeText_67 ⟨Nat.le_refl _, Nat.le_refl _⟩) ?_
        refine xrd (va_runS (As := [.int ((sf j) (u + 2 + (i * 5)))]) (rest := [.int (nI i), .ref (ad 11)]) hF (c_X2_kindOf l D cI cS ((sf j) (u + 2 + (i * 5))) ) (va_cwS 1 hts gX2_takeText_X2_kindOf rfl rfl rfl hD_X2_kindOf ⟨Nat.le_of_ble_eq_true rfl, Nat.le_of_ble_eq_true rfl⟩) (PR.pre hG (hP.sub (ws' := []) [] rfl)) rfl rfl hl.1 rfl (lv_room (Nat.le_of_ble_eq_true rfl)) dX2_takeText_70 ⟨Nat.le_refl _, Nat.le_refl _⟩) ?_
        refine xtop (x' := nI (kiT (textA (sf j) u) i)) (by exact tk_ki hok (by omega)) ?_
        refine xastN hx hb hG hP hD hS 11 rfl (i) (kiT (textA (sf j) u) i) rfl rfl (by omega) (by decide) dX2_takeText_73 (fun H locs hP hD hS => ?_)
        have hP : va_P D vwCl (wX cI cS ad sh sla sle sf ((c1 - 1) / 5) 0 (updN (tkF i (kiT (textA (sf j) u)) ki) i (kiT (textA (sf j) u) i)) (tkF i (stT (textA (sf j) u)) st) (tkF i (weT (textA (sf j) u)) we) (tkF i (loT (textA (sf j) u)) lo) n2 go kj sj wj lj ti rc rv 0 tr fa) H := hP
        have hD : va_D (AW (adX ad)) (wX cI cS ad sh sla sle sf ((c1 - 1) / 5) 0 (updN (tkF i (kiT (textA (sf j) u)) ki) i (kiT (textA (sf j) u) i)) (tkF i (stT (textA (sf j) u)) st) (tkF i (weT (textA (sf j) u)) we) (tkF i (loT (textA (sf j) u)) lo) n2 go kj sj wj lj ti rc rv 0 tr fa) := hD
        refine lv_aload_n hx hb dX2_takeText_74 rfl (lv_at hl 2 rfl) ?_
        refine va_get (D := D) (ci := 2) (v := .ref (ad 10)) (C := RX2) (T := TX2) (N := 9) hx hb yX2 (fun _ h => h) hown hG.1 hP 0 rfl rfl 1 (by decide) f20 (fun _ h => h) rfl dX2_takeText_75 ?_
        refine va_get (D := D) (ci := 0) (v := .ref (ad 12)) (C := RX0) (T := TX0) (N := 6) hx hb yX0 (fun _ h => h) hown hG.1 hP 10 rfl rfl 1 (by decide) f84 (fun _ h => h) rfl dX2_takeText_78 ?_
        refine lv_iload hx hb dX2_takeText_81 (lv_at hl 1 rfl) ?_
        refine lv_aload_n hx hb dX2_takeText_83 rfl (lv_at hl 3 rfl) ?_
        refine lv_iload hx hb dX2_takeText_84 (lv_at hl 0 rfl) ?_
        refine lv_iconst (v := nI 1) hx hb dX2_takeText_86 (by decide) ?_
        refine xaddN hx hb dX2_takeText_87 ?_
        refine xrd (va_runV (As := [.int (nI (u + 2 + (i * 5) + 1))]) (rest := [.int (nI i), .ref (ad 12)]) hF (c_X1_atN l D cI cS (ad (2 + 2 * j)) (ad (3 + 2 * j)) (sh j) (sla j) (sle j) (sf j) (u + 2 + (i * 5) + 1) (by first | assumption | omega) (by first | assumption | omega)) (cwV 1 hts gX2_takeText_X1_at rfl rfl rfl hV_X1_at ⟨Nat.le_of_ble_eq_true rfl, Nat.le_of_ble_eq_true rfl⟩) (PR.preV hG (hP.sub (ws' := (wSheet cI (ad (2 + 2 * j)) (ad (3 + 2 * j)) (sh j) (sla j) (sle j) (sf j))) [2 + 2 * j, 3 + 2 * j] (wX_sub (j := j) (by omega))) (ci := 1) rfl rfl) rfl rfl hl.1 rfl (lv_room (Nat.le_of_ble_eq_true rfl)) dX2_takeText_88 ⟨Nat.le_refl _, Nat.le_refl _⟩) ?_
        refine lv_bipush (v := nI 48) hx hb dX2_takeText_91 (by decide) ?_
        refine lv_isub hx hb dX2_takeText_93 ?_
        refine xtop (x' := nI (stT (textA (sf j) u) i)) (by exact tk_st hok (by omega)) ?_
        refine xastN hx hb hG hP hD hS 12 rfl (i) (stT (textA (sf j) u) i) rfl rfl (by omega) (by decide) dX2_takeText_94 (fun H locs hP hD hS => ?_)
        have hP : va_P D vwCl (wX cI cS ad sh sla sle sf ((c1 - 1) / 5) 0 (updN (tkF i (kiT (textA (sf j) u)) ki) i (kiT (textA (sf j) u) i)) (updN (tkF i (stT (textA (sf j) u)) st) i (stT (textA (sf j) u) i)) (tkF i (weT (textA (sf j) u)) we) (tkF i (loT (textA (sf j) u)) lo) n2 go kj sj wj lj ti rc rv 0 tr fa) H := hP
        have hD : va_D (AW (adX ad)) (wX cI cS ad sh sla sle sf ((c1 - 1) / 5) 0 (updN (tkF i (kiT (textA (sf j) u)) ki) i (kiT (textA (sf j) u) i)) (updN (tkF i (stT (textA (sf j) u)) st) i (stT (textA (sf j) u) i)) (tkF i (weT (textA (sf j) u)) we) (tkF i (loT (textA (sf j) u)) lo) n2 go kj sj wj lj ti rc rv 0 tr fa) := hD
        refine lv_aload_n hx hb dX2_takeText_95 rfl (lv_at hl 2 rfl) ?_
        refine va_get (D := D) (ci := 2) (v := .ref (ad 10)) (C := RX2) (T := TX2) (N := 9) hx hb yX2 (fun _ h => h) hown hG.1 hP 0 rfl rfl 1 (by decide) f20 (fun _ h => h) rfl dX2_takeText_96 ?_
        refine va_get (D := D) (ci := 0) (v := .ref (ad 13)) (C := RX0) (T := TX0) (N := 6) hx hb yX0 (fun _ h => h) hown hG.1 hP 10 rfl rfl 2 (by decide) f87 (fun _ h => h) rfl dX2_takeText_99 ?_
        refine lv_iload hx hb dX2_takeText_102 (lv_at hl 1 rfl) ?_
        refine lv_aload_n hx hb dX2_takeText_104 rfl (lv_at hl 3 rfl) ?_
        refine lv_iload hx hb dX2_takeText_105 (lv_at hl 0 rfl) ?_
        refine lv_iconst (v := nI 2) hx hb dX2_takeText_107 (by decide) ?_
        refine xaddN hx hb dX2_takeText_108 ?_
        refine xrd (va_runV (As := [.int (nI (u + 2 + (i * 5) + 2))]) (rest := [.int (nI i), .ref (ad 13)]) hF (c_X1_atN l D cI cS (ad (2 + 2 * j)) (ad (3 + 2 * j)) (sh j) (sla j) (sle j) (sf j) (u + 2 + (i * 5) + 2) (by first | assumption | omega) (by first | assumption | omega)) (cwV 1 hts gX2_takeText_X1_at rfl rfl rfl hV_X1_at ⟨Nat.le_of_ble_eq_true rfl, Nat.le_of_ble_eq_true rfl⟩) (PR.preV hG (hP.sub (ws' := (wSheet cI (ad (2 + 2 * j)) (ad (3 + 2 * j)) (sh j) (sla j) (sle j) (sf j))) [2 + 2 * j, 3 + 2 * j] (wX_sub (j := j) (by omega))) (ci := 1) rfl rfl) rfl rfl hl.1 rfl (lv_room (Nat.le_of_ble_eq_true rfl)) dX2_takeText_109 ⟨Nat.le_refl _, Nat.le_refl _⟩) ?_
        refine lv_bipush (v := nI 48) hx hb dX2_takeText_112 (by decide) ?_
        refine lv_isub hx hb dX2_takeText_114 ?_
        refine xtop (x' := nI (weT (textA (sf j) u) i)) (by exact tk_we hok (by omega)) ?_
        refine xastN hx hb hG hP hD hS 13 rfl (i) (weT (textA (sf j) u) i) rfl rfl (by omega) (by decide) dX2_takeText_115 (fun H locs hP hD hS => ?_)
        have hP : va_P D vwCl (wX cI cS ad sh sla sle sf ((c1 - 1) / 5) 0 (updN (tkF i (kiT (textA (sf j) u)) ki) i (kiT (textA (sf j) u) i)) (updN (tkF i (stT (textA (sf j) u)) st) i (stT (textA (sf j) u) i)) (updN (tkF i (weT (textA (sf j) u)) we) i (weT (textA (sf j) u) i)) (tkF i (loT (textA (sf j) u)) lo) n2 go kj sj wj lj ti rc rv 0 tr fa) H := hP
        have hD : va_D (AW (adX ad)) (wX cI cS ad sh sla sle sf ((c1 - 1) / 5) 0 (updN (tkF i (kiT (textA (sf j) u)) ki) i (kiT (textA (sf j) u) i)) (updN (tkF i (stT (textA (sf j) u)) st) i (stT (textA (sf j) u) i)) (updN (tkF i (weT (textA (sf j) u)) we) i (weT (textA (sf j) u) i)) (tkF i (loT (textA (sf j) u)) lo) n2 go kj sj wj lj ti rc rv 0 tr fa) := hD
        refine lv_aload_n hx hb dX2_takeText_116 rfl (lv_at hl 2 rfl) ?_
        refine va_get (D := D) (ci := 2) (v := .ref (ad 10)) (C := RX2) (T := TX2) (N := 9) hx hb yX2 (fun _ h => h) hown hG.1 hP 0 rfl rfl 1 (by decide) f20 (fun _ h => h) rfl dX2_takeText_117 ?_
        refine va_get (D := D) (ci := 0) (v := .ref (ad 14)) (C := RX0) (T := TX0) (N := 6) hx hb yX0 (fun _ h => h) hown hG.1 hP 10 rfl rfl 3 (by decide) f90 (fun _ h => h) rfl dX2_takeText_120 ?_
        refine lv_iload hx hb dX2_takeText_123 (lv_at hl 1 rfl) ?_
        refine lv_aload_n hx hb dX2_takeText_125 rfl (lv_at hl 3 rfl) ?_
        refine lv_iload hx hb dX2_takeText_126 (lv_at hl 0 rfl) ?_
        refine lv_iconst (v := nI 3) hx hb dX2_takeText_128 (by decide) ?_
        refine xaddN hx hb dX2_takeText_129 ?_
        refine xrd (va_runV (As := [.int (nI (u + 2 + (i * 5) + 3))]) (rest := [.int (nI i), .ref (ad 14)]) hF (c_X1_atN l D cI cS (ad (2 + 2 * j)) (ad (3 + 2 * j)) (sh j) (sla j) (sle j) (sf j) (u + 2 + (i * 5) + 3) (by first | assumption | omega) (by first | assumption | omega)) (cwV 1 hts gX2_takeText_X1_at rfl rfl rfl hV_X1_at ⟨Nat.le_of_ble_eq_true rfl, Nat.le_of_ble_eq_true rfl⟩) (PR.preV hG (hP.sub (ws' := (wSheet cI (ad (2 + 2 * j)) (ad (3 + 2 * j)) (sh j) (sla j) (sle j) (sf j))) [2 + 2 * j, 3 + 2 * j] (wX_sub (j := j) (by omega))) (ci := 1) rfl rfl) rfl rfl hl.1 rfl (lv_room (Nat.le_of_ble_eq_true rfl)) dX2_takeText_130 ⟨Nat.le_refl _, Nat.le_refl _⟩) ?_
        refine lv_bipush (v := nI 48) hx hb dX2_takeText_133 (by decide) ?_
        refine lv_isub hx hb dX2_takeText_135 ?_
        refine xtop (x' := nI (loT (textA (sf j) u) i)) (by exact tk_lo hok (by omega)) ?_
        refine xastN hx hb hG hP hD hS 14 rfl (i) (loT (textA (sf j) u) i) rfl rfl (by omega) (by decide) dX2_takeText_136 (fun H locs hP hD hS => ?_)
        have hP : va_P D vwCl (wX cI cS ad sh sla sle sf ((c1 - 1) / 5) 0 (updN (tkF i (kiT (textA (sf j) u)) ki) i (kiT (textA (sf j) u) i)) (updN (tkF i (stT (textA (sf j) u)) st) i (stT (textA (sf j) u) i)) (updN (tkF i (weT (textA (sf j) u)) we) i (weT (textA (sf j) u) i)) (updN (tkF i (loT (textA (sf j) u)) lo) i (loT (textA (sf j) u) i)) n2 go kj sj wj lj ti rc rv 0 tr fa) H := hP
        have hD : va_D (AW (adX ad)) (wX cI cS ad sh sla sle sf ((c1 - 1) / 5) 0 (updN (tkF i (kiT (textA (sf j) u)) ki) i (kiT (textA (sf j) u) i)) (updN (tkF i (stT (textA (sf j) u)) st) i (stT (textA (sf j) u) i)) (updN (tkF i (weT (textA (sf j) u)) we) i (weT (textA (sf j) u) i)) (updN (tkF i (loT (textA (sf j) u)) lo) i (loT (textA (sf j) u) i)) n2 go kj sj wj lj ti rc rv 0 tr fa) := hD
        refine lv_iinc (v := nI (i + 1)) (lv' := [(4, .int (nI (i + 1))), (5, .int (nI (u + 2 + (i * 5)))), (0, .ref (ad 0)), (1, .ref (ad (2 + 2 * j))), (2, .int (nI u)), (3, .int (nI c1))]) hx hb dX2_takeText_137 hl (k := 1) rfl xinc1 (by decide) rfl (fun ls hl => ?_)
        refine lv_goto (tgt := 33) hx hb dX2_takeText_140 (by decide) ?_
        exact ih (i + 1) (updN (tkF i (kiT (textA (sf j) u)) ki) i (kiT (textA (sf j) u) i)) (updN (tkF i (stT (textA (sf j) u)) st) i (stT (textA (sf j) u) i)) (updN (tkF i (weT (textA (sf j) u)) we) i (weT (textA (sf j) u) i)) (updN (tkF i (loT (textA (sf j) u)) lo) i (loT (textA (sf j) u) i)) (by exact tkF_s rfl) (by exact tkF_s rfl) (by exact tkF_s rfl) (by exact tkF_s rfl) (by omega) (by omega) _ _ hP hD hS ls (lv_sub hl [0, 2, 3, 4, 5] rfl)
  exact K33 _ 0 ki st we lo (by first | exact tkF_0.symm | omega) (by first | exact tkF_0.symm | omega) (by first | exact tkF_0.symm | omega) (by first | exact tkF_0.symm | omega) (by first | exact tkF_0.symm | omega) (Nat.lt_succ_self _) _ _ hP hD hS ls (lv_sub hl [0, 1, 2, 3, 4] rfl)

set_option maxHeartbeats 4000000 in
set_option maxRecDepth 100000 in
theorem c_X2_front (l : Launch) (D : va_G) (cI cS : ClassId) (ad : Nat → Nat) (sh : Nat → Bool) (sla : Nat → Nat) (sle : Nat → Nat) (sf : Nat → Nat → Int32) (n : Nat) (fo : Nat) (ki : Nat → Nat) (st : Nat → Nat) (we : Nat → Nat) (lo : Nat → Nat) (n2 : Nat) (go : Nat) (kj : Nat → Nat) (sj : Nat → Nat) (wj : Nat → Nat) (lj : Nat → Nat) (ti : Nat → Int32) (rc : Nat → Nat) (rv : Nat → Nat) (rd : Nat) (tr : Int32) (fa : Nat) (k : Int32) (la : Int32) (i : Int32) (ct : Int32) (hnd : nd (adX ad)) (hsla : ∀ j, sla j ≤ 2) (hsle : ∀ j, sle j ≤ 60) : Met l yX2_front wsX2_front ({ frames := 3, cells := 0, slots := 0, locals := 68 }) (PR D cI cS [.ref (ad 0), .int k, .int la, .int i, .int ct] (wX cI cS ad sh sla sle sf n fo ki st we lo n2 go kj sj wj lj ti rc rv rd tr fa)) (va_Qi (fun r (zz : Unit) => r = A_front sh sla sle sf k la i ct) (fun (zz : Unit) t => va_P D vwCl (wX cI cS ad sh sla sle sf (ifO (okFront sh sla sle sf k la i ct) (numT ct) n) (ifO (okFront sh sla sle sf k la i ct) 0 fo) (ifO (okFront sh sla sle sf k la i ct) (tkF (numT ct) (kiT (textA (sf k.toNatClampNeg) i.toNatClampNeg)) ki) ki) (ifO (okFront sh sla sle sf k la i ct) (tkF (numT ct) (stT (textA (sf k.toNatClampNeg) i.toNatClampNeg)) st) st) (ifO (okFront sh sla sle sf k la i ct) (tkF (numT ct) (weT (textA (sf k.toNatClampNeg) i.toNatClampNeg)) we) we) (ifO (okFront sh sla sle sf k la i ct) (tkF (numT ct) (loT (textA (sf k.toNatClampNeg) i.toNatClampNeg)) lo) lo) n2 go kj sj wj lj ti rc rv (ifO (okFront sh sla sle sf k la i ct) 0 rd) tr (S_front sh sla sle k la i ct)) t.heap) (AW (adX ad))) 0 0 (AW (adX ad)) := by
  refine startM (by decide) rfl (Nat.le_of_ble_eq_true rfl) hnd rfl ?_
  intro p e s m below meth c hx hb hr hts hown hlk hml hG hP hD hS ls hl
  have hl : lv_has ls 8 [(0, .ref (ad 0)), (1, .int k), (2, .int la), (3, .int i), (4, .int ct)] := hl
  have f44 := hts (.fieldLink RX2 44 "ChairBallot" "latestFault" "I") (by decide +kernel)
  have f20 := hts (.fieldLink RX2 20 "ChairBallot" "now" "LChairBallot$Row;") (by decide +kernel)
  have f75 := hts (.fieldLink RX2 75 "ChairBallot$Row" "count" "I") (by decide +kernel)
  have yX0 : ∀ w ∈ u_ws RX0 TX0 6, w.before _ s = true := fun w h => hts w ((by decide +kernel : ∀ w ∈ wsX00, w ∈ wsX2_front) w h)
  have yX2 : ∀ w ∈ u_ws RX2 TX2 9, w.before _ s = true := fun w h => hts w ((by decide +kernel : ∀ w ∈ wsX20, w ∈ wsX2_front) w h)
  have hF : CallFix p m c cX2_front 8 s _ wsX2_front RX2 := ⟨hx, hb, hml, hown, hts⟩
  refine lv_aload_n hx hb dX2_front_0 rfl (lv_at hl 0 rfl) ?_
  refine lv_iconst (v := nI 0) hx hb dX2_front_1 (by decide) ?_
  refine va_put (D := D) (ci := 2) (v := .int (nI 0)) (ty := .int) (C := RX2) (T := TX2) (N := 9) hx hb yX2 (fun _ h => h) tyX2 tyX2_ok nmX2 hown hG.1 hP hD hS 0 rfl rfl 8 (by decide) f44 (fun _ h => h) rfl (by decide +kernel) rfl rfl (Nat.le_of_ble_eq_true rfl) dX2_front_2 (fun H locs hP hD hS => ?_)
  have hP : va_P D vwCl (wX cI cS ad sh sla sle sf n fo ki st we lo n2 go kj sj wj lj ti rc rv rd tr 0) H := hP
  have hD : va_D (AW (adX ad)) (wX cI cS ad sh sla sle sf n fo ki st we lo n2 go kj sj wj lj ti rc rv rd tr 0) := hD
  refine lv_aload_n hx hb dX2_front_5 rfl (lv_at hl 0 rfl) ?_
  refine lv_iload_n hx hb dX2_front_6 rfl (lv_at hl 1 rfl) ?_
  rcases b_tf (rgB 0 3 k) with hkk | hkk
  ·
    refine xrda (va_runV (As := [.int k]) (rest := []) hF (c_X2_sheetAtN l D cI cS ad sh sla sle sf n fo ki st we lo n2 go kj sj wj lj ti rc rv rd tr 0 k (by first | assumption | omega)) (cwV 1 hts gX2_front_X2_sheetAt rfl rfl rfl hV_X2_sheetAt ⟨Nat.le_of_ble_eq_true rfl, Nat.le_of_ble_eq_true rfl⟩) (PR.preV hG hP (ci := 2) rfl rfl) rfl rfl hl.1 rfl (lv_room (Nat.le_of_ble_eq_true rfl)) dX2_front_7 ⟨Nat.le_refl _, Nat.le_refl _⟩) ?_
    refine lv_astoreN (lv' := [(5, .null), (0, .ref (ad 0)), (1, .int k), (2, .int la), (3, .int i), (4, .int ct)]) hx hb dX2_front_10 hl (by decide) rfl (fun ls hl => ?_)
    refine lv_aloadN hx hb dX2_front_12 (lv_at hl 0 rfl) ?_
    refine lv_ifnonnullN hx hb dX2_front_14 ?_
    refine lv_iconst (v := (-1)) hx hb dX2_front_17 (by decide) ?_
    exact xretM hx hb hr hlk dX2_front_18 hS () (by simp [A_front, numT, fftR, hkk]) (fun t ht => by rw [ht]; rw [show ifO (okFront sh sla sle sf k la i ct) (numT ct) n = n from by simp [okFront, ifO, numT, hkk]]; rw [show ifO (okFront sh sla sle sf k la i ct) 0 fo = fo from by simp [okFront, ifO, numT, hkk]]; rw [show ifO (okFront sh sla sle sf k la i ct) (tkF (numT ct) (kiT (textA (sf k.toNatClampNeg) i.toNatClampNeg)) ki) ki = ki from by simp [okFront, ifO, numT, hkk]]; rw [show ifO (okFront sh sla sle sf k la i ct) (tkF (numT ct) (stT (textA (sf k.toNatClampNeg) i.toNatClampNeg)) st) st = st from by simp [okFront, ifO, numT, hkk]]; rw [show ifO (okFront sh sla sle sf k la i ct) (tkF (numT ct) (weT (textA (sf k.toNatClampNeg) i.toNatClampNeg)) we) we = we from by simp [okFront, ifO, numT, hkk]]; rw [show ifO (okFront sh sla sle sf k la i ct) (tkF (numT ct) (loT (textA (sf k.toNatClampNeg) i.toNatClampNeg)) lo) lo = lo from by simp [okFront, ifO, numT, hkk]]; rw [show ifO (okFront sh sla sle sf k la i ct) 0 rd = rd from by simp [okFront, ifO, numT, hkk]]; rw [show S_front sh sla sle k la i ct = 0 from by simp [S_front, hkk]]; exact hP)
  ·
    obtain ⟨j, hj0, hj3, rfl⟩ := rgB_nat (by decide) hkk
    have hclj := cl8 (j := j) (by omega)
    have hsj := hsle j
    have hsaj := hsla j
    refine xrda (va_runV (As := [.int (nI j)]) (rest := []) hF (c_X2_sheetAt l D cI cS ad sh sla sle sf n fo ki st we lo n2 go kj sj wj lj ti rc rv rd tr 0 j (by first | assumption | omega)) (cwV 1 hts gX2_front_X2_sheetAt rfl rfl rfl hV_X2_sheetAt ⟨Nat.le_of_ble_eq_true rfl, Nat.le_of_ble_eq_true rfl⟩) (PR.preV hG hP (ci := 2) rfl rfl) rfl rfl hl.1 rfl (lv_room (Nat.le_of_ble_eq_true rfl)) dX2_front_7 ⟨Nat.le_refl _, Nat.le_refl _⟩) ?_
    refine lv_astore (lv' := [(5, .ref (ad (2 + 2 * j))), (0, .ref (ad 0)), (1, .int (nI j)), (2, .int la), (3, .int i), (4, .int ct)]) hx hb dX2_front_10 hl (by decide) rfl (fun ls hl => ?_)
    refine lv_aload hx hb dX2_front_12 (lv_at hl 0 rfl) ?_
    refine lv_ifnonnull (tgt := 19) hx hb dX2_front_14 (by decide) ?_
    refine lv_iload_n hx hb dX2_front_19 rfl (lv_at hl 3 rfl) ?_
    refine xrd (va_runS (As := [.int la]) (rest := []) hF (c_X2_isLane l D cI cS la ) (va_cwS 1 hts gX2_front_X2_isLane rfl rfl rfl hD_X2_isLane ⟨Nat.le_of_ble_eq_true rfl, Nat.le_of_ble_eq_true rfl⟩) (PR.pre hG (hP.sub (ws' := []) [] rfl)) rfl rfl hl.1 rfl (lv_room (Nat.le_of_ble_eq_true rfl)) dX2_front_20 ⟨Nat.le_refl _, Nat.le_refl _⟩) ?_
    refine lv_if_ne (tgt := 29) hx hb dX2_front_23 (by decide) (fun c_23 => ?_) (fun c_23 => ?_)
    ·
      replace c_23 := bI_n0.mp c_23
      obtain ⟨w, hw0, hw1, rfl⟩ := rgB_nat (by decide) c_23
      have hclw := cl8 (j := w) (by omega)
      have hfl := flt_le (sh j) (sla j) w
      refine lv_aload hx hb dX2_front_29 (lv_at hl 0 rfl) ?_
      refine lv_iload_n hx hb dX2_front_31 rfl (lv_at hl 3 rfl) ?_
      refine xrd (va_runV (As := [.int (nI w)]) (rest := []) hF (c_X1_faultAs l D cI cS (ad (2 + 2 * j)) (ad (3 + 2 * j)) (sh j) (sla j) (sle j) (sf j) w (by first | assumption | omega) (by first | assumption | omega)) (cwV 1 hts gX2_front_X1_faultAs rfl rfl rfl hV_X1_faultAs ⟨Nat.le_of_ble_eq_true rfl, Nat.le_of_ble_eq_true rfl⟩) (PR.preV hG (hP.sub (ws' := (wSheet cI (ad (2 + 2 * j)) (ad (3 + 2 * j)) (sh j) (sla j) (sle j) (sf j))) [2 + 2 * j, 3 + 2 * j] (wX_sub (j := j) (by omega))) (ci := 1) rfl rfl) rfl rfl hl.1 rfl (lv_room (Nat.le_of_ble_eq_true rfl)) dX2_front_32 ⟨Nat.le_refl _, Nat.le_refl _⟩) ?_
      refine lv_istore (lv' := [(6, .int (nI (fltN (sh j) (sla j) w))), (5, .ref (ad (2 + 2 * j))), (0, .ref (ad 0)), (1, .int (nI j)), (2, .int (nI w)), (3, .int i), (4, .int ct)]) hx hb dX2_front_35 hl (by decide) rfl (fun ls hl => ?_)
      refine lv_iload hx hb dX2_front_37 (lv_at hl 0 rfl) ?_
      refine lv_if_eq (tgt := 49) hx hb dX2_front_39 (by decide) (fun c_39 => ?_) (fun c_39 => ?_)
      ·
        replace c_39 := (nI_eq (a := fltN (sh j) (sla j) w) (b := 0) (by omega) (by omega)).mp c_39
        refine lv_iload hx hb dX2_front_49 (lv_at hl 6 rfl) ?_
        refine lv_if_ge (tgt := 60) hx hb dX2_front_51 (by decide) (fun c_51 => ?_) (fun c_51 => ?_)
        ·
          replace c_51 : 0 ≤ ct.toInt := (i32_gec (b := 0) (by omega)).mp c_51
          have hct0 : ¬ ct.toInt < 0 := by omega
          refine lv_aload hx hb dX2_front_60 (lv_at hl 1 rfl) ?_
          refine lv_iload_n hx hb dX2_front_62 rfl (lv_at hl 5 rfl) ?_
          refine lv_iload hx hb dX2_front_63 (lv_at hl 6 rfl) ?_
          refine xrd (va_runV (As := [.int i, .int ct]) (rest := []) hF (c_X1_holds l D cI cS (ad (2 + 2 * j)) (ad (3 + 2 * j)) (sh j) (sla j) (sle j) (sf j) i ct (by first | assumption | omega)) (cwV 2 hts gX2_front_X1_holds rfl rfl rfl hV_X1_holds ⟨Nat.le_of_ble_eq_true rfl, Nat.le_of_ble_eq_true rfl⟩) (PR.preV hG (hP.sub (ws' := (wSheet cI (ad (2 + 2 * j)) (ad (3 + 2 * j)) (sh j) (sla j) (sle j) (sf j))) [2 + 2 * j, 3 + 2 * j] (wX_sub (j := j) (by omega))) (ci := 1) rfl rfl) rfl rfl hl.1 rfl (lv_room (Nat.le_of_ble_eq_true rfl)) dX2_front_65 ⟨Nat.le_refl _, Nat.le_refl _⟩) ?_
          refine lv_if_ne (tgt := 77) hx hb dX2_front_68 (by decide) (fun c_68 => ?_) (fun c_68 => ?_)
          ·
            replace c_68 := bI_n0.mp c_68
            obtain ⟨u, cc, hu, rfl, rfl⟩ := hldB_nat c_68
            have hclu := cl8 (j := u) (by omega)
            have hclc := cl8 (j := cc) (by omega)
            refine lv_aload hx hb dX2_front_77 (lv_at hl 1 rfl) ?_
            refine lv_iload_n hx hb dX2_front_79 rfl (lv_at hl 5 rfl) ?_
            refine lv_iload hx hb dX2_front_80 (lv_at hl 6 rfl) ?_
            refine xrd (va_runS (As := [.ref (ad (2 + 2 * j)), .int (nI u), .int (nI cc)]) (rest := []) hF (c_X2_firstFaultOfText l D cI cS (ad (2 + 2 * j)) (ad (3 + 2 * j)) (sh j) (sla j) (sle j) (sf j) u cc (by first | assumption | omega) (by first | assumption | omega)) (va_cwS 3 hts gX2_front_X2_firstFaultOfText rfl rfl rfl hD_X2_firstFaultOfText ⟨Nat.le_of_ble_eq_true rfl, Nat.le_of_ble_eq_true rfl⟩) (PR.pre hG (hP.sub (ws' := (wSheet cI (ad (2 + 2 * j)) (ad (3 + 2 * j)) (sh j) (sla j) (sle j) (sf j))) [2 + 2 * j, 3 + 2 * j] (wX_sub (j := j) (by omega)))) rfl rfl hl.1 rfl (lv_room (Nat.le_of_ble_eq_true rfl)) dX2_front_82 ⟨Nat.le_refl _, Nat.le_refl _⟩) ?_
            refine lv_istore (lv' := [(7, .int (fftR (textA (sf j) u) cc)), (6, .int (nI (fltN (sh j) (sla j) w))), (5, .ref (ad (2 + 2 * j))), (0, .ref (ad 0)), (1, .int (nI j)), (2, .int (nI w)), (3, .int (nI u)), (4, .int (nI cc))]) hx hb dX2_front_85 hl (by decide) rfl (fun ls hl => ?_)
            refine lv_iload hx hb dX2_front_87 (lv_at hl 0 rfl) ?_
            refine lv_bipush (v := (-9)) hx hb dX2_front_89 (by decide) ?_
            refine lv_icmp_eq (tgt := 100) hx hb dX2_front_91 (by decide) (fun c_91 => ?_) (fun c_91 => ?_)
            ·
              have hok := okE (by omega) c_91
              refine lv_aload_n hx hb dX2_front_100 rfl (lv_at hl 3 rfl) ?_
              refine lv_aload hx hb dX2_front_101 (lv_at hl 2 rfl) ?_
              refine lv_iload_n hx hb dX2_front_103 rfl (lv_at hl 6 rfl) ?_
              refine lv_iload hx hb dX2_front_104 (lv_at hl 7 rfl) ?_
              refine xmuWv (va_runV (As := [.ref (ad (2 + 2 * j)), .int (nI u), .int (nI cc)]) (rest := []) hF (c_X2_takeText l D cI cS ad sh sla sle sf n fo ki st we lo n2 go kj sj wj lj ti rc rv rd tr 0 j u cc hnd (by first | assumption | omega) (by first | assumption | omega) (by first | assumption | omega) (by first | assumption | omega)) (cwV 3 hts gX2_front_X2_takeText rfl rfl rfl hV_X2_takeText ⟨Nat.le_of_ble_eq_true rfl, Nat.le_of_ble_eq_true rfl⟩) (PR.preV hG hP (ci := 2) rfl rfl) rfl rfl hl.1 rfl (lv_room (Nat.le_of_ble_eq_true rfl)) dX2_front_106 ⟨Nat.le_refl _, Nat.le_refl _⟩) hD hS rfl (fun _ => rfl) (fun u_106 H locs q_106 hP hD hS => ?_)
              try dsimp only at q_106 hP hD
              have hP : va_P D vwCl (wX cI cS ad sh sla sle sf ((cc - 1) / 5) 0 (tkF ((cc - 1) / 5) (kiT (textA (sf j) u)) ki) (tkF ((cc - 1) / 5) (stT (textA (sf j) u)) st) (tkF ((cc - 1) / 5) (weT (textA (sf j) u)) we) (tkF ((cc - 1) / 5) (loT (textA (sf j) u)) lo) n2 go kj sj wj lj ti rc rv 0 tr 0) H := hP
              have hD : va_D (AW (adX ad)) (wX cI cS ad sh sla sle sf ((cc - 1) / 5) 0 (tkF ((cc - 1) / 5) (kiT (textA (sf j) u)) ki) (tkF ((cc - 1) / 5) (stT (textA (sf j) u)) st) (tkF ((cc - 1) / 5) (weT (textA (sf j) u)) we) (tkF ((cc - 1) / 5) (loT (textA (sf j) u)) lo) n2 go kj sj wj lj ti rc rv 0 tr 0) := hD
              refine lv_aload_n hx hb dX2_front_109 rfl (lv_at hl 3 rfl) ?_
              refine va_get (D := D) (ci := 2) (v := .ref (ad 10)) (C := RX2) (T := TX2) (N := 9) hx hb yX2 (fun _ h => h) hown hG.1 hP 0 rfl rfl 1 (by decide) f20 (fun _ h => h) rfl dX2_front_110 ?_
              refine va_get (D := D) (ci := 0) (v := .int (nI ((cc - 1) / 5))) (C := RX0) (T := TX0) (N := 6) hx hb yX0 (fun _ h => h) hown hG.1 hP 10 rfl rfl 4 (by decide) f75 (fun _ h => h) rfl dX2_front_113 ?_
              exact xretM hx hb hr hlk dX2_front_116 hS () (by simp [A_front, numT, fftR, hkk, hclj, c_23, hclw, c_39, c_51, hct0, c_68, hclu, hclc, c_91, hok]) (fun t ht => by rw [ht]; rw [show ifO (okFront sh sla sle sf (nI j) (nI w) (nI u) (nI cc)) (numT (nI cc)) n = ((cc - 1) / 5) from by simp [okFront, ifO, numT, hkk, hclj, c_23, hclw, c_39, c_51, hct0, c_68, hclu, hclc, c_91, hok]]; rw [show ifO (okFront sh sla sle sf (nI j) (nI w) (nI u) (nI cc)) 0 fo = 0 from by simp [okFront, ifO, numT, hkk, hclj, c_23, hclw, c_39, c_51, hct0, c_68, hclu, hclc, c_91, hok]]; rw [show ifO (okFront sh sla sle sf (nI j) (nI w) (nI u) (nI cc)) (tkF (numT (nI cc)) (kiT (textA (sf (nI j).toNatClampNeg) (nI u).toNatClampNeg)) ki) ki = (tkF ((cc - 1) / 5) (kiT (textA (sf j) u)) ki) from by simp [okFront, ifO, numT, hkk, hclj, c_23, hclw, c_39, c_51, hct0, c_68, hclu, hclc, c_91, hok]]; rw [show ifO (okFront sh sla sle sf (nI j) (nI w) (nI u) (nI cc)) (tkF (numT (nI cc)) (stT (textA (sf (nI j).toNatClampNeg) (nI u).toNatClampNeg)) st) st = (tkF ((cc - 1) / 5) (stT (textA (sf j) u)) st) from by simp [okFront, ifO, numT, hkk, hclj, c_23, hclw, c_39, c_51, hct0, c_68, hclu, hclc, c_91, hok]]; rw [show ifO (okFront sh sla sle sf (nI j) (nI w) (nI u) (nI cc)) (tkF (numT (nI cc)) (weT (textA (sf (nI j).toNatClampNeg) (nI u).toNatClampNeg)) we) we = (tkF ((cc - 1) / 5) (weT (textA (sf j) u)) we) from by simp [okFront, ifO, numT, hkk, hclj, c_23, hclw, c_39, c_51, hct0, c_68, hclu, hclc, c_91, hok]]; rw [show ifO (okFront sh sla sle sf (nI j) (nI w) (nI u) (nI cc)) (tkF (numT (nI cc)) (loT (textA (sf (nI j).toNatClampNeg) (nI u).toNatClampNeg)) lo) lo = (tkF ((cc - 1) / 5) (loT (textA (sf j) u)) lo) from by simp [okFront, ifO, numT, hkk, hclj, c_23, hclw, c_39, c_51, hct0, c_68, hclu, hclc, c_91, hok]]; rw [show ifO (okFront sh sla sle sf (nI j) (nI w) (nI u) (nI cc)) 0 rd = 0 from by simp [okFront, ifO, numT, hkk, hclj, c_23, hclw, c_39, c_51, hct0, c_68, hclu, hclc, c_91, hok]]; rw [show S_front sh sla sle (nI j) (nI w) (nI u) (nI cc) = 0 from by simp [S_front, hkk, hclj, c_23, hclw, c_39, c_51, hct0, c_68, hclu, hclc, c_91, hok]]; exact hP)
            ·
              have hok := okN c_91
              refine lv_bipush (v := (-100)) hx hb dX2_front_94 (by decide) ?_
              refine lv_iload hx hb dX2_front_96 (lv_at hl 0 rfl) ?_
              refine lv_isub hx hb dX2_front_98 ?_
              exact xretM hx hb hr hlk dX2_front_99 hS () (by simp [A_front, numT, fftR, hkk, hclj, c_23, hclw, c_39, c_51, hct0, c_68, hclu, hclc, c_91, hok]) (fun t ht => by rw [ht]; rw [show ifO (okFront sh sla sle sf (nI j) (nI w) (nI u) (nI cc)) (numT (nI cc)) n = n from by simp [okFront, ifO, numT, hkk, hclj, c_23, hclw, c_39, c_51, hct0, c_68, hclu, hclc, c_91, hok]]; rw [show ifO (okFront sh sla sle sf (nI j) (nI w) (nI u) (nI cc)) 0 fo = fo from by simp [okFront, ifO, numT, hkk, hclj, c_23, hclw, c_39, c_51, hct0, c_68, hclu, hclc, c_91, hok]]; rw [show ifO (okFront sh sla sle sf (nI j) (nI w) (nI u) (nI cc)) (tkF (numT (nI cc)) (kiT (textA (sf (nI j).toNatClampNeg) (nI u).toNatClampNeg)) ki) ki = ki from by simp [okFront, ifO, numT, hkk, hclj, c_23, hclw, c_39, c_51, hct0, c_68, hclu, hclc, c_91, hok]]; rw [show ifO (okFront sh sla sle sf (nI j) (nI w) (nI u) (nI cc)) (tkF (numT (nI cc)) (stT (textA (sf (nI j).toNatClampNeg) (nI u).toNatClampNeg)) st) st = st from by simp [okFront, ifO, numT, hkk, hclj, c_23, hclw, c_39, c_51, hct0, c_68, hclu, hclc, c_91, hok]]; rw [show ifO (okFront sh sla sle sf (nI j) (nI w) (nI u) (nI cc)) (tkF (numT (nI cc)) (weT (textA (sf (nI j).toNatClampNeg) (nI u).toNatClampNeg)) we) we = we from by simp [okFront, ifO, numT, hkk, hclj, c_23, hclw, c_39, c_51, hct0, c_68, hclu, hclc, c_91, hok]]; rw [show ifO (okFront sh sla sle sf (nI j) (nI w) (nI u) (nI cc)) (tkF (numT (nI cc)) (loT (textA (sf (nI j).toNatClampNeg) (nI u).toNatClampNeg)) lo) lo = lo from by simp [okFront, ifO, numT, hkk, hclj, c_23, hclw, c_39, c_51, hct0, c_68, hclu, hclc, c_91, hok]]; rw [show ifO (okFront sh sla sle sf (nI j) (nI w) (nI u) (nI cc)) 0 rd = rd from by simp [okFront, ifO, numT, hkk, hclj, c_23, hclw, c_39, c_51, hct0, c_68, hclu, hclc, c_91, hok]]; rw [show S_front sh sla sle (nI j) (nI w) (nI u) (nI cc) = 0 from by simp [S_front, hkk, hclj, c_23, hclw, c_39, c_51, hct0, c_68, hclu, hclc, c_91, hok]]; exact hP)
          ·
            replace c_68 := bI_0.mp c_68
            refine lv_aload_n hx hb dX2_front_71 rfl (lv_at hl 2 rfl) ?_
            refine lv_iconst (v := nI 3) hx hb dX2_front_72 (by decide) ?_
            refine xmuW (va_runV (As := [.int (nI 3)]) (rest := []) hF (c_X2_faulted l D cI cS ad sh sla sle sf n fo ki st we lo n2 go kj sj wj lj ti rc rv rd tr 0 3 hnd) (cwV 1 hts gX2_front_X2_faulted rfl rfl rfl hV_X2_faulted ⟨Nat.le_of_ble_eq_true rfl, Nat.le_of_ble_eq_true rfl⟩) (PR.preV hG hP (ci := 2) rfl rfl) rfl rfl hl.1 rfl (lv_room (Nat.le_of_ble_eq_true rfl)) dX2_front_73 ⟨Nat.le_refl _, Nat.le_refl _⟩) hD hS rfl (fun _ => rfl) (fun r_73 u_73 H locs q_73 hP hD hS => ?_)
            try dsimp only at q_73 hP hD
            have e_73 := q_73
            subst e_73
            have hP : va_P D vwCl (wX cI cS ad sh sla sle sf n fo ki st we lo n2 go kj sj wj lj ti rc rv rd tr 3) H := hP
            have hD : va_D (AW (adX ad)) (wX cI cS ad sh sla sle sf n fo ki st we lo n2 go kj sj wj lj ti rc rv rd tr 3) := hD
            exact xretM hx hb hr hlk dX2_front_76 hS () (by simp [A_front, numT, fftR, hkk, hclj, c_23, hclw, c_39, c_51, hct0, c_68]) (fun t ht => by rw [ht]; rw [show ifO (okFront sh sla sle sf (nI j) (nI w) i ct) (numT ct) n = n from by simp [okFront, ifO, numT, hkk, hclj, c_23, hclw, c_39, c_51, hct0, c_68]]; rw [show ifO (okFront sh sla sle sf (nI j) (nI w) i ct) 0 fo = fo from by simp [okFront, ifO, numT, hkk, hclj, c_23, hclw, c_39, c_51, hct0, c_68]]; rw [show ifO (okFront sh sla sle sf (nI j) (nI w) i ct) (tkF (numT ct) (kiT (textA (sf (nI j).toNatClampNeg) i.toNatClampNeg)) ki) ki = ki from by simp [okFront, ifO, numT, hkk, hclj, c_23, hclw, c_39, c_51, hct0, c_68]]; rw [show ifO (okFront sh sla sle sf (nI j) (nI w) i ct) (tkF (numT ct) (stT (textA (sf (nI j).toNatClampNeg) i.toNatClampNeg)) st) st = st from by simp [okFront, ifO, numT, hkk, hclj, c_23, hclw, c_39, c_51, hct0, c_68]]; rw [show ifO (okFront sh sla sle sf (nI j) (nI w) i ct) (tkF (numT ct) (weT (textA (sf (nI j).toNatClampNeg) i.toNatClampNeg)) we) we = we from by simp [okFront, ifO, numT, hkk, hclj, c_23, hclw, c_39, c_51, hct0, c_68]]; rw [show ifO (okFront sh sla sle sf (nI j) (nI w) i ct) (tkF (numT ct) (loT (textA (sf (nI j).toNatClampNeg) i.toNatClampNeg)) lo) lo = lo from by simp [okFront, ifO, numT, hkk, hclj, c_23, hclw, c_39, c_51, hct0, c_68]]; rw [show ifO (okFront sh sla sle sf (nI j) (nI w) i ct) 0 rd = rd from by simp [okFront, ifO, numT, hkk, hclj, c_23, hclw, c_39, c_51, hct0, c_68]]; rw [show S_front sh sla sle (nI j) (nI w) i ct = 3 from by simp [S_front, hkk, hclj, c_23, hclw, c_39, c_51, hct0, c_68]]; exact hP)
        ·
          replace c_51 : ¬ 0 ≤ ct.toInt := (not_congr (i32_gec (b := 0) (by omega))).mp c_51
          have hct0 : ct.toInt < 0 := by omega
          have hhl : hldB (sle j) i ct = false := hldB_neg hct0
          refine lv_aload_n hx hb dX2_front_54 rfl (lv_at hl 2 rfl) ?_
          refine lv_iconst (v := nI 4) hx hb dX2_front_55 (by decide) ?_
          refine xmuW (va_runV (As := [.int (nI 4)]) (rest := []) hF (c_X2_faulted l D cI cS ad sh sla sle sf n fo ki st we lo n2 go kj sj wj lj ti rc rv rd tr 0 4 hnd) (cwV 1 hts gX2_front_X2_faulted rfl rfl rfl hV_X2_faulted ⟨Nat.le_of_ble_eq_true rfl, Nat.le_of_ble_eq_true rfl⟩) (PR.preV hG hP (ci := 2) rfl rfl) rfl rfl hl.1 rfl (lv_room (Nat.le_of_ble_eq_true rfl)) dX2_front_56 ⟨Nat.le_refl _, Nat.le_refl _⟩) hD hS rfl (fun _ => rfl) (fun r_56 u_56 H locs q_56 hP hD hS => ?_)
          try dsimp only at q_56 hP hD
          have e_56 := q_56
          subst e_56
          have hP : va_P D vwCl (wX cI cS ad sh sla sle sf n fo ki st we lo n2 go kj sj wj lj ti rc rv rd tr 4) H := hP
          have hD : va_D (AW (adX ad)) (wX cI cS ad sh sla sle sf n fo ki st we lo n2 go kj sj wj lj ti rc rv rd tr 4) := hD
          exact xretM hx hb hr hlk dX2_front_59 hS () (by simp [A_front, numT, fftR, hkk, hclj, c_23, hclw, c_39, c_51, hct0, hhl]) (fun t ht => by rw [ht]; rw [show ifO (okFront sh sla sle sf (nI j) (nI w) i ct) (numT ct) n = n from by simp [okFront, ifO, numT, hkk, hclj, c_23, hclw, c_39, c_51, hct0, hhl]]; rw [show ifO (okFront sh sla sle sf (nI j) (nI w) i ct) 0 fo = fo from by simp [okFront, ifO, numT, hkk, hclj, c_23, hclw, c_39, c_51, hct0, hhl]]; rw [show ifO (okFront sh sla sle sf (nI j) (nI w) i ct) (tkF (numT ct) (kiT (textA (sf (nI j).toNatClampNeg) i.toNatClampNeg)) ki) ki = ki from by simp [okFront, ifO, numT, hkk, hclj, c_23, hclw, c_39, c_51, hct0, hhl]]; rw [show ifO (okFront sh sla sle sf (nI j) (nI w) i ct) (tkF (numT ct) (stT (textA (sf (nI j).toNatClampNeg) i.toNatClampNeg)) st) st = st from by simp [okFront, ifO, numT, hkk, hclj, c_23, hclw, c_39, c_51, hct0, hhl]]; rw [show ifO (okFront sh sla sle sf (nI j) (nI w) i ct) (tkF (numT ct) (weT (textA (sf (nI j).toNatClampNeg) i.toNatClampNeg)) we) we = we from by simp [okFront, ifO, numT, hkk, hclj, c_23, hclw, c_39, c_51, hct0, hhl]]; rw [show ifO (okFront sh sla sle sf (nI j) (nI w) i ct) (tkF (numT ct) (loT (textA (sf (nI j).toNatClampNeg) i.toNatClampNeg)) lo) lo = lo from by simp [okFront, ifO, numT, hkk, hclj, c_23, hclw, c_39, c_51, hct0, hhl]]; rw [show ifO (okFront sh sla sle sf (nI j) (nI w) i ct) 0 rd = rd from by simp [okFront, ifO, numT, hkk, hclj, c_23, hclw, c_39, c_51, hct0, hhl]]; rw [show S_front sh sla sle (nI j) (nI w) i ct = 4 from by simp [S_front, hkk, hclj, c_23, hclw, c_39, c_51, hct0, hhl]]; exact hP)
      ·
        replace c_39 := (not_congr (nI_eq (a := fltN (sh j) (sla j) w) (b := 0) (by omega) (by omega))).mp c_39
        refine lv_aload_n hx hb dX2_front_42 rfl (lv_at hl 2 rfl) ?_
        refine lv_iload hx hb dX2_front_43 (lv_at hl 0 rfl) ?_
        refine xmuW (va_runV (As := [.int (nI (fltN (sh j) (sla j) w))]) (rest := []) hF (c_X2_faulted l D cI cS ad sh sla sle sf n fo ki st we lo n2 go kj sj wj lj ti rc rv rd tr 0 (fltN (sh j) (sla j) w) hnd) (cwV 1 hts gX2_front_X2_faulted rfl rfl rfl hV_X2_faulted ⟨Nat.le_of_ble_eq_true rfl, Nat.le_of_ble_eq_true rfl⟩) (PR.preV hG hP (ci := 2) rfl rfl) rfl rfl hl.1 rfl (lv_room (Nat.le_of_ble_eq_true rfl)) dX2_front_45 ⟨Nat.le_refl _, Nat.le_refl _⟩) hD hS rfl (fun _ => rfl) (fun r_45 u_45 H locs q_45 hP hD hS => ?_)
        try dsimp only at q_45 hP hD
        have e_45 := q_45
        subst e_45
        have hP : va_P D vwCl (wX cI cS ad sh sla sle sf n fo ki st we lo n2 go kj sj wj lj ti rc rv rd tr (fltN (sh j) (sla j) w)) H := hP
        have hD : va_D (AW (adX ad)) (wX cI cS ad sh sla sle sf n fo ki st we lo n2 go kj sj wj lj ti rc rv rd tr (fltN (sh j) (sla j) w)) := hD
        exact xretM hx hb hr hlk dX2_front_48 hS () (by simp [A_front, numT, fftR, hkk, hclj, c_23, hclw, c_39]) (fun t ht => by rw [ht]; rw [show ifO (okFront sh sla sle sf (nI j) (nI w) i ct) (numT ct) n = n from by simp [okFront, ifO, numT, hkk, hclj, c_23, hclw, c_39]]; rw [show ifO (okFront sh sla sle sf (nI j) (nI w) i ct) 0 fo = fo from by simp [okFront, ifO, numT, hkk, hclj, c_23, hclw, c_39]]; rw [show ifO (okFront sh sla sle sf (nI j) (nI w) i ct) (tkF (numT ct) (kiT (textA (sf (nI j).toNatClampNeg) i.toNatClampNeg)) ki) ki = ki from by simp [okFront, ifO, numT, hkk, hclj, c_23, hclw, c_39]]; rw [show ifO (okFront sh sla sle sf (nI j) (nI w) i ct) (tkF (numT ct) (stT (textA (sf (nI j).toNatClampNeg) i.toNatClampNeg)) st) st = st from by simp [okFront, ifO, numT, hkk, hclj, c_23, hclw, c_39]]; rw [show ifO (okFront sh sla sle sf (nI j) (nI w) i ct) (tkF (numT ct) (weT (textA (sf (nI j).toNatClampNeg) i.toNatClampNeg)) we) we = we from by simp [okFront, ifO, numT, hkk, hclj, c_23, hclw, c_39]]; rw [show ifO (okFront sh sla sle sf (nI j) (nI w) i ct) (tkF (numT ct) (loT (textA (sf (nI j).toNatClampNeg) i.toNatClampNeg)) lo) lo = lo from by simp [okFront, ifO, numT, hkk, hclj, c_23, hclw, c_39]]; rw [show ifO (okFront sh sla sle sf (nI j) (nI w) i ct) 0 rd = rd from by simp [okFront, ifO, numT, hkk, hclj, c_23, hclw, c_39]]; rw [show S_front sh sla sle (nI j) (nI w) i ct = (fltN (sh j) (sla j) w) from by simp [S_front, hkk, hclj, c_23, hclw, c_39]]; exact hP)
    ·
      replace c_23 := bI_0.mp c_23
      refine lv_bipush (v := (-2)) hx hb dX2_front_26 (by decide) ?_
      exact xretM hx hb hr hlk dX2_front_28 hS () (by simp [A_front, numT, fftR, hkk, hclj, c_23]) (fun t ht => by rw [ht]; rw [show ifO (okFront sh sla sle sf (nI j) la i ct) (numT ct) n = n from by simp [okFront, ifO, numT, hkk, hclj, c_23]]; rw [show ifO (okFront sh sla sle sf (nI j) la i ct) 0 fo = fo from by simp [okFront, ifO, numT, hkk, hclj, c_23]]; rw [show ifO (okFront sh sla sle sf (nI j) la i ct) (tkF (numT ct) (kiT (textA (sf (nI j).toNatClampNeg) i.toNatClampNeg)) ki) ki = ki from by simp [okFront, ifO, numT, hkk, hclj, c_23]]; rw [show ifO (okFront sh sla sle sf (nI j) la i ct) (tkF (numT ct) (stT (textA (sf (nI j).toNatClampNeg) i.toNatClampNeg)) st) st = st from by simp [okFront, ifO, numT, hkk, hclj, c_23]]; rw [show ifO (okFront sh sla sle sf (nI j) la i ct) (tkF (numT ct) (weT (textA (sf (nI j).toNatClampNeg) i.toNatClampNeg)) we) we = we from by simp [okFront, ifO, numT, hkk, hclj, c_23]]; rw [show ifO (okFront sh sla sle sf (nI j) la i ct) (tkF (numT ct) (loT (textA (sf (nI j).toNatClampNeg) i.toNatClampNeg)) lo) lo = lo from by simp [okFront, ifO, numT, hkk, hclj, c_23]]; rw [show ifO (okFront sh sla sle sf (nI j) la i ct) 0 rd = rd from by simp [okFront, ifO, numT, hkk, hclj, c_23]]; rw [show S_front sh sla sle (nI j) la i ct = 0 from by simp [S_front, hkk, hclj, c_23]]; exact hP)
